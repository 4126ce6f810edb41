/-! ===== the reference's rounds ===== -/
def KV (T : t_D) (t : k_St) (v : Nat → Nat) : Prop := ∀ h, h < T 0 4 → t.1 10 h = nI (v h)
def mr (t u : k_St) : Prop := (∀ o k, o ≠ 10 → o ≠ 11 → u.1 o k = t.1 o k) ∧ u.2 = t.2
theorem mr.rf (t : k_St) : mr t t := ⟨fun _ _ _ _ => rfl, rfl⟩
theorem mr.tr {t u v : k_St} (h : mr t u) (g : mr u v) : mr t v := ⟨fun o k a b => (g.1 o k a b).trans (h.1 o k a b), g.2.trans h.2⟩
theorem mr.mtt {T : t_D} {t u : k_St} (h : mr t u) (g : MTT T t) : MTT T u := g.same (fun o k _ _ => h.1 o k (by omega) (by omega))
theorem mr.bm {N : Nat} {t u : k_St} {L : List Nat} (h : mr t u) (g : BM N t L) : BM N u L := g.sm (fun o k _ => h.1 o k (by omega) (by omega))
theorem fcanTell2 {T : t_D} (w : Tw T) {t : k_St} (hM : MTT T t) {p : Nat} (hp : p < 32) : f_M_canTell t (nI p) = !((T 0 6).testBit p) := by
  have h5 := w.2.2.2.2.1
  have hQ := w.2.2.2.2.2.2.1
  have hQ2 : 2 ^ T 0 4 ≤ 2 ^ 5 := Nat.pow_le_pow_right (by omega) h5
  unfold f_M_canTell
  rw [hM.1 6 (by omega), fMbit (by omega) hp]
  cases (T 0 6).testBit p <;> rfl
theorem fmeets33 {T : t_D} (w : Tw T) {n r c : Nat} (hr : (wy (T 0 4))[r]? = some c) {v : Nat → Nat} : ∀ (f j : Nat) (t : k_St), j ≤ T 0 4 → T 0 4 - j < f → MTT T t → BM (T 0 4) t (wy (T 0 4)) → KV T t (ac T v c j) → (∀ h, h < T 0 4 → t.1 11 h = nI (v h)) → ∃ u, f_M_meetsBy_33 n f (nI r) (nI j) t = some u ∧ mr t u ∧ KV T u (bh T v c) := by
  have h5 := w.2.2.2.2.1
  have p2 := (wy_pf (T 0 4) h5).2.1
  have hl := (List.getElem?_eq_some_iff.mp hr).1
  intro f
  induction f with
  | zero => intro j t _ h; omega
  | succ f ih =>
    intro j t hj hf hM hB hK h11
    rw [f_M_meetsBy_33, hM.1 4 (by omega)]
    rcases Nat.lt_or_ge j (T 0 4) with hlt | hge
    · have hd := dgt_le (T 0 4) c j
      rw [if_neg (nI_ge hlt (by omega)), l5, pk_mul, nI_add, kgi (kin (by omega) (by decide)), nI_clamp (n := 5 * r + j) (by omega), hB.2 r c hr j hlt, klt, klt, klt, nI_1]
      by_cases e : T 0 4 ≤ dgt (T 0 4) c j
      · rw [if_pos (nI_le e (by omega))]
        rw [ac_no (by unfold bh; rw [if_neg (fun z => by have := z.2.1; omega)])] at hK
        exact ih (j + 1) t (by omega) (by omega) hM hB hK h11
      · rw [if_neg (nI_ge (by omega) (by omega)), fcanTell2 w hM (by omega)]
        by_cases q : (T 0 6).testBit (dgt (T 0 4) c j) = true
        · rw [if_pos (k_beq (by rw [q]; rfl))]
          rw [ac_no (by unfold bh; rw [if_neg (fun z => by rw [z.2.2] at q; simp at q)])] at hK
          exact ih (j + 1) t (by omega) (by omega) hM hB hK h11
        · have q' : (T 0 6).testBit (dgt (T 0 4) c j) = false := by simpa using q
          have eac : ac T v c j j = v j := by unfold ac; rw [if_neg (by omega)]
          have ebh : bh T v c j = v j ||| v (dgt (T 0 4) c j) := by unfold bh; rw [if_pos ⟨hlt, by omega, q'⟩]
          rw [if_neg (k_bne (by rw [q']; rfl)), kgi (kin (by omega) (by decide)), kgi (kin (by omega) (by decide)), kgi (kin (by omega) (by decide)), klt, nI_clamp (n := j) (by omega), nI_clamp (n := dgt (T 0 4) c j) (by omega), hK j hlt, h11 _ (by omega), nI_or]
          obtain ⟨u, a, b, d⟩ := ih (j + 1) (k_sI t 10 j (nI (ac T v c j j ||| v (dgt (T 0 4) c j)))) (by omega) (by omega) (hM.same (fun o k _ _ => by rw [sI1, if_neg (by omega)])) (hB.sm (fun o k _ => by rw [sI1, if_neg (by omega)])) (fun h hh => by
            rw [← ac_yes ebh, sI1]
            unfold vup
            by_cases z : h = j
            · rw [if_pos ⟨rfl, z⟩, if_pos z]
            · rw [if_neg (by omega), if_neg z]
              exact hK h hh) (fun h hh => by rw [sI1, if_neg (by omega)]; exact h11 h hh)
          exact ⟨u, a, mr.tr (u := k_sI t 10 j (nI (ac T v c j j ||| v (dgt (T 0 4) c j)))) ⟨fun o k _ _ => by rw [sI1, if_neg (by omega)], rfl⟩ b, d⟩
    · rw [if_pos (nI_le hge (by omega))]
      refine ⟨t, rfl, mr.rf t, ?_⟩
      rw [show j = T 0 4 by omega, ac_end] at hK
      exact hK
theorem fmeetsBy {T : t_D} (w : Tw T) {n r c : Nat} (hn : 200 ≤ n) (hr : (wy (T 0 4))[r]? = some c) {v : Nat → Nat} {t : k_St} (hM : MTT T t) (hB : BM (T 0 4) t (wy (T 0 4))) (hK : KV T t v) : ∃ u, f_M_meetsBy n (nI r) t = some u ∧ mr t u ∧ KV T u (bh T v c) := by
  have h5 := w.2.2.2.2.1
  have key : ∀ (f j : Nat) (t : k_St), j ≤ T 0 4 → T 0 4 - j < f → MTT T t → BM (T 0 4) t (wy (T 0 4)) → KV T t v → (∀ h, h < j → t.1 11 h = nI (v h)) → ∃ u, f_M_meetsBy_2 n f (nI r) (nI j) t = some u ∧ mr t u ∧ KV T u (bh T v c) := by
    intro f
    induction f with
    | zero => intro j t _ h; omega
    | succ f ih =>
      intro j t hj hf hM hB hK h11
      rw [f_M_meetsBy_2, hM.1 4 (by omega)]
      rcases Nat.lt_or_ge j (T 0 4) with hlt | hge
      · rw [if_neg (nI_ge hlt (by omega)), kgi (kin (by omega) (by decide)), kgi (kin (by omega) (by decide)), klt, klt, nI_1, nI_clamp (n := j) (by omega), hK j hlt]
        obtain ⟨u, a, b, d⟩ := ih (j + 1) (k_sI t 11 j (nI (v j))) (by omega) (by omega) (hM.same (fun o k _ _ => by rw [sI1, if_neg (by omega)])) (hB.sm (fun o k _ => by rw [sI1, if_neg (by omega)])) (fun h hh => by rw [sI1, if_neg (by omega)]; exact hK h hh) (fun h hh => by
          rw [sI1]
          by_cases z : h = j
          · rw [if_pos ⟨rfl, z⟩, z]
          · rw [if_neg (by omega)]; exact h11 h (by omega))
        exact ⟨u, a, mr.tr (u := k_sI t 11 j (nI (v j))) ⟨fun o k _ _ => by rw [sI1, if_neg (by omega)], rfl⟩ b, d⟩
      · rw [if_pos (nI_le hge (by omega))]
        have e0 : ac T v c 0 = v := by funext k; unfold ac; rw [if_neg (by omega)]
        exact fmeets33 w hr n 0 t (by omega) (by omega) hM hB (by rw [e0]; exact hK) (fun h hh => h11 h (by omega))
  exact key n 0 t (by omega) (by omega) hM hB hK (fun h hh => by omega)
theorem frowOf8 {n W : Nat} {t : k_St} (hW : 0 < W) (hW2 : W ≤ 26) (h31 : t.1 0 31 = nI W) (j : Nat) (hj : j < 1000) : ∀ (m f x : Nat), m < f → m < 1000 → x < 2 ^ 31 → f_M_rowOf_8 n t f (nI j) (nI x) (nI (j + m)) = some (nI (x / W ^ m % W)) := by
  have ne : ¬ nI W = 0 := neL (b := 0) 0 (by omega) rfl (by omega) (by omega)
  intro m
  induction m with
  | zero =>
    intro f x hf _ hx
    obtain ⟨f, rfl⟩ : ∃ f', f = f' + 1 := ⟨f - 1, by omega⟩
    rw [f_M_rowOf_8, if_pos (nI_le (by omega) (by omega)), h31, kgd ne, pk_rem hx hW (by omega), Nat.pow_zero, Nat.div_one]
  | succ m ih =>
    intro f x hf hm hx
    obtain ⟨f, rfl⟩ : ∃ f', f = f' + 1 := ⟨f - 1, by omega⟩
    rw [f_M_rowOf_8, if_neg (nI_ge (by omega) (by omega)), h31, kgd ne, klt, klt, pk_div hx hW (by omega), show j + (m + 1) = (j + m) + 1 by omega, nI_dec, ih f _ (by omega) (by omega) (Nat.lt_of_le_of_lt (Nat.div_le_self _ _) hx), Nat.div_div_eq_div_mul, Nat.pow_succ, Nat.mul_comm W]
theorem frowOf {n W : Nat} (hn : 200 ≤ n) {t : k_St} (hW : 0 < W) (hW2 : W ≤ 26) (h31 : t.1 0 31 = nI W) {k j x : Nat} (hj : j < k) (hk : k ≤ 3) (hx : x < 2 ^ 31) : f_M_rowOf n t (nI x) (nI k) (nI j) = some (nI (x / W ^ (k - 1 - j) % W)) := by
  obtain ⟨k, rfl⟩ : ∃ k', k = k' + 1 := ⟨k - 1, by omega⟩
  unfold f_M_rowOf
  rw [nI_pred, klt]
  have := frowOf8 (n := n) hW hW2 h31 j (by omega) (k - j) n x (by omega) (by omega) hx
  rw [show j + (k - j) = k by omega] at this
  rw [this, show k + 1 - 1 - j = k - j by omega]
theorem fcodesOf {n W : Nat} (hn : 200 ≤ n) {t : k_St} (h31 : t.1 0 31 = nI W) {k : Nat} (hk : k ≤ 3) : f_M_codesOf n t (nI k) = some (nI (W ^ k)) := by
  have key : ∀ (f i : Nat), i ≤ k → k - i < f → f_M_codesOf_4 n t f (nI k) (nI (W ^ i)) (nI i) = some (nI (W ^ k)) := by
    intro f
    induction f with
    | zero => intro i _ q; omega
    | succ f ih =>
      intro i hi hf
      rw [f_M_codesOf_4]
      rcases Nat.lt_or_ge i k with hl | hl
      · rw [if_neg (nI_ge hl (by omega)), h31, klt, klt, pk_mul, nI_1, ← Nat.pow_succ]
        exact ih (i + 1) (by omega) (by omega)
      · rw [if_pos (nI_le hl (by omega)), show i = k by omega]
  have := key n 0 (by omega) (by omega)
  rw [Nat.pow_zero] at this
  exact this
/-- the rounds of a code -/
def dgc (T : t_D) (k c : Nat) : List Nat := (List.range' 0 k).map (fun j => c / wn T ^ (k - 1 - j) % wn T)
def rn (T : t_D) (k : Nat) (v : Nat → Nat) (c : Nat) : Nat → Nat := (dgc T k c).foldl (fun v i => bh T v (wg T i)) v
theorem fallKnow {T : t_D} (w : Tw T) {n : Nat} (hn : 200 ≤ n) {v : Nat → Nat} {t : k_St} (g : MB T v t) (hv : pk8 v) (hB : BM (T 0 4) t (wy (T 0 4))) {a : Nat} (ha : a = un v (T 0 4)) (ha256 : a < 256) {k c : Nat} (hk : k ≤ 3) (hc : c < 2 ^ 31) : ∃ u, f_M_allKnow n (nI c) (nI k) t = some (nI (cnt (rn T k v c) a (T 0 4)), u) ∧ mr t u := by
  have h5 := w.2.2.2.2.1
  obtain ⟨-, p2, p3⟩ := wy_pf (T 0 4) h5
  have hwn : wn T = (wy (T 0 4)).length := rfl
  have k74 : ∀ (v : Nat → Nat) (f j : Nat) (t : k_St), pk8 v → j ≤ T 0 4 → T 0 4 - j < f → MTT T t → KV T t v → f_M_allKnow_74 n f (nI a) (nI (cnt v a j)) (nI j) t = some (nI (cnt v a (T 0 4)), t) := by
    intro v f
    induction f with
    | zero => intro j t _ _ q; omega
    | succ f ih =>
      intro j t hv hj hf hM hK
      rw [f_M_allKnow_74, hM.1 4 (by omega)]
      rcases Nat.lt_or_ge j (T 0 4) with hl | hl
      · have hvj := hv j (by omega)
        have i := ih (j + 1) t hv (by omega) (by omega) hM hK
        rw [if_neg (nI_ge hl (by omega)), kgi (kin (by omega) (by decide)), nI_clamp (n := j) (by omega), hK j hl]
        rw [cnt] at i
        by_cases e : v j = a
        · rw [if_pos (by rw [e]), klt, klt, nI_1, nI_1]
          rw [if_pos e] at i
          exact i
        · rw [if_neg (fun q => e (nI_inj (by omega) (by omega) q)), klt, klt, nI_1]
          rw [if_neg e] at i
          exact (congrArg (fun z => f_M_allKnow_74 n f (nI a) z (nI (j + 1)) t) (nI_add (cnt v a j) 0)).trans i
      · rw [if_pos (nI_le hl (by omega)), show j = T 0 4 by omega]
  have k44 : ∀ (f j : Nat) (v : Nat → Nat) (t : k_St), pk8 v → j ≤ k → k - j < f → MTT T t → BM (T 0 4) t (wy (T 0 4)) → KV T t v → ∃ u, f_M_allKnow_44 n f (nI c) (nI k) (nI a) (nI j) t = some (nI (cnt (((List.range' j (k - j)).map (fun j => c / wn T ^ (k - 1 - j) % wn T)).foldl (fun v i => bh T v (wg T i)) v) a (T 0 4)), u) ∧ mr t u := by
    intro f
    induction f with
    | zero => intro j v t _ _ q; omega
    | succ f ih =>
      intro j v t hv hj hf hM hB hK
      rw [f_M_allKnow_44]
      rcases Nat.lt_or_ge j k with hl | hl
      · have hrow : c / wn T ^ (k - 1 - j) % wn T < wn T := Nat.mod_lt _ (by omega)
        obtain ⟨u, e, b, d⟩ := fmeetsBy w hn (wg_get hrow) hM hB hK
        obtain ⟨y, e2, b2⟩ := ih (j + 1) _ u (bh8 w hv _) (by omega) (by omega) (b.mtt hM) (b.bm hB) d
        rw [if_neg (nI_ge hl (by omega)), frowOf hn (W := wn T) (by omega) (by omega) hB.1 hl hk hc, kcp, e, kcv, klt, nI_1, e2, show k - j = (k - (j + 1)) + 1 by omega, List.range'_succ, List.map_cons, List.foldl_cons]
        exact ⟨y, rfl, b.tr b2⟩
      · rw [if_pos (nI_le hl (by omega)), show k - j = 0 by omega]
        exact ⟨t, k74 v n 0 t hv (by omega) (by omega) hM hK, mr.rf t⟩
  have k9 : ∀ (f j : Nat) (t : k_St), j ≤ T 0 4 → T 0 4 - j < f → MB T v t → BM (T 0 4) t (wy (T 0 4)) → (∀ h, h < j → t.1 10 h = nI (v h)) → ∃ u, f_M_allKnow_9 n f (nI c) (nI k) (nI a) (nI j) t = some (nI (cnt (rn T k v c) a (T 0 4)), u) ∧ mr t u := by
    intro f
    induction f with
    | zero => intro j t _ q; omega
    | succ f ih =>
      intro j t hj hf g hB hK
      rw [f_M_allKnow_9, g.1.1 4 (by omega)]
      rcases Nat.lt_or_ge j (T 0 4) with hl | hl
      · rw [if_neg (nI_ge hl (by omega)), kgi (kin (by omega) (by decide)), kgi (kin (by omega) (by decide)), klt, klt, nI_1, nI_clamp (n := j) (by omega), g.2 j (by omega)]
        have tz : mr t (k_sI t 10 j (nI (v j))) := ⟨fun o k _ _ => by rw [sI1, if_neg (by omega)], rfl⟩
        obtain ⟨u, e, b⟩ := ih (j + 1) (k_sI t 10 j (nI (v j))) (by omega) (by omega) ⟨tz.mtt g.1, fun h hh => by rw [tz.1 2 h (by omega) (by omega)]; exact g.2 h hh⟩ (tz.bm hB) (fun h hh => by
          rw [sI1]
          by_cases z : h = j
          · rw [if_pos ⟨rfl, z⟩, z]
          · rw [if_neg (by omega)]; exact hK h (by omega))
        exact ⟨u, e, tz.tr b⟩
      · rw [if_pos (nI_le hl (by omega))]
        have := k44 n 0 v t hv (by omega) (by omega) g.1 hB (fun h hh => hK h (by omega))
        rw [Nat.sub_zero] at this
        exact this
  unfold f_M_allKnow
  rw [fknownAll w g (by omega), kcp, ← ha]
  exact k9 n 0 t (by omega) (by omega) g hB (fun h hh => by omega)
