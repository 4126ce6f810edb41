/-! ===== slips of the reference ===== -/
theorem fMs15 {T : t_D} (w : Tw T) {n i : Nat} {r : List Nat} (hr : ta_row T r) (hi : i ≤ T 0 7) {rec2 : Int32 → k_St → Option (Int32 × k_St)} : ∀ (f j : Nat) (t : k_St), j ≤ r.length + 1 → r.length + 1 - j < f → MTT T t → Hs t r → (∀ a b, a < i → b ≤ r.length → t.1 16 (9 * a + b) = nI (ed (T 7) (rf r) a b)) → (∀ b, b < j → t.1 16 (9 * i + b) = nI (ed (T 7) (rf r) i b)) → ∃ u, f_M_slipsNow_15 n rec2 f (nI i) (nI j) t = rec2 (nI (i + 1)) u ∧ (∀ o k, o ≠ 16 → u.1 o k = t.1 o k) ∧ u.2 = t.2 ∧ ∀ a b, a < i + 1 → b ≤ r.length → u.1 16 (9 * a + b) = nI (ed (T 7) (rf r) a b) := by
  have h8 := hr.2.1
  have h6 := w.2.2.2.2.2.2.2.1
  have hP := w.1.2
  intro f
  induction f with
  | zero => intro j t _ h; omega
  | succ f ih =>
    intro j t hj hf hM hH hlo hrow
    rw [f_M_slipsNow_15, hH.1]
    rcases Nat.lt_or_ge r.length j with hl | hl
    · rw [if_pos (nI_lt hl (by omega)), klt, nI_1]
      refine ⟨t, rfl, fun _ _ _ => rfl, rfl, fun a b ha hb => ?_⟩
      by_cases e : a = i
      · rw [e]; exact hrow b (by omega)
      · exact hlo a b (by omega) hb
    · rw [if_neg (nI_nlt hl (by omega))]
      have step : ∃ u, f_M_slipsNow_15 n rec2 f (nI i) (nI (j + 1)) (k_sI t 16 (9 * i + j) (nI (ed (T 7) (rf r) i j))) = rec2 (nI (i + 1)) u ∧ (∀ o k, o ≠ 16 → u.1 o k = t.1 o k) ∧ u.2 = t.2 ∧ ∀ a b, a < i + 1 → b ≤ r.length → u.1 16 (9 * a + b) = nI (ed (T 7) (rf r) a b) := by
        obtain ⟨u, a, c1, c2, c3⟩ := ih (j + 1) (k_sI t 16 (9 * i + j) (nI (ed (T 7) (rf r) i j))) (by omega) (by omega) (hM.same (fun o k _ _ => by rw [sI1, if_neg (by omega)])) ⟨by rw [sI1, if_neg (by omega)]; exact hH.1, by rw [sI1, if_neg (by omega)]; exact hH.2.1, fun i p hp => by rw [sI1, if_neg (by omega)]; exact hH.2.2 i p hp⟩ (fun a b ha hb => by rw [sI1, if_neg (by omega)]; exact hlo a b ha hb) (fun b hb => by
          rw [sI1]
          by_cases e : b = j
          · rw [if_pos ⟨rfl, by omega⟩, e]
          · rw [if_neg (by omega)]; exact hrow b (by omega))
        exact ⟨u, a, fun o k ho => by rw [c1 o k ho, sI1, if_neg (by omega)], c2, c3⟩
      have z31 : ed (T 7) (rf r) i j = i + j → ∃ u, f_M_slipsNow_31 n rec2 (f_M_slipsNow_15 n rec2 f) (nI i) (nI j) t = rec2 (nI (i + 1)) u ∧ (∀ o k, o ≠ 16 → u.1 o k = t.1 o k) ∧ u.2 = t.2 ∧ ∀ a b, a < i + 1 → b ≤ r.length → u.1 16 (9 * a + b) = nI (ed (T 7) (rf r) a b) := by
        intro e
        unfold f_M_slipsNow_31
        rw [fat, kgi (kin (by omega) (by decide)), nI_clamp (by omega), klt, klt, nI_add, nI_1, ← e]
        exact step
      by_cases ei : i = 0
      · rw [if_pos (by rw [ei]; rfl)]
        exact z31 (by rw [ei, ed]; omega)
      · rw [if_neg (neL 0 ei rfl (by omega) (by omega))]
        by_cases ej : j = 0
        · rw [if_pos (by rw [ej]; rfl)]
          exact z31 (by rw [ej, ed_z]; omega)
        · rw [if_neg (neL 0 ej rfl (by omega) (by omega))]
          obtain ⟨i, rfl⟩ : ∃ i', i = i' + 1 := ⟨i - 1, by omega⟩
          obtain ⟨j, rfl⟩ : ∃ j', j = j' + 1 := ⟨j - 1, by omega⟩
          have b1 := ed_le (T 7) (rf r) i j
          have b2 := ed_le (T 7) (rf r) i (j + 1)
          have b3 := ed_le (T 7) (rf r) (i + 1) j
          have hmix := w.2.2.2.2.2.2.2.2.2.2.1 i (by omega)
          have hpc := hr.2.2.1 (rf r j) (List.mem_of_getElem? (rf_get (by omega)))
          have fin : ∀ z : Nat, z = (if T 7 i = rf r j then 0 else 1) → ∃ u, f_M_slipsNow_88 n rec2 (f_M_slipsNow_15 n rec2 f) (nI (i + 1)) (nI (j + 1)) (nI (ed (T 7) (rf r) i j)) (nI z) t = rec2 (nI (i + 1 + 1)) u ∧ (∀ o k, o ≠ 16 → u.1 o k = t.1 o k) ∧ u.2 = t.2 ∧ ∀ a b, a < i + 1 + 1 → b ≤ r.length → u.1 16 (9 * a + b) = nI (ed (T 7) (rf r) a b) := by
            intro z hz
            have hz1 : z ≤ 1 := by rw [hz]; split <;> omega
            have hmin : min (ed (T 7) (rf r) i j + z) (1 + min (ed (T 7) (rf r) i (j + 1)) (ed (T 7) (rf r) (i + 1) j)) = ed (T 7) (rf r) (i + 1) (j + 1) := by rw [ed, hz]
            unfold f_M_slipsNow_88
            rw [klt, nI_pred, nI_pred, fat, fat, fat, kgi (kin (by omega) (by decide)), kgi (kin (by omega) (by decide)), kgi (kin (by omega) (by decide)), klt, klt, nI_clamp (by omega), nI_clamp (by omega), nI_clamp (by omega), hlo i (j + 1) (by omega) hl, hrow j (by omega), fless (by omega) (by omega), nI_add, nI_1, l1, nI_add, fless (by omega) (by omega), hmin]
            exact step
          rw [nI_pred, nI_pred, fat, kgi (kin (by omega) (by decide)), kgi (kin (by omega) (by decide)), kgi (kin (by omega) (by decide)), nI_clamp (by omega), nI_clamp (by omega), nI_clamp (by omega), hlo i j (by omega) (by omega), hM.2.2.2 i (by omega), hH.2.2 j (rf r j) (rf_get (by omega))]
          by_cases e : T 7 i = rf r j
          · rw [if_pos (by rw [e])]
            exact fin 0 (by rw [if_pos e])
          · rw [if_neg (fun q => e (nI_inj (by omega) (by omega) q))]
            exact fin 1 (by rw [if_neg e])
theorem Hs.sm {t u : k_St} {r : List Nat} (h : Hs t r) (e : ∀ o k, o = 0 ∧ k ≤ 39 ∨ o = 6 → u.1 o k = t.1 o k) : Hs u r := ⟨by rw [e 0 22 (by omega)]; exact h.1, by rw [e 0 23 (by omega)]; exact h.2.1, fun i p hp => by rw [e 6 i (by omega)]; exact h.2.2 i p hp⟩
theorem fMs2 {T : t_D} (w : Tw T) {n : Nat} {r : List Nat} (hr : ta_row T r) (hn : 200 ≤ n) : ∀ (f i : Nat) (t : k_St), i ≤ T 0 7 + 1 → T 0 7 + 1 - i < f → MTT T t → Hs t r → (∀ a b, a < i → b ≤ r.length → t.1 16 (9 * a + b) = nI (ed (T 7) (rf r) a b)) → ∃ u, f_M_slipsNow_2 n f (nI i) t = some (nI (sd T r), u) ∧ (∀ o k, o ≠ 16 → u.1 o k = t.1 o k) ∧ u.2 = t.2 := by
  have h8 := hr.2.1
  have h6 := w.2.2.2.2.2.2.2.1
  intro f
  induction f with
  | zero => intro i t _ h; omega
  | succ f ih =>
    intro i t hi hf hM hH hlo
    rw [f_M_slipsNow_2, hM.1 7 (by omega), hH.1]
    rcases Nat.lt_or_ge (T 0 7) i with hl | hl
    · rw [if_pos (nI_lt hl (by omega)), fat, kgi (kin (by omega) (by decide)), nI_clamp (by omega), hlo (T 0 7) r.length hl (by omega)]
      exact ⟨t, rfl, fun _ _ _ => rfl, rfl⟩
    · rw [if_neg (nI_nlt hl (by omega))]
      obtain ⟨u, a, c1, c2, c3⟩ := fMs15 (n := n) (rec2 := f_M_slipsNow_2 n f) w hr hl n 0 t (by omega) (by omega) hM hH hlo (fun b hb => by omega)
      obtain ⟨u2, a2, d1, d2⟩ := ih (i + 1) u (by omega) (by omega) (hM.same (fun o k _ _ => c1 o k (by omega))) (hH.sm (fun o k q => c1 o k (by omega))) c3
      rw [show (0 : Int32) = nI 0 from rfl, a, a2]
      exact ⟨u2, rfl, fun o k ho => (d1 o k ho).trans (c1 o k ho), d2.trans c2⟩
theorem fMslipsNow {T : t_D} (w : Tw T) {n : Nat} {r : List Nat} (hr : ta_row T r) (hn : 200 ≤ n) {t : k_St} (hM : MTT T t) (hH : Hs t r) : ∃ u, f_M_slipsNow n t = some (nI (sd T r), u) ∧ (∀ o k, o ≠ 16 → u.1 o k = t.1 o k) ∧ u.2 = t.2 := by
  have h6 := w.2.2.2.2.2.2.2.1
  exact fMs2 w hr hn n 0 t (by omega) (by omega) hM hH (fun a b ha => by omega)
/-- what the reference's slips leave alone -/
def ms2 (t u : k_St) : Prop := u.2 = t.2 ∧ ∀ o k, ¬ (o = 0 ∧ 22 ≤ k ∧ k ≤ 25) → ¬ (o = 0 ∧ 40 ≤ k ∧ k ≤ 41) → o ≠ 6 → o ≠ 7 → o ≠ 16 → o ≠ 17 → u.1 o k = t.1 o k
theorem ms2.rf (t : k_St) : ms2 t t := ⟨rfl, fun _ _ _ _ _ _ _ _ => rfl⟩
theorem ms2.tr {t u v : k_St} (h : ms2 t u) (g : ms2 u v) : ms2 t v := ⟨g.1.trans h.1, fun o k a b c d e f => (g.2 o k a b c d e f).trans (h.2 o k a b c d e f)⟩
theorem mz.ms2 {t u : k_St} (h : mz t u) : ms2 t u := ⟨h.1, fun o k a _ c d _ _ => h.2 o k a c d⟩
theorem ms2.mk {t u : k_St} (h : ms2 t u) : mk t u := fun o k a => h.2 o k (by omega) (by omega) (by omega) (by omega) (by omega) (by omega)
theorem ms2.s (t : k_St) (o j : Nat) (v : Int32) (h : (o = 0 ∧ 40 ≤ j ∧ j ≤ 41) ∨ o = 16 ∨ o = 17) : ms2 t (k_sI t o j v) := ⟨rfl, fun o' k a b c d e f => by rw [sI1, if_neg (by omega)]⟩
theorem Aw.sm {T : t_D} {S : Nat} {t u : k_St} {R : List (List Nat)} (h : Aw T S t R) (e : ∀ o j, o = 0 ∧ j ≤ 39 ∨ o = 6 ∨ (18 ≤ o ∧ o ≤ 25) → u.1 o j = t.1 o j) : Aw T S u R := by
  have key : ∀ rp c, Ps T S t rp c → Ps T S u rp c := by
    rintro rp c ⟨hM, h25, h22, h23, h24, h6, h66, hok⟩
    exact ⟨hM.same (fun o k a b => e o k (by omega)), by rw [e 0 25 (by omega)]; exact h25, by rw [e 0 22 (by omega)]; exact h22, by rw [e 0 23 (by omega)]; exact h23, by rw [e 0 24 (by omega)]; exact h24, fun i p hi => by rw [e 6 i (by omega)]; exact h6 i p hi, by rw [e 6 _ (by omega)]; exact h66, hok⟩
  rcases h with ⟨rp, c, h1, h2, h3, h4⟩ | ⟨q, rp, h1, h3, h4⟩
  · exact Or.inl ⟨rp, c, key _ _ h1, h2, h3, h4⟩
  · exact Or.inr ⟨q, rp, key _ _ h1, h3, h4⟩
theorem Aw.mtt {T : t_D} {S : Nat} {t : k_St} {R : List (List Nat)} (h : Aw T S t R) : MTT T t := by
  rcases h with ⟨rp, c, h1, -⟩ | ⟨q, rp, h1, -⟩
  · exact h1.1
  · exact h1.1
def slM (s : slS) (x1 : Int32) (t : k_St) : Prop := match s with
  | none => x1 = -2 ∧ t.1 0 41 = 0 ∧ t.1 0 40 = 0
  | some (b, r, k) => b ≤ 14 ∧ x1 = nI b ∧ t.1 0 41 = nI k ∧ t.1 0 40 = nI r.length ∧ r.length ≤ 8 ∧ ∀ i p, r[i]? = some p → t.1 17 i = nI p
theorem fMs82 {n : Nat} {rec24 : Int32 → k_St → Option (Int32 × k_St)} {r : List Nat} (h8 : r.length ≤ 8) (x1 : Int32) : ∀ (f i : Nat) (t : k_St), i ≤ r.length → r.length - i < f → Hs t r → (∀ j p, j < i → r[j]? = some p → t.1 17 j = nI p) → ∃ u, f_M_slipsAll_82 n rec24 f x1 (nI i) t = rec24 x1 u ∧ (∀ o k, o ≠ 17 → u.1 o k = t.1 o k) ∧ u.2 = t.2 ∧ ∀ j p, r[j]? = some p → u.1 17 j = nI p := by
  intro f
  induction f with
  | zero => intro i t _ h; omega
  | succ f ih =>
    intro i t hi hf hH hc
    rw [f_M_slipsAll_82, hH.1]
    rcases Nat.lt_or_ge i r.length with hl | hl
    · rw [if_neg (nI_ge hl (by omega)), kgi (kin (by omega) (by decide)), kgi (kin (by omega) (by decide)), klt, klt, nI_clamp (by omega), nI_1, hH.2.2 i (rf r i) (rf_get hl)]
      obtain ⟨u, a, c1, c2, c3⟩ := ih (i + 1) (k_sI t 17 i (nI (rf r i))) (by omega) (by omega) (hH.sm (fun o k q => by rw [sI1, if_neg (by omega)])) (fun j p hj hp => by
        rw [sI1]
        by_cases e : j = i
        · rw [if_pos ⟨rfl, e⟩]
          rw [e, rf_get hl] at hp
          rw [Option.some.inj hp]
        · rw [if_neg (by omega)]; exact hc j p (by omega) hp)
      exact ⟨u, a, fun o k ho => by rw [c1 o k ho, sI1, if_neg (by omega)], c2, c3⟩
    · rw [if_pos (nI_le hl (by omega))]
      exact ⟨t, rfl, fun _ _ _ => rfl, rfl, fun j p hp => hc j p (by have := (List.getElem?_eq_some_iff.mp hp).1; omega) hp⟩
theorem fMs24 {T : t_D} (w : Tw T) {S : Nat} (hS : S < 2 ^ 31) {n : Nat} (hn : big n) : ∀ (R : List (List Nat)) (f : Nat) (s : slS) (x1 : Int32) (t : k_St), (∀ r ∈ R, ta_row T r) → Aw T S t R → R.length < f → slM s x1 t → ∃ x2 u, f_M_slipsAll_24 n f x1 t = some (x2, u) ∧ ms2 t u ∧ slM (R.foldl (slf T) s) x2 u := by
  intro R
  induction R with
  | nil =>
    intro f s x1 t _ h hf hs
    obtain ⟨f, rfl⟩ : ∃ k', f = k' + 1 := ⟨f - 1, by simp at hf; omega⟩
    obtain ⟨u, a, hm⟩ := (fnextTale w hS hn h).1 rfl
    rw [f_M_slipsAll_24, a, kcl, if_pos (by decide)]
    refine ⟨x1, u, rfl, hm.mz.ms2, ?_⟩
    match s, hs with
    | none, hs => exact ⟨hs.1, by rw [hm.2 0 41 (by omega) (by omega)]; exact hs.2.1, by rw [hm.2 0 40 (by omega) (by omega)]; exact hs.2.2⟩
    | some (b, r, k), hs => exact ⟨hs.1, hs.2.1, by rw [hm.2 0 41 (by omega) (by omega)]; exact hs.2.2.1, by rw [hm.2 0 40 (by omega) (by omega)]; exact hs.2.2.2.1, hs.2.2.2.2.1, fun i p hp => by rw [hm.2 17 i (by omega) (by omega)]; exact hs.2.2.2.2.2 i p hp⟩
  | cons r R ih =>
    intro f s x1 t hR h hf hs
    rw [List.length_cons] at hf
    obtain ⟨f, rfl⟩ : ∃ k', f = k' + 1 := ⟨f - 1, by omega⟩
    have hr := hR r (by simp)
    have hr8 := hr.2.1
    have hsl := sd_le w hr8
    obtain ⟨u, a, hm, hA, hH⟩ := (fnextTale w hS hn h).2 r R rfl
    obtain ⟨y, e, c1, c2⟩ := fMslipsNow w hr (show 200 ≤ n by omega) hA.mtt hH
    have hAy : Aw T S y R := hA.sm (fun o j _ => c1 o j (by omega))
    have hHy : Hs y r := hH.sm (fun o k _ => c1 o k (by omega))
    have ty : ms2 t y := hm.mz.ms2.tr ⟨c2, fun o k _ _ _ _ b _ => c1 o k b⟩
    have k41 : y.1 0 41 = t.1 0 41 := by rw [c1 0 41 (by omega), hm.2 0 41 (by omega) (by omega)]
    have k40 : y.1 0 40 = t.1 0 40 := by rw [c1 0 40 (by omega), hm.2 0 40 (by omega) (by omega)]
    have k17 : ∀ i, y.1 17 i = t.1 17 i := fun i => by rw [c1 17 i (by omega), hm.2 17 i (by omega) (by omega)]
    rw [f_M_slipsAll_24, a, kcl, if_neg (by decide), e, kcl, List.foldl_cons]
    have new : ∀ y : k_St, Aw T S y R → Hs y r → ms2 t y → ∃ x2 u, k_lt (k_sI y 0 41 (1 : Int32)) (fun t_1 => k_lt (k_sI t_1 0 40 (t_1.1 0 22)) (fun t_2 => f_M_slipsAll_82 n (f_M_slipsAll_24 n f) n (nI (sd T r)) (0 : Int32) t_2)) = some (x2, u) ∧ ms2 t u ∧ slM (R.foldl (slf T) (some (sd T r, r, 1))) x2 u := by
      intro y hAy hHy ty
      rw [klt, klt]
      have e22 : (k_sI y 0 41 1).1 0 22 = nI r.length := by rw [sI1, if_neg (by omega)]; exact hHy.1
      rw [e22]
      generalize hz : k_sI (k_sI y 0 41 (1 : Int32)) 0 40 (nI r.length) = z
      have yz : ms2 y z := by rw [← hz]; exact (ms2.s _ 0 41 _ (by omega)).tr (ms2.s _ 0 40 _ (by omega))
      have zk : ∀ o k, ¬ (o = 0 ∧ 40 ≤ k ∧ k ≤ 41) → z.1 o k = y.1 o k := fun o k q => by rw [← hz, sI1, if_neg (by omega), sI1, if_neg (by omega)]
      have z41 : z.1 0 41 = nI 1 := by rw [← hz, sI1, if_neg (by omega), sI1, if_pos ⟨rfl, rfl⟩]; rfl
      have z40 : z.1 0 40 = nI r.length := by rw [← hz, sI1, if_pos ⟨rfl, rfl⟩]
      obtain ⟨u, a, d1, d2, d3⟩ := fMs82 (n := n) (rec24 := f_M_slipsAll_24 n f) hr8 (nI (sd T r)) n 0 z (by omega) (by omega) (hHy.sm (fun o k q => zk o k (by omega))) (fun j p hj => by omega)
      obtain ⟨x2, v, b1, b2, b3⟩ := ih f (some (sd T r, r, 1)) (nI (sd T r)) u (fun q hq => hR q (by simp [hq])) (hAy.sm (fun o j q => by rw [d1 o j (by omega), zk o j (by omega)])) (by omega) ⟨hsl, rfl, by rw [d1 0 41 (by omega), z41], by rw [d1 0 40 (by omega), z40], hr8, d3⟩
      rw [show (0 : Int32) = nI 0 from rfl, a]
      exact ⟨x2, v, b1, ((ty.tr yz).tr ⟨d2, fun o k _ _ _ _ _ q => d1 o k q⟩).tr b2, b3⟩
    match s, hs with
    | none, hs =>
      obtain ⟨rfl, h41, h40⟩ := hs
      rw [if_neg (show ¬ nI (sd T r) = -2 from fun q => by
        have q1 : nI (sd T r) < 0 := by rw [q]; decide
        exact nI_pos (by omega) q1)]
      unfold f_M_slipsAll_51
      rw [if_pos rfl]
      exact new y hAy hHy ty
    | some (b, r0, k), hs =>
      obtain ⟨hb, rfl, h41, h40, h08, h17⟩ := hs
      have es : slf T (some (b, r0, k)) r = if sd T r < b then some (sd T r, r, 1) else if sd T r = b then some (b, r0, k + 1) else some (b, r0, k) := rfl
      have nb2 : ¬ nI b = -2 := fun q => by
        have q1 : nI b < 0 := by rw [q]; decide
        exact nI_pos (by omega) q1
      rw [es]
      by_cases heq : sd T r = b
      · rw [if_pos (by rw [heq]), if_neg (by omega), if_pos heq, klt, k41, h41, nI_1]
        unfold f_M_slipsAll_51
        rw [if_neg nb2, if_neg (nI_nlt (by omega) (by omega))]
        obtain ⟨x2, v, b1, b2, b3⟩ := ih f (some (b, r0, k + 1)) (nI b) (k_sI y 0 41 (nI (k + 1))) (fun q hq => hR q (by simp [hq])) (hAy.sm (fun o j q => by rw [sI1, if_neg (by omega)])) (by omega) ⟨hb, rfl, by rw [sI1, if_pos ⟨rfl, rfl⟩], by rw [sI1, if_neg (by omega), k40]; exact h40, h08, fun i p hp => by rw [sI1, if_neg (by omega), k17]; exact h17 i p hp⟩
        exact ⟨x2, v, b1, (ty.tr (ms2.s y 0 41 _ (by omega))).tr b2, b3⟩
      · rw [if_neg (fun q => heq (nI_inj (by omega) (by omega) q))]
        unfold f_M_slipsAll_51
        rw [if_neg nb2]
        by_cases hlt : sd T r < b
        · rw [if_pos (nI_lt hlt (by omega)), if_pos hlt]
          exact new y hAy hHy ty
        · rw [if_neg (nI_nlt (by omega) (by omega)), if_neg hlt, if_neg heq]
          obtain ⟨x2, v, b1, b2, b3⟩ := ih f (some (b, r0, k)) (nI b) y (fun q hq => hR q (by simp [hq])) hAy (by omega) ⟨hb, rfl, by rw [k41]; exact h41, by rw [k40]; exact h40, h08, fun i p hp => by rw [k17]; exact h17 i p hp⟩
          exact ⟨x2, v, b1, ty.tr b2, b3⟩
theorem fMslipsAll {T : t_D} (w : Tw T) {n : Nat} (hn : big n) {t : k_St} (hM : MTT T t) : ∃ x2 u, f_M_slipsAll n t = some (x2, u) ∧ ms2 t u ∧ slM (slr T) x2 u := by
  have h256 := w.pow
  have hl := ta_all_len w (allp T)
  unfold f_M_slipsAll
  rw [klt, klt]
  generalize hz : k_sI (k_sI t 0 41 0) 0 40 0 = z
  have tz : ms2 t z := by rw [← hz]; exact (ms2.s _ 0 41 _ (by omega)).tr (ms2.s _ 0 40 _ (by omega))
  have z41 : z.1 0 41 = 0 := by rw [← hz, sI1, if_neg (by omega), sI1, if_pos ⟨rfl, rfl⟩]
  have z40 : z.1 0 40 = 0 := by rw [← hz, sI1, if_pos ⟨rfl, rfl⟩]
  have hMz : MTT T z := hM.same (fun o k _ _ => tz.2 o k (by omega) (by omega) (by omega) (by omega) (by omega) (by omega))
  obtain ⟨u, e, hm, hA⟩ := fstartsTales hMz (allp T)
  rw [fMall w hMz, e, kcv]
  obtain ⟨x2, v, b1, b2, b3⟩ := fMs24 w (show allp T < 2 ^ 31 by unfold allp; omega) hn (ta_all T (allp T)) n none (-2) u (fun r hr => ta_all_row w hr) hA (by omega) ⟨rfl, by rw [hm.2 0 41 (by omega) (by omega) (by omega)]; exact z41, by rw [hm.2 0 40 (by omega) (by omega) (by omega)]; exact z40⟩
  exact ⟨x2, v, b1, (tz.tr hm.ms2).tr b2, b3⟩
