/-! ===== the park: both ===== -/
theorem wn_pow {T : t_D} (w : Tw T) {k : Nat} (hk : k ≤ 3) : wn T ^ k ≤ 17576 := by
  have h := (wy_pf (T 0 4) w.2.2.2.2.1).2.1
  have h1 : wn T ^ k ≤ 26 ^ k := Nat.pow_le_pow_left h k
  have h2 : 26 ^ k ≤ 26 ^ 3 := Nat.pow_le_pow_right (by omega) hk
  have h3 : (26 : Nat) ^ 3 = 17576 := by decide
  omega
theorem mr.mk {t u : k_St} (h : mr t u) : mk t u := fun o k a => h.1 o k (by omega) (by omega)
theorem mq.mk {t u : k_St} (h : mq t u) : mk t u := fun o k a => h.1 o k (by omega) (by omega) (by omega)
theorem fparks13 {T : t_D} (w : Tw T) {n : Nat} (hn : 200 ≤ n) {v : Nat → Nat} (hv : pk8 v) {a : Nat} (ha : a = un v (T 0 4)) (ha256 : a < 256) {k : Nat} (hk : k ≤ 3) {rec6 : Int32 → k_St → Option (Int32 × k_St)} : ∀ (f c : Nat) (t : k_St), c ≤ wn T ^ k → wn T ^ k - c < f → MB T v t → BM (T 0 4) t (wy (T 0 4)) → ((List.range' c (wn T ^ k - c)).find? (gk T a k v) = none → ∃ u, f_M_parks_13 n rec6 f (nI k) (nI c) t = rec6 (nI (k + 1)) u ∧ mk t u ∧ BM (T 0 4) u (wy (T 0 4))) ∧ ∀ c0, (List.range' c (wn T ^ k - c)).find? (gk T a k v) = some c0 → ∃ u, f_M_parks_13 n rec6 f (nI k) (nI c) t = some (nI k, u) ∧ mk t u ∧ BM (T 0 4) u (wy (T 0 4)) ∧ u.1 0 32 = nI c0 ∧ c0 < 2 ^ 31 := by
  have h5 := w.2.2.2.2.1
  have hp := wn_pow w hk
  intro f
  induction f with
  | zero => intro c t _ q; omega
  | succ f ih =>
    intro c t hc hf g hB
    rw [f_M_parks_13, fcodesOf hn hB.1 hk, kcp, ← show wn T = (wy (T 0 4)).length from rfl]
    rcases Nat.lt_or_ge c (wn T ^ k) with hl | hl
    · obtain ⟨u, e, b⟩ := fallKnow w hn g hv hB ha ha256 hk (show c < 2 ^ 31 by omega)
      have hcn := cna_le (rn T k v c) a (T 0 4)
      have gu := g.mk b.mk
      rw [if_neg (nI_ge hl (by omega)), e, kcl, gu.1.1 4 (by omega), show wn T ^ k - c = (wn T ^ k - (c + 1)) + 1 by omega, List.range'_succ, List.find?_cons]
      by_cases q : cnt (rn T k v c) a (T 0 4) = T 0 4
      · have eg : gk T a k v c = true := decide_eq_true q
        rw [if_pos (nI_le (by omega) (by omega)), klt, eg]
        refine ⟨fun z => by simp at z, fun c0 z => ?_⟩
        have z := Option.some.inj z
        subst z
        exact ⟨_, rfl, b.mk.tr (mk.set u 0 32 _ (by omega)), (b.bm hB).sm (fun o k _ => by rw [sI1, if_neg (by omega)]), by rw [sI1, if_pos ⟨rfl, rfl⟩], by omega⟩
      · have eg : gk T a k v c = false := decide_eq_false q
        rw [if_neg (nI_ge (by omega) (by omega)), klt, nI_1, eg]
        obtain ⟨i1, i2⟩ := ih (c + 1) u (by omega) (by omega) gu (b.bm hB)
        refine ⟨fun z => ?_, fun c0 z => ?_⟩
        · obtain ⟨y, e1, e2, e3⟩ := i1 z
          exact ⟨y, e1, b.mk.tr e2, e3⟩
        · obtain ⟨y, e1, e2, e3, e4⟩ := i2 c0 z
          exact ⟨y, e1, b.mk.tr e2, e3, e4⟩
    · rw [if_pos (nI_le hl (by omega)), klt, nI_1, show wn T ^ k - c = 0 by omega]
      exact ⟨fun _ => ⟨t, rfl, mk.rf t, hB⟩, fun c0 z => by simp at z⟩
theorem dgc_len (T : t_D) (k c : Nat) : (dgc T k c).length = k := by unfold dgc; simp
theorem fparks6 {T : t_D} (w : Tw T) {n : Nat} (hn : big n) {v : Nat → Nat} (hv : pk8 v) {a : Nat} (ha : a = un v (T 0 4)) (ha256 : a < 256) : ∀ (f k : Nat) (t : k_St), k ≤ 4 → 4 - k < f → MB T v t → BM (T 0 4) t (wy (T 0 4)) → ∃ x2 u, f_M_parks_6 n f (nI k) t = some (x2, u) ∧ mk t u ∧ BM (T 0 4) u (wy (T 0 4)) ∧ few T a k v x2 (fun s => ∃ c, c < 2 ^ 31 ∧ u.1 0 32 = nI c ∧ s = dgc T s.length c) := by
  intro f
  induction f with
  | zero => intro k t _ h; omega
  | succ f ih =>
    intro k t hk hf g hB
    rw [f_M_parks_6]
    rcases Nat.lt_or_ge 3 k with hl | hl
    · rw [if_pos (show (3 : Int32) < nI k from nI_lt (a := 3) hl (by omega))]
      exact ⟨-2, t, rfl, mk.rf t, hB, Or.inl ⟨rfl, fun i h1 h2 => by omega⟩⟩
    · have hp := wn_pow w hl
      obtain ⟨i1, i2⟩ := fparks13 (n := n) (rec6 := f_M_parks_6 n f) w (by omega) hv ha ha256 hl n 0 t (by omega) (by omega) g hB
      rw [Nat.sub_zero, ← List.range_eq_range'] at i1 i2
      have hcode := fs_codes T a k v
      rw [if_neg (show ¬ (3 : Int32) < nI k from nI_nlt (a := 3) (by omega) (by omega))]
      match hfs : (List.range (wn T ^ k)).find? (gk T a k v) with
      | none =>
        rw [hfs] at hcode
        have hcode : fs T a k v = none := hcode
        obtain ⟨u, e, b, c⟩ := i1 hfs
        obtain ⟨x2, y, e2, b2, c2, d2⟩ := ih (k + 1) u (by omega) (by omega) (g.mk b) c
        refine ⟨x2, y, (show f_M_parks_13 n (f_M_parks_6 n f) n (nI k) 0 t = _ from e).trans e2, b.tr b2, c2, ?_⟩
        rcases d2 with ⟨h1, h2⟩ | ⟨i, s, h1, h2, h3, h4, h6, h7⟩
        · exact Or.inl ⟨h1, fun i q1 q2 => by
            by_cases z : i = k
            · rw [z]; exact hcode
            · exact h2 i (by omega) q2⟩
        · exact Or.inr ⟨i, s, by omega, h2, h3, h4, fun i' q1 q2 => by
            by_cases z : i' = k
            · rw [z]; exact hcode
            · exact h6 i' (by omega) q2, h7⟩
      | some c0 =>
        rw [hfs] at hcode
        have hcode : fs T a k v = some (dgc T k c0) := hcode
        obtain ⟨u, e, b, c, d, d2⟩ := i2 c0 hfs
        exact ⟨nI k, u, e, b, c, Or.inr ⟨k, dgc T k c0, by omega, hl, rfl, hcode, fun i' q1 q2 => by omega, c0, d2, d, by rw [dgc_len]⟩⟩
theorem fparks {T : t_D} (w : Tw T) {n : Nat} (hn : big n) {v : Nat → Nat} (hv : pk8 v) {a : Nat} (ha : a = un v (T 0 4)) (ha256 : a < 256) {t : k_St} (g : MB T v t) : ∃ x2 u, f_M_parks n t = some (x2, u) ∧ mk t u ∧ BM (T 0 4) u (wy (T 0 4)) ∧ few T a 0 v x2 (fun s => ∃ c, c < 2 ^ 31 ∧ u.1 0 32 = nI c ∧ s = dgc T s.length c) := by
  obtain ⟨u, e, b, c⟩ := fwaysAll w hn g.1
  obtain ⟨x2, y, e2, b2, c2, d2⟩ := fparks6 w hn hv ha ha256 n 0 u (by omega) (by omega) (g.mk b.mk) c
  unfold f_M_parks
  rw [e, kcv]
  exact ⟨x2, y, e2, b.mk.tr b2, c2, d2⟩
theorem few_two {T : t_D} {a : Nat} {v : Nat → Nat} {x y : Int32} {P Q : List Nat → Prop} (h : few T a 0 v x P) (g : few T a 0 v y Q) : (x = -2 ∧ y = -2) ∨ ∃ i s, i ≤ 3 ∧ x = nI i ∧ y = nI i ∧ fs T a i v = some s ∧ P s ∧ Q s := by
  rcases h with ⟨h1, h2⟩ | ⟨i, s, -, h2, h3, h4, h6, h7⟩
  · rcases g with ⟨g1, -⟩ | ⟨j, r, -, g2, -, g4, -, -⟩
    · exact Or.inl ⟨h1, g1⟩
    · rw [h2 j (by omega) g2] at g4; simp at g4
  · rcases g with ⟨-, g2⟩ | ⟨j, r, -, g2, g3, g4, g6, g7⟩
    · rw [g2 i (by omega) h2] at h4; simp at h4
    · have e : i = j := by
        rcases Nat.lt_trichotomy i j with z | z | z
        · rw [g6 i (by omega) z] at h4; simp at h4
        · exact z
        · rw [h6 j (by omega) z] at g4; simp at g4
      subst e
      rw [h4] at g4
      have e2 := Option.some.inj g4
      subst e2
      exact Or.inr ⟨i, s, h2, h3, g3, h4, h7, g7⟩
theorem ffewest {T : t_D} {v : Nat → Nat} {x : k_St} (h : XB T v x) (hP : PK T x) {n : Nat} (hn : 200 ≤ n) : ∃ x2 u, f_Pa_fewestRounds n (x.2 34 0) x = some (x2, u) ∧ xk x u ∧ PK T u ∧ few T (un v 5) 0 v x2 (fun s => ∀ i q, s[i]? = some q → u.1 26 i = nI q) := by
  have hv := h.2.2.2.2.2.2.2.p8 h.1
  have hu := un_lt 5 hv
  unfold f_Pa_fewestRounds
  rw [h.2.2.2.2.1, funionOf hv (by omega), kcp, klt]
  have xz : xk x (k_sI x 24 5 (nI (un v 5))) := ⟨fun o k a => by rw [sI1, if_neg (by omega)], fun _ _ _ => rfl⟩
  have hPz : PK T (k_sI x 24 5 (nI (un v 5))) := hP.same (fun o k a => by rw [sI1, if_neg (by omega)])
  obtain ⟨x2, u, e, b, c⟩ := ffewest10 h.1 hn hu hv n 0 _ (by omega) (by omega) hPz (by rw [sI1, if_pos ⟨rfl, rfl⟩])
  exact ⟨x2, u, e, xz.tr ⟨fun o k a => b.1 o k (by omega), fun o k _ => by rw [b.2]⟩, hPz.xl b, c⟩
theorem un_five {T : t_D} {v : Nat → Nat} {x : k_St} (h : XB T v x) : un v 5 = un v (T 0 4) := un_hi (fun k h1 h2 => (h.2.2.2.2.2.2.2.1 k h1).2 h2) 5 h.1.2.2.2.2.1 (by omega)
theorem e_soonest {T : t_D} {v : Nat → Nat} {x m : k_St} (h : XB T v x) (hP : PK T x) (g : MB T v m) {n : Nat} (hn : big n) : Q2 (f_X_soonest n x) x (f_M_soonest n m) m := by
  have g0 := g.mk (th0 m)
  have hv := h.2.2.2.2.2.2.2.p8 h.1
  obtain ⟨x2, u, e, b, -, c⟩ := ffewest h hP (show 200 ≤ n by omega)
  obtain ⟨y2, z, e2, b2, -, c2⟩ := fparks h.1 hn hv (un_five h) (un_lt 5 hv) g0
  unfold f_X_soonest f_M_soonest
  rw [klt (k_sI m 0 0 0), h.2.2.2.1, if_neg (by decide), e, kcl, e2, kcl]
  have : y2 = x2 := by
    rcases few_two c c2 with ⟨q1, q2⟩ | ⟨i, s, -, q1, q2, -⟩
    · rw [q1, q2]
    · rw [q1, q2]
  rw [this]
  exact Q2.ans b ((th0 m).tr b2) _
theorem e_meets {T : t_D} {v : Nat → Nat} {x m : k_St} (h : XB T v x) (hP : PK T x) (g : MB T v m) {n : Nat} (hn : big n) (x1 x2 : Int32) : Q2 (f_X_meets n x1 x2 x) x (f_M_meets n x1 x2 m) m := by
  have g0 := g.mk (th0 m)
  have hv := h.2.2.2.2.2.2.2.p8 h.1
  have h5 := h.1.2.2.2.2.1
  have hw := wy_pf (T 0 4) h5
  have hwn : wn T = (wy (T 0 4)).length := rfl
  unfold f_X_meets f_M_meets
  rw [klt (k_sI m 0 0 0)]
  rcases house_or h.1 h.2.1 g0.1 x2 with ⟨a, b⟩ | ⟨k, hk, rfl, a, b⟩
  · rw [if_neg (k_bne a), if_pos (k_beq b)]
    exact Q2.ref (xk.rf x) (th0 m) 1 (by decide)
  · rw [if_pos (k_beq a), if_neg (k_bne b)]
    by_cases hx : x1 < 0
    · rw [if_pos hx, if_neg (Int32.not_le.mpr hx)]
      exact Q2.ref (xk.rf x) (th0 m) 1 (by decide)
    · obtain ⟨x2, u, e, b, hPu, c⟩ := ffewest h hP (show 200 ≤ n by omega)
      obtain ⟨y2, z, e2, b2, hB, c2⟩ := fparks h.1 hn hv (un_five h) (un_lt 5 hv) g0
      rw [if_neg hx, if_pos (Int32.not_lt.mp hx), e, kcl, e2, kcl]
      have gz := g0.mk b2
      obtain ⟨j, hj, rfl⟩ := nI_of hx
      rcases few_two c c2 with ⟨rfl, rfl⟩ | ⟨i, s, hi, rfl, rfl, hfs, hs, cc, hcc, h32, hsc⟩
      · have no : ¬ nI j < -2 := fun q => nI_pos hj (Int32.lt_trans q (by decide))
        rw [if_neg no, if_neg no]
        exact Q2.ref b ((th0 m).tr b2) 1 (by decide)
      · rcases Nat.lt_or_ge j i with hl | hl
        · have hlen : s.length = i := by
            have := fs_codes T (un v 5) i v
            rw [hfs] at this
            cases hf : (List.range (wn T ^ i)).find? (gk T (un v 5) i v) with
            | none => rw [hf] at this; simp at this
            | some c0 =>
              rw [hf] at this
              have := Option.some.inj this
              rw [this, dgc_len]
          have hrow : cc / wn T ^ (i - 1 - j) % wn T < wn T := Nat.mod_lt _ (by omega)
          have hsj : s[j]? = some (cc / wn T ^ (i - 1 - j) % wn T) := by
            rw [hsc, hlen]
            unfold dgc
            rw [List.getElem?_map, List.getElem?_range' hl]
            simp
          have hg := wg_get hrow
          have hd := dgt_le (T 0 4) (wg T (cc / wn T ^ (i - 1 - j) % wn T)) k
          unfold f_Pa_partnerOnWay
          rw [if_pos (nI_lt hl (by omega)), if_pos (nI_lt hl (by omega)), kgi (kin (by omega) (by decide)), nI_clamp (n := j) (by omega), hs j _ hsj, fpartnerBy h.1 hPu hg hk, kcp, h32, frowOf (by omega) (W := wn T) (by omega) (by omega) hB.1 hl hi hcc, kcp, l5, pk_mul, nI_add, kgi (kin (by omega) (by decide)), nI_clamp (n := 5 * (cc / wn T ^ (i - 1 - j) % wn T) + k) (by omega), hB.2 _ _ hg k hk, klt (nI (dgt (T 0 4) (wg T (cc / wn T ^ (i - 1 - j) % wn T)) k)), gz.1.1 4 (by omega)]
          unfold nib
          by_cases q : dgt (T 0 4) (wg T (cc / wn T ^ (i - 1 - j) % wn T)) k = T 0 4
          · rw [if_pos q, if_pos (show nI 15 = 15 from rfl), kcp, if_pos (by rw [q])]
            exact Q2.ans b ((th0 m).tr b2) _
          · rw [if_neg q, if_neg (neL (b := 15) 15 (by omega) rfl (by omega) (by omega)), kcp, if_neg (fun z => q (nI_inj (by omega) (by omega) z))]
            exact Q2.ans b ((th0 m).tr b2) _
        · rw [if_neg (nI_nlt hl (by omega)), if_neg (nI_nlt hl (by omega))]
          exact Q2.ref b ((th0 m).tr b2) 1 (by decide)
theorem fmost41 {T : t_D} (w : Tw T) {n : Nat} (hn : 200 ≤ n) {v : Nat → Nat} (hv : pk8 v) {a : Nat} (ha : a = un v (T 0 4)) (ha256 : a < 256) {m : k_St} {k : Nat} (hk : k ≤ 3) : ∀ (f c b : Nat) (t : k_St), b ≤ 5 → c ≤ wn T ^ k → wn T ^ k - c < f → MB T v t → mk m t → BM (T 0 4) t (wy (T 0 4)) → AM (f_M_mostBehind_41 n f (nI k) (nI b) (nI c) t) m (nI ((List.range' c (wn T ^ k - c)).foldl (fun b c => max b (cnt (rn T k v c) a (T 0 4))) b)) 0 := by
  have h5 := w.2.2.2.2.1
  have hp := wn_pow w hk
  intro f
  induction f with
  | zero => intro c b t _ _ q; omega
  | succ f ih =>
    intro c b t hb hc hf g hm hB
    rw [f_M_mostBehind_41, fcodesOf hn hB.1 hk, kcp, ← show wn T = (wy (T 0 4)).length from rfl]
    rcases Nat.lt_or_ge c (wn T ^ k) with hl | hl
    · obtain ⟨u, e, d⟩ := fallKnow w hn g hv hB ha ha256 hk (show c < 2 ^ 31 by omega)
      have hcn := cna_le (rn T k v c) a (T 0 4)
      have gu := g.mk d.mk
      rw [if_neg (nI_ge hl (by omega)), e, kcl, show wn T ^ k - c = (wn T ^ k - (c + 1)) + 1 by omega, List.range'_succ, List.foldl_cons]
      by_cases q : cnt (rn T k v c) a (T 0 4) ≤ b
      · rw [if_pos (nI_le q (by omega)), klt, nI_1, show max b (cnt (rn T k v c) a (T 0 4)) = b by omega]
        exact ih (c + 1) b u hb (by omega) (by omega) gu (hm.tr d.mk) (d.bm hB)
      · obtain ⟨u2, e2, d2⟩ := fallKnow w hn gu hv (d.bm hB) ha ha256 hk (show c < 2 ^ 31 by omega)
        rw [if_neg (nI_ge (by omega) (by omega)), e2, kcl, klt, nI_1, show max b (cnt (rn T k v c) a (T 0 4)) = cnt (rn T k v c) a (T 0 4) by omega]
        exact ih (c + 1) _ u2 (by omega) (by omega) (by omega) (gu.mk d2.mk) ((hm.tr d.mk).tr d2.mk) (d2.bm (d.bm hB))
    · rw [if_pos (nI_le hl (by omega)), show wn T ^ k - c = 0 by omega]
      exact AM.good hm _
theorem e_mostBehind {T : t_D} {v : Nat → Nat} {x m : k_St} (h : XB T v x) (hP : PK T x) (g : MB T v m) {n : Nat} (hn : big n) (x1 : Int32) : Q2 (f_X_mostBehind n x1 x) x (f_M_mostBehind n x1 m) m := by
  have g0 := g.mk (th0 m)
  have hv := h.2.2.2.2.2.2.2.p8 h.1
  have hu := un_lt 5 hv
  unfold f_X_mostBehind f_M_mostBehind f_M_in
  rw [klt (k_sI m 0 0 0), h.2.2.2.1, if_neg (by decide)]
  rcases pk_ix x1 (n := 3) (by omega) with hx | hx | ⟨k, hk, rfl⟩
  · rw [if_pos hx, if_pos hx, if_pos (show k_b false = 0 from rfl)]
    exact Q2.ref (xk.rf x) (th0 m) 2 (by decide)
  · have h0 : ¬ x1 < 0 := fun q => by
      have : (3 : Int32) < 0 := Int32.lt_of_le_of_lt hx q
      exact absurd this (by decide)
    have h2 : (2 : Int32) < x1 := Int32.lt_of_lt_of_le (by decide) hx
    rw [if_neg h0, if_neg (show ¬ x1 < (3 : Int32) from Int32.not_lt.mpr hx), if_neg h0, if_pos h2, if_pos (show k_b false = 0 from rfl)]
    exact Q2.ref (xk.rf x) (th0 m) 2 (by decide)
  · obtain ⟨u, e, b, c⟩ := fwaysAll h.1 hn g0.1
    have hp := wn_pow h.1 (show k ≤ 3 by omega)
    have hM := fmost41 (n := n) h.1 (by omega) hv (un_five h) hu (k := k) (by omega) n 0 0 u (by omega) (by omega) (by omega) (g0.mk b.mk) ((th0 m).tr b.mk) c
    rw [Nat.sub_zero, ← List.range_eq_range', ← mf_codes] at hM
    rw [if_neg (nI_pos (by omega)), if_pos (show nI k < (3 : Int32) from nI_lt (b := 3) hk (by omega)), if_neg (nI_pos (by omega)), if_neg (show ¬ (2 : Int32) < nI k from nI_nlt (a := 2) (by omega) (by omega)), if_neg (show ¬ k_b true = 0 by decide), e, kcv]
    unfold f_Pa_mostThatKnowAll
    have xz : xk x (k_sI x 24 5 (nI (un v 5))) := ⟨fun o k a => by rw [sI1, if_neg (by omega)], fun _ _ _ => rfl⟩
    have hPz : PK T (k_sI x 24 5 (nI (un v 5))) := hP.same (fun o k a => by rw [sI1, if_neg (by omega)])
    rw [h.2.2.2.2.1, funionOf hv (by omega), kcp, klt (k_sI x 24 5 (nI (un v 5))), fmost h.1 (show 200 ≤ n by omega) hu hPz (by rw [sI1, if_pos ⟨rfl, rfl⟩]) k 3 v (by omega) (by omega) hv, kcp, kcl]
    exact ⟨_, 0, AX.ans xz _, hM, by decide⟩
