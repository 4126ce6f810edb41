/-! ===== a step of the reference's reader, whole ===== -/
theorem fM174 {bs : List Nat} {n : Nat} : ∀ (R P : List Nat) (f j w : Nat) (t : k_St), bs = P ++ R → R.length < f → j ≤ P.length → MX bs t → t.1 0 8 = nI P.length → (j + (R.takeWhile isd).length ≤ 3 → t.1 0 11 = nI w) → ∃ u, f_M_goesOn_R_174 n f (nI j) t = (if 3 < j + (R.takeWhile isd).length then some u else some (k_sI u 0 9 3)) ∧ mo t u ∧ u.1 0 9 = t.1 0 9 ∧ u.1 0 10 = t.1 0 10 ∧ u.1 0 8 = nI (P.length + (R.takeWhile isd).length) ∧ (j + (R.takeWhile isd).length ≤ 3 → u.1 0 11 = nI (nvl w (R.takeWhile isd))) := by
  intro R
  have stop : ∀ (P : List Nat) (j w : Nat) (t : k_St), bs.length ≤ 900 → j ≤ bs.length → t.1 0 8 = nI P.length → (j + 0 ≤ 3 → t.1 0 11 = nI w) → ∃ u, (if (3 : Int32) < nI j then some t else k_lt (k_sI t 0 9 3) (fun t_2 => some t_2)) = (if 3 < j + 0 then some u else some (k_sI u 0 9 3)) ∧ mo t u ∧ u.1 0 9 = t.1 0 9 ∧ u.1 0 10 = t.1 0 10 ∧ u.1 0 8 = nI (P.length + 0) ∧ (j + 0 ≤ 3 → u.1 0 11 = nI (nvl w [])) := by
    intro P j w t h9 hj h8 hw
    refine ⟨t, ?_, mo.rf t, rfl, rfl, h8, hw⟩
    by_cases e : 3 < j
    · rw [if_pos (show (3 : Int32) < nI j from nI_lt (a := 3) e (by omega)), if_pos (by omega)]
    · rw [if_neg (show ¬ (3 : Int32) < nI j from nI_nlt (a := 3) (by omega) (by omega)), if_neg (by omega)]
      rfl
  induction R with
  | nil =>
    intro P f j w t hb hf hj hX h8 hw
    obtain ⟨f, rfl⟩ : ∃ f', f = f' + 1 := ⟨f - 1, by simp at hf; omega⟩
    have hl : bs.length = P.length := by rw [hb]; simp
    rw [f_M_goesOn_R_174, h8, fbyteE (by rw [hb]; simp) hX, kcp, if_pos (show k_b (f_M_isDigit (-1)) = 0 by decide)]
    exact stop P j w t hX.1 (by omega) h8 hw
  | cons c R ih =>
    intro P f j w t hb hf hj hX h8 hw
    rw [List.length_cons] at hf
    obtain ⟨f, rfl⟩ : ∃ f', f = f' + 1 := ⟨f - 1, by omega⟩
    have hl : bs.length = P.length + (R.length + 1) := by rw [hb]; simp
    have h900 := hX.1
    obtain ⟨hB, hc2⟩ := fbyteC hb hX
    rw [f_M_goesOn_R_174, h8, hB, kcp, (bv_l c hc2).2.2.2]
    by_cases hi : isd c = true
    · rw [List.takeWhile_cons, if_pos hi] at hw ⊢
      rw [List.length_cons] at hw ⊢
      rw [if_neg (k_bne hi), show j + ((R.takeWhile isd).length + 1) = (j + 1) + (R.takeWhile isd).length by omega, show P.length + ((R.takeWhile isd).length + 1) = (P ++ [c]).length + (R.takeWhile isd).length by simp; omega]
      rw [show j + ((R.takeWhile isd).length + 1) = (j + 1) + (R.takeWhile isd).length by omega] at hw
      have hb' : bs = (P ++ [c]) ++ R := by rw [hb]; simp
      have hP1 : nI (P.length + 1) = nI (P ++ [c]).length := by simp
      by_cases h88 : 3 ≤ j
      · rw [if_pos (show (3 : Int32) ≤ nI j from nI_le (a := 3) h88 (by omega)), klt, klt, nI_1, nI_1, hP1]
        have tz := mo.si t 8 (nI (P ++ [c]).length) (by omega)
        obtain ⟨u, a, b, c1, c2, c3, c4⟩ := ih (P ++ [c]) f (j + 1) (w * 10 + (c - 48)) (k_sI t 0 8 (nI (P ++ [c]).length)) hb' (by omega) (by simp; omega) (hX.mo tz) (by rw [sI1, if_pos ⟨rfl, rfl⟩]) (fun q => by omega)
        exact ⟨u, a, tz.tr b, by rw [c1, sI1, if_neg (by omega)], by rw [c2, sI1, if_neg (by omega)], c3, fun q => by omega⟩
      · rw [if_neg (show ¬ (3 : Int32) ≤ nI j from nI_ge (b := 3) (by omega) (by omega)), kcp, klt, klt, klt, nI_1]
        generalize hv : (((10 : Int32) * (t.1 0 11)) + nI c) - (48 : Int32) = val
        have e8 : (k_sI t 0 11 val).1 0 8 = nI P.length := by rw [sI1, if_neg (by omega)]; exact h8
        rw [e8, nI_1, hP1]
        have tz := (mo.si t 11 val (by omega)).tr (mo.si (k_sI t 0 11 val) 8 (nI (P ++ [c]).length) (by omega))
        obtain ⟨u, a, b, c1, c2, c3, c4⟩ := ih (P ++ [c]) f (j + 1) (w * 10 + (c - 48)) (k_sI (k_sI t 0 11 val) 0 8 (nI (P ++ [c]).length)) hb' (by omega) (by simp; omega) (hX.mo tz) (by rw [sI1, if_pos ⟨rfl, rfl⟩]) (fun q => by
          have h48 : 48 ≤ c := by unfold isd at hi; rw [Bool.and_eq_true, decide_eq_true_eq] at hi; exact hi.1
          rw [sI1, if_neg (by omega), sI1, if_pos ⟨rfl, rfl⟩, ← hv, hw (by omega), l10, pk_mul, nI_add, show (48 : Int32) = nI 48 from rfl, pk_sub (by omega)]
          congr 1
          omega)
        exact ⟨u, a, tz.tr b, by rw [c1, sI1, if_neg (by omega), sI1, if_neg (by omega)], by rw [c2, sI1, if_neg (by omega), sI1, if_neg (by omega)], c3, c4⟩
    · rw [List.takeWhile_cons, if_neg hi] at hw ⊢
      rw [if_pos (k_beq (by simpa using hi))]
      exact stop P j w t hX.1 (by omega) h8 hw
def mkd (k : Nat) : Nat := if k = 0 then 1 else if k = 1 then 0 else k
def MK (bs : List Nat) (q : tok) (t : k_St) : Prop := t.1 0 9 = nI (mkd q.1) ∧ t.1 0 10 = nI (bs.length - q.2.1.length) ∧ (q.1 ≠ 1 → t.1 0 8 = nI (bs.length - q.2.2.1.length)) ∧ (q.1 = 2 → t.2 0 14 = lN (wvl 0 q.2.2.2)) ∧ (q.1 = 3 → t.1 0 11 = nI (nvl 0 q.2.2.2))
theorem fgoes10 {bs : List Nat} {n : Nat} : ∀ (R P : List Nat) (f : Nat) (t : k_St), bs = P ++ R → R.length < f → R.length < n → MX bs t → t.1 0 8 = nI P.length → ∃ u, f_M_goesOn_R_10 n f t = some u ∧ mo t u ∧ MK bs (lx R) u := by
  intro R
  induction R with
  | nil =>
    intro P f t hb hf hn hX h8
    obtain ⟨f, rfl⟩ : ∃ f', f = f' + 1 := ⟨f - 1, by simp at hf; omega⟩
    have hl : bs.length = P.length := by rw [hb]; simp
    have hbP : bs = P := by rw [hb]; simp
    rw [f_M_goesOn_R_10, h8, fbyteE hbP hX, kcp, if_neg (by decide), klt, klt]
    have tz := (mo.si t 10 (nI P.length) (by omega)).tr (mo.si (k_sI t 0 10 (nI P.length)) 9 0 (by omega))
    have e8 : (k_sI (k_sI t 0 10 (nI P.length)) 0 9 0).1 0 8 = nI P.length := by rw [sI1, if_neg (by omega), sI1, if_neg (by omega)]; exact h8
    rw [e8, fbyteE hbP (hX.mo tz), kcp, if_pos rfl, klt]
    refine ⟨_, rfl, tz.tr (mo.si _ _ _ (by omega)), by rw [sI1, if_pos ⟨rfl, rfl⟩]; rfl, ?_, fun _ => ?_, fun q => ?_, fun q => ?_⟩
    · rw [sI1, if_neg (by omega), sI1, if_neg (by omega), sI1, if_pos ⟨rfl, rfl⟩, ← hl]; rfl
    · rw [sI1, if_neg (by omega), e8, ← hl]; rfl
    · exact absurd q (by decide)
    · exact absurd q (by decide)
  | cons c r ih =>
    intro P f t hb hf hn hX h8
    rw [List.length_cons] at hf hn
    obtain ⟨f, rfl⟩ : ∃ f', f = f' + 1 := ⟨f - 1, by omega⟩
    have hl : bs.length = P.length + (r.length + 1) := by rw [hb]; simp
    have h900 := hX.1
    obtain ⟨hB, hc2⟩ := fbyteC hb hX
    rw [f_M_goesOn_R_10, h8, hB, kcp]
    by_cases e : c = 32
    · have elx : lx (c :: r) = lx r := by unfold lx; rw [List.dropWhile_cons, if_pos (by simpa using e)]
      rw [if_pos (by rw [e]; rfl), klt, nI_1, elx]
      have tz := mo.si t 8 (nI (P.length + 1)) (by omega)
      obtain ⟨u, a, b, d⟩ := ih (P ++ [c]) f (k_sI t 0 8 (nI (P.length + 1))) (by rw [hb]; simp) (by omega) (by omega) (hX.mo tz) (by rw [sI1, if_pos ⟨rfl, rfl⟩]; simp)
      exact ⟨u, a, tz.tr b, d⟩
    · have elx : lx (c :: r) = if isl c then (if ((c :: r).takeWhile isl).length ≤ 8 then 2 else 1, c :: r, (c :: r).dropWhile isl, (c :: r).takeWhile isl) else if isd c then (if ((c :: r).takeWhile isd).length ≤ 3 then 3 else 1, c :: r, (c :: r).dropWhile isd, (c :: r).takeWhile isd) else if c = 59 then (4, c :: r, r, []) else if c = 44 then (5, c :: r, r, []) else (1, c :: r, r, []) := by
        unfold lx; rw [List.dropWhile_cons, if_neg (by simpa using e)]
      have hst : bs.length - (c :: r).length = P.length := by rw [List.length_cons]; omega
      rw [if_neg (neL (b := 32) 32 e rfl (by omega) (by omega)), klt, klt, elx]
      generalize hz : k_sI (k_sI t 0 10 (nI P.length)) 0 9 0 = z
      have tz : mo t z := by rw [← hz]; exact (mo.si _ _ _ (by omega)).tr (mo.si _ _ _ (by omega))
      have z8 : z.1 0 8 = nI P.length := by rw [← hz, sI1, if_neg (by omega), sI1, if_neg (by omega)]; exact h8
      have z9 : z.1 0 9 = nI 0 := by rw [← hz, sI1, if_pos ⟨rfl, rfl⟩]; rfl
      have z10 : z.1 0 10 = nI P.length := by rw [← hz, sI1, if_neg (by omega), sI1, if_pos ⟨rfl, rfl⟩]
      have hXz := hX.mo tz
      rw [z8, (fbyteC hb hXz).1, kcp, if_neg (nI_ne_m1 (by omega)), (bv_l c hc2).2.1]
      by_cases hi : isl c = true
      · have hlen := tw_len isl (c :: r)
        rw [List.length_cons] at hlen
        rw [if_neg (k_bne hi), if_pos hi, klt]
        have zy := mo.sl z 0
        obtain ⟨u, a, b, c1, c2, c3, c4⟩ := fM85 (n := n) (c :: r) P n 0 0 (k_sL z 0 14 0) hb (by rw [List.length_cons]; omega) (by omega) (hXz.mo zy) z8 (fun _ => by rw [sL2, if_pos ⟨rfl, rfl⟩]; rfl)
        rw [Nat.zero_add] at a c4
        have a' : f_M_goesOn_R_85 n n 0 (k_sL z 0 14 0) = _ := a
        have c2' : u.1 0 10 = nI P.length := c2.trans z10
        have tu := (tz.tr zy).tr b
        rw [a']
        by_cases h8' : ((c :: r).takeWhile isl).length ≤ 8
        · rw [if_neg (show ¬ 8 < ((c :: r).takeWhile isl).length by omega), if_pos h8']
          refine ⟨_, rfl, tu.tr (mo.si _ _ _ (by omega)), by rw [sI1, if_pos ⟨rfl, rfl⟩]; rfl, by rw [sI1, if_neg (by omega), c2', hst], fun _ => ?_, fun _ => c4 h8', fun q => by simp at q⟩
          rw [sI1, if_neg (by omega), c3]
          congr 1
          show _ = bs.length - ((c :: r).dropWhile isl).length
          omega
        · rw [if_pos (show 8 < ((c :: r).takeWhile isl).length by omega), if_neg h8']
          exact ⟨u, rfl, tu, by rw [c1]; exact z9, by rw [c2', hst], fun q => absurd rfl q, fun q => by simp at q, fun q => by simp at q⟩
      · rw [if_pos (k_beq (by simpa using hi)), if_neg hi, (bv_l c hc2).2.2.2]
        by_cases hd : isd c = true
        · have hlen := tw_len isd (c :: r)
          rw [List.length_cons] at hlen
          rw [if_neg (k_bne hd), if_pos hd, klt]
          have zy := mo.si z 11 0 (by omega)
          obtain ⟨u, a, b, c1, c2, c3, c4⟩ := fM174 (n := n) (c :: r) P n 0 0 (k_sI z 0 11 0) hb (by rw [List.length_cons]; omega) (by omega) (hXz.mo zy) (by rw [sI1, if_neg (by omega)]; exact z8) (fun _ => by rw [sI1, if_pos ⟨rfl, rfl⟩]; rfl)
          rw [Nat.zero_add] at a c4
          have a' : f_M_goesOn_R_174 n n 0 (k_sI z 0 11 0) = _ := a
          have c2' : u.1 0 10 = nI P.length := by rw [c2, sI1, if_neg (by omega)]; exact z10
          have c1' : u.1 0 9 = nI 0 := by rw [c1, sI1, if_neg (by omega)]; exact z9
          have tu := (tz.tr zy).tr b
          rw [a']
          by_cases h8' : ((c :: r).takeWhile isd).length ≤ 3
          · rw [if_neg (show ¬ 3 < ((c :: r).takeWhile isd).length by omega), if_pos h8']
            refine ⟨_, rfl, tu.tr (mo.si _ _ _ (by omega)), by rw [sI1, if_pos ⟨rfl, rfl⟩]; rfl, by rw [sI1, if_neg (by omega), c2', hst], fun _ => ?_, fun q => by simp at q, fun _ => by rw [sI1, if_neg (by omega)]; exact c4 h8'⟩
            rw [sI1, if_neg (by omega), c3]
            congr 1
            show _ = bs.length - ((c :: r).dropWhile isd).length
            omega
          · rw [if_pos (show 3 < ((c :: r).takeWhile isd).length by omega), if_neg h8']
            exact ⟨u, rfl, tu, c1', by rw [c2', hst], fun q => absurd rfl q, fun q => by simp at q, fun q => by simp at q⟩
        · rw [if_pos (k_beq (by simpa using hd)), if_neg hd]
          have fin : ∀ k : Nat, k ≠ 0 → k ≠ 1 → k ≠ 2 → k ≠ 3 → ∃ u, k_lt (k_sI z 0 9 (nI k)) (fun t_3 => k_lt (k_sI t_3 0 8 ((t_3.1 0 8) + (1 : Int32))) (fun t_4 => some t_4)) = some u ∧ mo t u ∧ MK bs (k, c :: r, r, []) u := by
            intro k k0 k1 k2 k3
            have e8 : (k_sI z 0 9 (nI k)).1 0 8 = nI P.length := by rw [sI1, if_neg (by omega)]; exact z8
            rw [klt, klt, e8, nI_1]
            refine ⟨_, rfl, (tz.tr (mo.si _ _ _ (by omega))).tr (mo.si _ _ _ (by omega)), ?_, by rw [sI1, if_neg (by omega), sI1, if_neg (by omega), z10, hst], fun _ => ?_, fun q => absurd q k2, fun q => absurd q k3⟩
            · rw [sI1, if_neg (by omega), sI1, if_pos ⟨rfl, rfl⟩]
              show nI k = nI (mkd k)
              unfold mkd
              rw [if_neg k0, if_neg k1]
            · rw [sI1, if_pos ⟨rfl, rfl⟩]
              congr 1
              show _ = bs.length - r.length
              omega
          by_cases h59 : c = 59
          · unfold f_M_goesOn_R_257
            rw [if_pos (show nI c = 59 by rw [h59]; rfl), if_pos (show nI c = 59 by rw [h59]; rfl), if_pos h59]
            exact fin 4 (by omega) (by omega) (by omega) (by omega)
          · have n59 : ¬ nI c = 59 := neL (b := 59) 59 h59 rfl (by omega) (by omega)
            rw [if_neg n59, if_neg h59]
            by_cases h44 : c = 44
            · unfold f_M_goesOn_R_257
              rw [if_pos (show nI c = 44 by rw [h44]; rfl), if_neg n59, if_pos h44]
              exact fin 5 (by omega) (by omega) (by omega) (by omega)
            · rw [if_neg (neL (b := 44) 44 h44 rfl (by omega) (by omega)), if_neg h44]
              exact ⟨z, rfl, tz, z9, by rw [z10, hst], fun q => absurd rfl q, fun q => by simp at q, fun q => by simp at q⟩
