/-! ===== a step of the reference's reader ===== -/
def MX (bs : List Nat) (t : k_St) : Prop := bs.length ≤ 900 ∧ (∀ i c, bs[i]? = some c → t.1 1 i = bv c ∧ c < 256) ∧ t.1 0 7 = nI bs.length
def mo (t u : k_St) : Prop := (∀ o k, ¬ (o = 0 ∧ (k = 8 ∨ k = 9 ∨ k = 10 ∨ k = 11)) → u.1 o k = t.1 o k) ∧ ∀ o k, ¬ (o = 0 ∧ k = 14) → u.2 o k = t.2 o k
theorem mo.rf (t : k_St) : mo t t := ⟨fun _ _ _ => rfl, fun _ _ _ => rfl⟩
theorem mo.tr {t u v : k_St} (h : mo t u) (g : mo u v) : mo t v := ⟨fun o k a => (g.1 o k a).trans (h.1 o k a), fun o k a => (g.2 o k a).trans (h.2 o k a)⟩
theorem mo.si (t : k_St) (j : Nat) (v : Int32) (h : j = 8 ∨ j = 9 ∨ j = 10 ∨ j = 11) : mo t (k_sI t 0 j v) := ⟨fun o k a => by rw [sI1, if_neg (by omega)], fun _ _ _ => rfl⟩
theorem mo.sl (t : k_St) (v : Int64) : mo t (k_sL t 0 14 v) := ⟨fun _ _ _ => rfl, fun o k a => by rw [sL2, if_neg (by omega)]⟩
theorem MX.mo {bs : List Nat} {t u : k_St} (h : MX bs t) (e : mo t u) : MX bs u := ⟨h.1, fun i c hi => by rw [e.1 1 i (by omega)]; exact h.2.1 i c hi, by rw [e.1 0 7 (by omega)]; exact h.2.2⟩
theorem fbyteE {bs P : List Nat} {t : k_St} (hb : bs = P) (hX : MX bs t) : f_M_byteAt_R t (nI P.length) = some (-1) := by
  have := hX.1
  unfold f_M_byteAt_R
  rw [hX.2.2, hb, if_pos (nI_le (Nat.le_refl _) (by rw [hb] at this; omega))]
theorem fbyteC {bs P r : List Nat} {c : Nat} {t : k_St} (hb : bs = P ++ c :: r) (hX : MX bs t) : f_M_byteAt_R t (nI P.length) = some (nI c) ∧ c < 256 := by
  have h9 := hX.1
  have hl : bs.length = P.length + (r.length + 1) := by rw [hb]; simp
  obtain ⟨hc1, hc2⟩ := hX.2.1 P.length c (by rw [hb]; exact at_pos)
  unfold f_M_byteAt_R
  rw [hX.2.2, if_neg (nI_ge (by omega) (by omega)), kgi (kin (by omega) (by decide)), nI_clamp (by omega), hc1, (bv_e c hc2).2.2.2]
  exact ⟨rfl, hc2⟩
theorem fM85 {bs : List Nat} {n : Nat} : ∀ (R P : List Nat) (f j w : Nat) (t : k_St), bs = P ++ R → R.length < f → j ≤ P.length → MX bs t → t.1 0 8 = nI P.length → (j + (R.takeWhile isl).length ≤ 8 → t.2 0 14 = lN w) → ∃ u, f_M_goesOn_R_85 n f (nI j) t = (if 8 < j + (R.takeWhile isl).length then some u else some (k_sI u 0 9 2)) ∧ mo t u ∧ u.1 0 9 = t.1 0 9 ∧ u.1 0 10 = t.1 0 10 ∧ u.1 0 8 = nI (P.length + (R.takeWhile isl).length) ∧ (j + (R.takeWhile isl).length ≤ 8 → u.2 0 14 = lN (wvl w (R.takeWhile isl))) := by
  intro R
  have stop : ∀ (P : List Nat) (j w : Nat) (t : k_St), bs.length ≤ 900 → j ≤ bs.length → t.1 0 8 = nI P.length → (j + 0 ≤ 8 → t.2 0 14 = lN w) → ∃ u, (if (8 : Int32) < nI j then some t else k_lt (k_sI t 0 9 2) (fun t_2 => some t_2)) = (if 8 < j + 0 then some u else some (k_sI u 0 9 2)) ∧ mo t u ∧ u.1 0 9 = t.1 0 9 ∧ u.1 0 10 = t.1 0 10 ∧ u.1 0 8 = nI (P.length + 0) ∧ (j + 0 ≤ 8 → u.2 0 14 = lN (wvl w [])) := by
    intro P j w t h9 hj h8 hw
    refine ⟨t, ?_, mo.rf t, rfl, rfl, h8, hw⟩
    by_cases e : 8 < j
    · rw [if_pos (show (8 : Int32) < nI j from nI_lt (a := 8) e (by omega)), if_pos (by omega)]
    · rw [if_neg (show ¬ (8 : Int32) < nI j from nI_nlt (a := 8) (by omega) (by omega)), if_neg (by omega)]
      rfl
  induction R with
  | nil =>
    intro P f j w t hb hf hj hX h8 hw
    obtain ⟨f, rfl⟩ : ∃ f', f = f' + 1 := ⟨f - 1, by simp at hf; omega⟩
    have hl : bs.length = P.length := by rw [hb]; simp
    rw [f_M_goesOn_R_85, h8, fbyteE (by rw [hb]; simp) hX, kcp, if_pos (show k_b (f_M_isLetter (-1)) = 0 by decide)]
    exact stop P j w t hX.1 (by omega) h8 hw
  | cons c R ih =>
    intro P f j w t hb hf hj hX h8 hw
    rw [List.length_cons] at hf
    obtain ⟨f, rfl⟩ : ∃ f', f = f' + 1 := ⟨f - 1, by omega⟩
    have hl : bs.length = P.length + (R.length + 1) := by rw [hb]; simp
    have h900 := hX.1
    obtain ⟨hB, hc2⟩ := fbyteC hb hX
    rw [f_M_goesOn_R_85, h8, hB, kcp, (bv_l c hc2).2.1]
    by_cases hi : isl c = true
    · rw [List.takeWhile_cons, if_pos hi] at hw ⊢
      rw [List.length_cons] at hw ⊢
      rw [if_neg (k_bne hi), show j + ((R.takeWhile isl).length + 1) = (j + 1) + (R.takeWhile isl).length by omega, show P.length + ((R.takeWhile isl).length + 1) = (P ++ [c]).length + (R.takeWhile isl).length by simp; omega]
      rw [show j + ((R.takeWhile isl).length + 1) = (j + 1) + (R.takeWhile isl).length by omega] at hw
      have hb' : bs = (P ++ [c]) ++ R := by rw [hb]; simp
      have hP1 : nI (P.length + 1) = nI (P ++ [c]).length := by simp
      by_cases h88 : 8 ≤ j
      · rw [if_pos (show (8 : Int32) ≤ nI j from nI_le (a := 8) h88 (by omega)), klt, klt, nI_1, nI_1, hP1]
        have tz := mo.si t 8 (nI (P ++ [c]).length) (by omega)
        obtain ⟨u, a, b, c1, c2, c3, c4⟩ := ih (P ++ [c]) f (j + 1) (w * 32 + (c - 96)) (k_sI t 0 8 (nI (P ++ [c]).length)) hb' (by omega) (by simp; omega) (hX.mo tz) (by rw [sI1, if_pos ⟨rfl, rfl⟩]) (fun q => by omega)
        exact ⟨u, a, tz.tr b, by rw [c1, sI1, if_neg (by omega)], by rw [c2, sI1, if_neg (by omega)], c3, fun q => by omega⟩
      · rw [if_neg (show ¬ (8 : Int32) ≤ nI j from nI_ge (b := 8) (by omega) (by omega)), kcp, klt, klt, klt, nI_1]
        generalize hv : ((32 : Int64) * (t.2 0 14)) + (((nI c - (97 : Int32)) + (1 : Int32)).toInt64) = val
        have e8 : (k_sL t 0 14 val).1 0 8 = nI P.length := h8
        rw [e8, nI_1, hP1]
        have tz := (mo.sl t val).tr (mo.si (k_sL t 0 14 val) 8 (nI (P ++ [c]).length) (by omega))
        obtain ⟨u, a, b, c1, c2, c3, c4⟩ := ih (P ++ [c]) f (j + 1) (w * 32 + (c - 96)) (k_sI (k_sL t 0 14 val) 0 8 (nI (P ++ [c]).length)) hb' (by omega) (by simp; omega) (hX.mo tz) (by rw [sI1, if_pos ⟨rfl, rfl⟩]) (fun q => by
          rw [sI2, sL2, if_pos ⟨rfl, rfl⟩, ← hv, hw (by omega), ((bv_v c hc2).1 hi).2, show (32 : Int64) = lN 32 from rfl, lN_mul, lN_add, Nat.mul_comm])
        exact ⟨u, a, tz.tr b, by rw [c1, sI1, if_neg (by omega)]; rfl, by rw [c2, sI1, if_neg (by omega)]; rfl, c3, c4⟩
    · rw [List.takeWhile_cons, if_neg hi] at hw ⊢
      rw [if_pos (k_beq (by simpa using hi))]
      exact stop P j w t hX.1 (by omega) h8 hw
