/-! ===== slips: both ===== -/
theorem mixed_or {T : t_D} {v : Nat → Nat} {x m : k_St} (h : XB T v x) (g : MTT T m) : (T 0 7 = 0 ∧ f_X_noMixed x = true ∧ f_X_whyNoMixed x = 6 ∧ f_M_refusesMixed m = 6) ∨ (0 < T 0 7 ∧ f_X_noMixed x = false ∧ f_M_refusesMixed m = 0) := by
  have h6 := h.1.2.2.2.2.2.2.2.1
  unfold f_X_noMixed f_X_whyNoMixed f_M_refusesMixed
  rw [h.2.1.1 7 (by omega), g.1 7 (by omega), h.2.2.2.1]
  by_cases e : T 0 7 = 0
  · left
    rw [e]
    exact ⟨rfl, rfl, rfl, rfl⟩
  · right
    rw [if_neg (neL 0 e rfl (by omega) (by omega)), if_neg (neL 0 e rfl (by omega) (by omega))]
    exact ⟨by omega, rfl, rfl⟩
theorem e_slips {T : t_D} {v : Nat → Nat} {x m : k_St} (h : XB T v x) (hs : SL T x) (g : MB T v m) {n : Nat} (hn : big n) : Q2 (some (f_X_slips x)) x (f_M_slips n m) m := by
  have g0 := g.mk (th0 m)
  unfold f_X_slips f_M_slips
  rw [klt (k_sI m 0 0 0)]
  rcases mixed_or h g0.1 with ⟨-, a, b, c⟩ | ⟨p, a, c⟩
  · rw [if_neg (k_bne a), b, c, klt (6 : Int32), if_neg (by decide)]
    exact Q2.ref (xk.rf x) (th0 m) 6 (by decide)
  · obtain ⟨x2, u, e, hm, hu⟩ := fMslipsAll h.1 hn g0.1
    rw [if_pos (k_beq a), c, klt (0 : Int32), if_pos (by decide), e, kcl]
    have : x2 = x.1 31 0 := by
      have q := hs p
      generalize hr : slr T = s at q hu
      match s, q, hu with
      | none, q, hu => exact hu.1.trans q.1.symm
      | some (b, r, k), q, hu => exact hu.2.1.trans q.2.1.symm
    rw [this]
    exact Q2.ans (xk.rf x) ((th0 m).tr hm.mk) _
theorem e_meanings {T : t_D} {v : Nat → Nat} {x m : k_St} (h : XB T v x) (hs : SL T x) (g : MB T v m) {n : Nat} (hn : big n) : Q2 (some (f_X_meanings x)) x (f_M_meanings n m) m := by
  have g0 := g.mk (th0 m)
  unfold f_X_meanings f_M_meanings
  rw [klt (k_sI m 0 0 0)]
  rcases mixed_or h g0.1 with ⟨-, a, b, c⟩ | ⟨p, a, c⟩
  · rw [if_neg (k_bne a), b, c, klt (6 : Int32), if_neg (by decide)]
    exact Q2.ref (xk.rf x) (th0 m) 6 (by decide)
  · obtain ⟨x2, u, e, hm, hu⟩ := fMslipsAll h.1 hn g0.1
    rw [if_pos (k_beq a), c, klt (0 : Int32), if_pos (by decide), e, kcl]
    have : u.1 0 41 = x.1 31 2 := by
      have q := hs p
      generalize hr : slr T = s at q hu
      match s, q, hu with
      | none, q, hu => exact hu.2.1.trans q.2.2.symm
      | some (b, r, k), q, hu => exact hu.2.2.1.trans q.2.2.2.symm
    rw [this]
    exact Q2.ans (xk.rf x) ((th0 m).tr hm.mk) _
theorem e_meant {T : t_D} {v : Nat → Nat} {x m : k_St} (h : XB T v x) (hs : SL T x) (g : MB T v m) {n : Nat} (hn : big n) (x1 : Int32) : Q2 (f_X_meant n x1 x) x (f_M_meant n x1 m) m := by
  have g0 := g.mk (th0 m)
  unfold f_X_meant f_M_meant
  rw [klt (k_sI m 0 0 0)]
  rcases mixed_or h g0.1 with ⟨-, a, b, c⟩ | ⟨p, a, c⟩
  · rw [if_neg (k_bne a), b, c, klt (6 : Int32), if_neg (by decide)]
    exact Q2.ref (xk.rf x) (th0 m) 6 (by decide)
  · obtain ⟨x2, u, e, hm, hu⟩ := fMslipsAll h.1 hn g0.1
    have mu := (th0 m).tr hm.mk
    rw [if_pos (k_beq a), c, klt (0 : Int32), if_pos (by decide), e, kcl]
    have q := hs p
    generalize hr : slr T = s at q hu
    match s, q, hu with
    | none, q, hu =>
      have hX : AX (k_cl (f_X_pieceOfTale n (x.1 31 1) x1 x) (fun r_2 t_1 => some (r_2, t_1))) x (-1) 1 := by
        refine AX.thru ?_
        unfold f_X_pieceOfTale
        rw [if_pos q.2.1]
        exact AX.ref (xk.rf x) 1
      refine ⟨-1, 1, hX, ?_, by decide⟩
      by_cases hx : x1 < 0
      · rw [if_pos hx]; exact AM.ref mu 1
      · rw [if_neg hx, hu.2.2, if_pos (Int32.not_lt.mp hx)]; exact AM.ref mu 1
    | some (b, r, k), q, hu =>
      obtain ⟨-, -, ⟨j, hj1, hj⟩, -⟩ := q
      obtain ⟨-, -, -, h40, h8, h17⟩ := hu
      have hT := fpieceOfTale h (show 200 ≤ n by omega) hj x1
      rw [hj1, h40]
      by_cases hx : x1 < 0
      · rw [if_pos hx]
        exact ⟨-1, 1, AX.thru (hT.2 (fun i hi h31 => by rw [hi] at hx; exact absurd hx (nI_pos h31))), AM.ref mu 1, by decide⟩
      · obtain ⟨i, hi, rfl⟩ := nI_of hx
        rw [if_neg hx]
        rcases Nat.lt_or_ge i r.length with hl | hl
        · rw [if_neg (nI_ge hl (by omega)), kgi (kin (by omega) (by decide)), nI_clamp (by omega), h17 i _ (rf_get hl)]
          exact ⟨nI (rf r i), 0, AX.thru (hT.1 i _ rfl hi (rf_get hl)), AM.good mu _, by decide⟩
        · rw [if_pos (nI_le hl (by omega))]
          refine ⟨-1, 1, AX.thru (hT.2 (fun i' hi' h31 => ?_)), AM.ref mu 1, by decide⟩
          rw [← nI_inj hi h31 hi']
          exact List.getElem?_eq_none hl
