/-! ===== a token passed: both ===== -/
/-- both stand at token q -/
def BT (bs : List Nat) (q : tok) (x m : k_St) : Prop := XX bs x ∧ MX bs m ∧ XK bs q x ∧ MK bs q m ∧ tkw bs q ∧ q.1 ≤ 5
theorem bstep {bs : List Nat} {q : tok} {x m : k_St} (h : BT bs q x m) (h1 : q.1 ≠ 1) {n : Nat} (hn : 2000 ≤ n) : ∃ x' m', f_Re_step n x = some x' ∧ f_M_goesOn_R n m = some m' ∧ xr x x' ∧ mo m m' ∧ BT bs (lx q.2.2.1) x' m' := by
  obtain ⟨hX, hM, hK, hL, hw, h5⟩ := h
  obtain ⟨P, hP⟩ := hw.2.2 h1
  have hl : bs.length = P.length + q.2.2.1.length := by
    have := congrArg List.length hP
    rw [List.length_append] at this
    exact this
  have h900 := hX.1
  have al := hL.al h5
  obtain ⟨x', a, b, c⟩ := fstep hn hP hX (by rw [hK.2.2.1, show bs.length - q.2.2.1.length = P.length by omega])
  obtain ⟨m', a2, b2, c2⟩ := fgoes10 (n := n) q.2.2.1 P n m hP (by omega) (by omega) hM (by rw [hL.2.2.1 h1, show bs.length - q.2.2.1.length = P.length by omega])
  obtain ⟨w1, w2⟩ := lx_ok hP
  exact ⟨x', m', a, by unfold f_M_goesOn_R; rw [if_neg al]; exact a2, b, b2, hX.xr b, hM.mo b2, c, c2, w1, w2⟩
theorem sy_2 {q : tok} {i : Nat} (h : sy q i = true) : q.1 = 2 := by
  unfold sy at h
  rw [decide_eq_true_eq] at h
  exact h.1
theorem bword {bs : List Nat} {q : tok} {x m : k_St} (h : BT bs q x m) {k : Nat} (hk : k ≤ 13) (h8 : m.1 18 8 = nI k) {n i : Nat} (hn : 2000 ≤ n) (hi : i < 16) : (∃ x' m', f_Re_passWord n i x = some (true, x') ∧ f_M_needs_R n i m = some m' ∧ xr x x' ∧ mo m m' ∧ BT bs (lx q.2.2.1) x' m') ∨ (f_Re_passWord n i x = some (false, k_sI x 18 0 1) ∧ f_M_needs_R n i m = some (f_M_flaw_R 1 m)) := by
  obtain ⟨hX, hM, hK, hL, hw, h5⟩ := h
  unfold f_Re_passWord f_M_needs_R
  rw [fsays hX hw hK h5 (by omega) hi, fMisWord hw hL h5 (by omega) hi, kcp, kcp]
  by_cases hs : sy q i = true
  · left
    obtain ⟨x', m', a, b, c, d, e⟩ := bstep ⟨hX, hM, hK, hL, hw, h5⟩ (by rw [sy_2 hs]; omega) hn
    rw [if_neg (k_bne hs), if_neg (k_bne hs), a, b, kcv, kcv]
    exact ⟨x', m', rfl, rfl, c, d, e⟩
  · right
    have hs' : sy q i = false := by simpa using hs
    have hd := flaw_dead (hL.al h5) 1 hk h8
    rw [if_pos (k_beq hs'), if_pos (k_beq hs'), klt (f_M_flaw_R 1 m), d_goesOn hd, kcv]
    exact ⟨rfl, rfl⟩
theorem isd_r {c : Nat} (h : isd c = true) : 48 ≤ c ∧ c ≤ 57 := by
  unfold isd at h
  rw [Bool.and_eq_true, decide_eq_true_eq, decide_eq_true_eq] at h
  exact h
/-- the state of both after a part that both read: the class keeps the value -/
theorem bwhole {bs : List Nat} {q : tok} {x m : k_St} (h : BT bs q x m) {k : Nat} (hk : k ≤ 13) (h8 : m.1 18 8 = nI k) {n a b : Nat} (hn : 2000 ≤ n) (ha : a ≤ 1000) (hb : b ≤ 1000) (hv : q.1 = 3 → nvl 0 q.2.2.2 < 2000) : (∃ v x' m', v < 2000 ∧ a ≤ v ∧ v ≤ b ∧ f_Re_passWhole n (nI a) (nI b) x = some (true, x') ∧ x'.1 18 6 = nI v ∧ f_M_readWhole_R n (nI a) (nI b) m = some (nI v, m') ∧ xr x x' ∧ mo m m' ∧ ∃ q', q' = lx q.2.2.1 ∧ (q'.1 ≠ 3 → BT bs q' x' m') ∧ XX bs x' ∧ MX bs m' ∧ MK bs q' m' ∧ tkw bs q' ∧ q'.1 ≤ 5 ∧ x'.1 18 5 = nI q'.1 ∧ x'.1 18 1 = nI (bs.length - q'.2.1.length)) ∨ ∃ c : Int32, 0 < c ∧ f_Re_passWhole n (nI a) (nI b) x = some (false, k_sI x 18 0 c) ∧ f_M_readWhole_R n (nI a) (nI b) m = some (nI a, f_M_flaw_R c m) := by
  obtain ⟨hX, hM, hK, hL, hw, h5⟩ := h
  have al := hL.al h5
  have fl : ∀ c, f_M_readWhole_R_33 n (nI a) (f_M_flaw_R c m) = some (nI a, f_M_flaw_R c m) := fun c => by
    have hd := flaw_dead al c hk h8
    unfold f_M_readWhole_R_33
    rw [if_pos hd.1, d_goesOn hd, kcv]
  unfold f_Re_passWhole f_M_readWhole_R
  rw [hK.1, hL.1]
  by_cases e3 : q.1 = 3
  · have hv' := hv e3
    have x6 := hK.2.2.2.2 e3
    have m11 := hL.2.2.2.2 e3
    rw [if_pos (show nI q.1 = 3 by rw [e3]; rfl), if_pos (show nI (mkd q.1) = 3 by rw [e3]; rfl), x6, m11]
    unfold f_M_in
    by_cases h1 : nvl 0 q.2.2.2 < a
    · right
      refine ⟨4, by decide, by rw [if_pos (nI_lt h1 (by omega))]; rfl, ?_⟩
      rw [if_pos (nI_lt h1 (by omega)), if_pos (show k_b false = 0 from rfl), klt (f_M_flaw_R 4 m)]
      exact fl 4
    · rw [if_neg (nI_nlt (by omega) (by omega)), if_neg (nI_nlt (by omega) (by omega))]
      by_cases h2 : b < nvl 0 q.2.2.2
      · right
        refine ⟨4, by decide, by rw [if_neg (nI_ge h2 (by omega))]; rfl, ?_⟩
        rw [if_pos (nI_lt h2 (by omega)), if_pos (show k_b false = 0 from rfl), klt (f_M_flaw_R 4 m)]
        exact fl 4
      · left
        obtain ⟨x', m', s1, s2, s3, s4, t1, t2, t3, t4, t5, t6⟩ := bstep ⟨hX, hM, hK, hL, hw, h5⟩ (by omega) hn
        rw [if_pos (nI_le (by omega) (by omega)), if_neg (nI_nlt (by omega) (by omega)), if_neg (show ¬ k_b true = 0 by decide), klt (nI (nvl 0 q.2.2.2)), s1, kcv, klt]
        unfold f_M_readWhole_R_33
        rw [if_neg al, m11, klt, s2, kcv]
        have xz := xr.si x' 6 (nI (nvl 0 q.2.2.2)) (by omega)
        refine ⟨nvl 0 q.2.2.2, _, m', hv', by omega, by omega, rfl, by rw [sI1, if_pos ⟨rfl, rfl⟩], rfl, s3.tr xz, s4, lx q.2.2.1, rfl, fun q3 => ⟨t1.xr xz, t2, ⟨?_, ?_, ?_, ?_, fun z => absurd z q3⟩, t4, t5, t6⟩, t1.xr xz, t2, t4, t5, t6, ?_, ?_⟩
        · rw [sI1, if_neg (by omega)]; exact t3.1
        · rw [sI1, if_neg (by omega)]; exact t3.2.1
        · rw [sI1, if_neg (by omega)]; exact t3.2.2.1
        · exact t3.2.2.2.1
        · rw [sI1, if_neg (by omega)]; exact t3.1
        · rw [sI1, if_neg (by omega)]; exact t3.2.1
  · right
    have hm : mkd q.1 ≠ 3 ∧ mkd q.1 < 2 ^ 31 := by unfold mkd; split <;> (try split) <;> omega
    refine ⟨1, by decide, by rw [if_neg (neL (b := 3) 3 e3 rfl (by omega) (by omega))]; rfl, ?_⟩
    rw [if_neg (neL (b := 3) 3 hm.1 rfl hm.2 (by omega)), klt (f_M_flaw_R 1 m)]
    exact fl 1
