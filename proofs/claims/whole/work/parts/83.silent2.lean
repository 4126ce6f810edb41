/-! ===== the reference after a flaw: lines ===== -/
theorem d_silent40 {t : k_St} (h : dead t) (n : Nat) (x : Int32) : f_M_readSilent_R_40 n x t = some t := by
  unfold f_M_readSilent_R_40
  rw [d_goesOn h, kcv, if_pos h.1]
theorem d_heard55 {t : k_St} (h : dead t) (n : Nat) (x y : Int32) : f_M_readHeard_R_55 n x y t = some t := by
  unfold f_M_readHeard_R_55
  rw [d_goesOn h, kcv, if_pos h.1]
theorem d_follows60 {t : k_St} (h : dead t) (n : Nat) (x y : Int32) : f_M_readFollows_R_60 n x y t = some t := by
  unfold f_M_readFollows_R_60
  rw [d_goesOn h, kcv, if_pos h.1]
theorem d_readKnown {t : k_St} (h : dead t) {n : Nat} (hn : 200 ≤ n) (x : Int32) : f_M_readKnown_R n x t = some (0, t) := by
  unfold f_M_readKnown_R
  rw [d_known h hn, kcl, d_goesOn h, kcv]
theorem d_piece83 {t : k_St} (h : dead t) (n : Nat) (x : Int64) (y : Int32) : f_M_readPiece_R_83 n x y t = some t := by
  unfold f_M_readPiece_R_83
  rw [d_goesOn h, kcv, if_pos h.1]
theorem d_piece72 {t : k_St} (h : dead t) (n : Nat) (x : Int64) (y : Int32) : f_M_readPiece_R_72 n x y t = some t := by
  unfold f_M_readPiece_R_72
  rw [d_flaw h, klt, d_piece83 h]
  split
  · rfl
  · rfl
theorem d_mixed46 {t : k_St} (h : dead t) (n : Nat) (rec25 : Int32 → Int32 → k_St → Option k_St) (x y : Int32) : f_M_readMixed_R_46 n rec25 x y t = some t := by
  unfold f_M_readMixed_R_46
  rw [d_goesOn h, kcv, if_pos h.1]
/-! ===== silent ===== -/
theorem nk1 : ¬ k_b true = 0 := by decide
theorem fSilS {x : k_St} {a i : Nat} (h : x.1 10 6 = nI a) (ha : a < 2 ^ 31) (hi : i < 32) : f_Te_isSilentS x (nI i) = a.testBit i := by
  unfold f_Te_isSilentS
  rw [h]
  by_cases e : a.testBit i = true
  · rw [if_neg (fun z => by rw [(nI_bit0 ha hi).mp z] at e; simp at e), e]
  · rw [if_pos ((nI_bit0 ha hi).mpr (by simpa using e))]
    simpa using e
section
variable {bs : List Nat} {q : tok} {L : Nat} {T : t_D} {g : Bool} {NP NH : List Nat} {NM : List (Nat × Nat × Nat)} {x0 m0 x m : k_St} {n : Nat}
theorem RD.x0i (h : RD bs q L T g NP NH NM x0 m0 x m) {i : Nat} (a : 2 ≤ i) (b : i < 8) : x.1 10 i = nI (T 0 i) ∧ m.1 18 i = nI (T 0 i) := ⟨h.sx 0 i (Or.inl ⟨rfl, a, b⟩), h.sm 0 i (Or.inl ⟨rfl, a, b⟩)⟩
theorem RD.xP (h : RD bs q L T g NP NH NM x0 m0 x m) : x.1 10 2 = nI NP.length ∧ m.1 18 2 = nI NP.length := by rw [h.2.2.2.2.1.2.2.2.1]; exact h.x0i (by omega) (by omega)
theorem RD.xH (h : RD bs q L T g NP NH NM x0 m0 x m) : x.1 10 4 = nI NH.length ∧ m.1 18 4 = nI NH.length := by rw [h.2.2.2.2.1.2.2.2.2]; exact h.x0i (by omega) (by omega)
theorem RD.kP (h : RD bs q L T g NP NH NM x0 m0 x m) (B : BT bs q x m) (hn : 2000 ≤ n) : (∃ i, i < T 0 2 ∧ q.1 = 2 ∧ f_Re_nameHereP n (x.1 10 2) x = some (nI i, x) ∧ f_M_knownOne_R n 0 m = some (nI i, m)) ∨ ∃ c : Int32, 0 < c ∧ f_Re_nameHereP n (x.1 10 2) x = some (-1, k_sI x 18 0 c) ∧ f_M_knownOne_R n 0 m = some (0, f_M_flaw_R c m) := by
  rw [h.xP.1, ← h.2.2.2.2.1.2.2.2.1]
  exact knP B.1 B.2.2.2.2.1 B.2.2.2.2.2 B.2.2.1 B.2.2.2.1 h.2.2.2.2.1.1 h.2.2.2.2.1.2.1 h.2.2.2.2.1.2.2.1 (by omega)
theorem RD.kH (h : RD bs q L T g NP NH NM x0 m0 x m) (B : BT bs q x m) (hn : 2000 ≤ n) : (∃ i, i < T 0 4 ∧ q.1 = 2 ∧ f_Re_nameHereH n (x.1 10 4) x = some (nI i, x) ∧ f_M_knownOne_R n 1 m = some (nI i, m)) ∨ ∃ c : Int32, 0 < c ∧ f_Re_nameHereH n (x.1 10 4) x = some (-1, k_sI x 18 0 c) ∧ f_M_knownOne_R n 1 m = some (0, f_M_flaw_R c m) := by
  rw [h.xH.1, ← h.2.2.2.2.1.2.2.2.2]
  exact knH B.1 B.2.2.2.2.1 B.2.2.2.2.2 B.2.2.1 B.2.2.2.1 h.2.2.2.2.1.1 h.2.2.2.2.1.2.1 h.2.2.2.2.1.2.2.1 (by omega)
theorem lnSilent (h : RD bs q L T g NP NH NM x0 m0 x m) (hq : q.1 = 2) (hn : 2000 ≤ n) : LO bs L x0 m0 (f_Re_readSilent n x) (f_M_readSilent_R n m) := by
  have B0 := h.1.1 (by omega)
  unfold f_Re_readSilent f_M_readSilent_R
  rcases bfirst (full := false) (a := 0) (b := 1) B0 (by omega) h.len h.m8 h.ns hn (by decide) with ⟨x1, m1, e1, e2, f1, f2, B1, -, hg⟩ | ⟨c, hc, e1, e2⟩
  · have e1' : f_Re_passFirstWord n 0 0 x = some (true, x1) := e1
    have h1 := h.on f1 f2 B1.w h.2.1.on
    have hT := h1.2.2.1
    have h32 := hT.s32
    rw [e1', kcl, if_neg nk1, e2, kcv]
    rcases h1.kH B1 hn with ⟨i, hi, q2, a1, a2⟩ | ⟨c, hc, a1, a2⟩
    · have h5 := hT.2.2.2.2.1
      rw [a1, kcl, if_neg (nI_ne_m1 (by omega)), a2, kcl, if_neg h1.1.al, fSilS (h1.x0i (i := 6) (by omega) (by omega)).1 (by omega) (by omega), (h1.x0i (i := 6) (by omega) (by omega)).2, fMbit (by omega) (by omega)]
      by_cases hb : (T 0 6).testBit i = true
      · rw [hb, if_neg nk1, if_neg nk1, klt (f_M_flaw_R 3 m1), d_silent40 (h1.dd 3)]
        exact h1.bad (by decide)
      · rw [show (T 0 6).testBit i = false by simpa using hb, if_pos kbf, if_pos kbf]
        obtain ⟨x2, m2, s1, s2, f3, f4, B2⟩ := bstep B1 (by omega) hn
        have h2 := h1.on f3 f4 B2.w h1.2.1.on
        unfold f_M_readSilent_R_40
        rw [s1, kcv, klt, s2, kcv, if_neg h2.1.al, klt, (h2.x0i (i := 6) (by omega) (by omega)).1, (h2.x0i (i := 6) (by omega) (by omega)).2, nI_shl i (by omega), nI_or]
        refine LO.ok (h2.put (T' := tu T 0 6 (T 0 6 ||| 2 ^ i)) (fun o k z => by rw [sI1, if_neg (by omega)]) (fun _ _ _ => rfl) (fun o k z => ⟨by rw [sI1, if_neg (by omega)], rfl⟩) (hT.silent hi) ((h2.sx.set 0 6 _).mono (fun a k d => Or.inl d)) ((h2.sm.set 0 6 _).mono (fun a k d => Or.inl d)) hg (h2.2.2.2.2.1.keep rfl rfl ?_ ?_ ?_ rfl rfl))
        · rw [sI1, if_neg (by omega)]
        · intro k; rw [sI1, if_neg (by omega)]
        · intro k; rw [sI1, if_neg (by omega)]
    · rw [a1, kcl, if_pos rfl, a2, kcl, if_pos (h1.dd c).1, d_silent40 (h1.dd c)]
      exact h1.bad hc
  · have e1' : f_Re_passFirstWord n 0 0 x = some (false, k_sI x 18 0 c) := e1
    rw [e1', kcl, if_pos kbf, e2, kcv, d_known (h.dd c) (by omega), kcl, if_pos (h.dd c).1, d_silent40 (h.dd c)]
    exact h.bad hc
end
