/-! ===== silent: the reference after a flaw ===== -/
theorem d_silent40 {t : k_St} (h : dead t) (n : Nat) (x : Int32) : f_M_readSilent_R_40 n x t = some t := by
  unfold f_M_readSilent_R_40
  rw [d_goesOn h, kcv, if_pos h.1]
theorem d_heard55 {t : k_St} (h : dead t) (n : Nat) (x y : Int32) : f_M_readHeard_R_55 n x y t = some t := by
  unfold f_M_readHeard_R_55
  rw [d_goesOn h, kcv, if_pos h.1]
theorem d_follows60 {t : k_St} (h : dead t) (n : Nat) (x y : Int32) : f_M_readFollows_R_60 n x y t = some t := by
  unfold f_M_readFollows_R_60
  rw [d_goesOn h, kcv, if_pos h.1]
theorem d_readKnown {t : k_St} (h : dead t) {n : Nat} (hn : 200 ≤ n) (x : Int32) : f_M_readKnown_R n x t = some (0, t) := by
  unfold f_M_readKnown_R
  rw [d_known h hn, kcl, d_goesOn h, kcv]
theorem d_piece83 {t : k_St} (h : dead t) (n : Nat) (x : Int64) (y : Int32) : f_M_readPiece_R_83 n x y t = some t := by
  unfold f_M_readPiece_R_83
  rw [d_goesOn h, kcv, if_pos h.1]
theorem d_piece72 {t : k_St} (h : dead t) (n : Nat) (x : Int64) (y : Int32) : f_M_readPiece_R_72 n x y t = some t := by
  unfold f_M_readPiece_R_72
  rw [d_flaw h, klt, d_piece83 h]
  split
  · rfl
  · rfl
theorem d_mixed46 {t : k_St} (h : dead t) (n : Nat) (rec25 : Int32 → Int32 → k_St → Option k_St) (x y : Int32) : f_M_readMixed_R_46 n rec25 x y t = some t := by
  unfold f_M_readMixed_R_46
  rw [d_goesOn h, kcv, if_pos h.1]
