/-! ===== lines: both ===== -/
def RD (bs : List Nat) (q : tok) (T : t_D) (g : Bool) (NP NH : List Nat) (NM : List (Nat × Nat × Nat)) (x m : k_St) : Prop := BT bs q x m ∧ Tp T ∧ SX T g x ∧ SM T g m ∧ NW NP NH NM ∧ NX NP NH x ∧ NMm NM m ∧ NP.length = T 0 2 ∧ NH.length = T 0 4 ∧ x.1 18 8 = if g then 1 else 0
theorem RD.len {bs : List Nat} {q : tok} {T : t_D} {g : Bool} {NP NH : List Nat} {NM : List (Nat × Nat × Nat)} {x m : k_St} (h : RD bs q T g NP NH NM x m) : NM.length ≤ 13 := by
  have hN := h.2.2.2.2.1
  have := hN.1
  have := hN.2.1
  have := hN.2.2.1
  omega
theorem RD.on {bs : List Nat} {q q' : tok} {T : t_D} {g : Bool} {NP NH : List Nat} {NM : List (Nat × Nat × Nat)} {x m x' m' : k_St} (h : RD bs q T g NP NH NM x m) (a : xr x x') (b : mo m m') (c : BT bs q' x' m') : RD bs q' T g NP NH NM x' m' :=
  ⟨c, h.2.1, h.2.2.1.xr a, h.2.2.2.1.mo b, h.2.2.2.2.1, h.2.2.2.2.2.1.xr a, h.2.2.2.2.2.2.1.mo b, h.2.2.2.2.2.2.2.1, h.2.2.2.2.2.2.2.2.1, by rw [a.1 18 8 (by omega)]; exact h.2.2.2.2.2.2.2.2.2⟩
/-- both fail at the same place, for the same fault -/
def Fl (bs : List Nat) (fX : Option (Bool × k_St)) (fM : Option k_St) : Prop := ∃ c q x m, BT bs q x m ∧ fX = some (false, k_sI x 18 0 c) ∧ fM = some (f_M_flaw_R c m)
