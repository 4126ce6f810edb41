/-! ===== a line begins: both ===== -/
/-- what the class's flag and the reference's kings say: the nurse has been told of, or not -/
def NS (g : Bool) (x m : k_St) : Prop := (x.1 18 8 = if g then 1 else 0) ∧ (m.1 18 0 = -1 ↔ g = false)
theorem bfirst {bs : List Nat} {q : tok} {x m : k_St} (h : BT bs q x m) (h1 : q.1 ≠ 1) {k : Nat} (hk : k ≤ 13) (h8 : m.1 18 8 = nI k) {g : Bool} (hg : NS g x m) {n : Nat} (hn : 2000 ≤ n) {full : Bool} {a b : Int32} (hab : a = b ↔ full = true) : (∃ x' m', f_Re_passFirstWord n 0 (if full then 1 else 0) x = some (true, x') ∧ f_M_lineBegins_R n a b m = some m' ∧ xr x x' ∧ mo m m' ∧ BT bs (lx q.2.2.1) x' m' ∧ full = false ∧ g = true) ∨ ∃ c : Int32, 0 < c ∧ f_Re_passFirstWord n 0 (if full then 1 else 0) x = some (false, k_sI x 18 0 c) ∧ f_M_lineBegins_R n a b m = some (f_M_flaw_R c m) := by
  have al := h.2.2.2.1.al h.2.2.2.2.2
  have dd : ∀ c, f_M_lineBegins_R_10 n (f_M_flaw_R c m) = some (f_M_flaw_R c m) := fun c => by
    have hd := flaw_dead al c hk h8
    unfold f_M_lineBegins_R_10
    rw [d_flaw hd, klt, d_goesOn hd, kcv]
    split <;> rfl
  unfold f_Re_passFirstWord f_M_lineBegins_R
  rw [if_pos rfl]
  cases full with
  | true =>
    right
    refine ⟨5, by decide, by rw [if_neg (by decide)]; rfl, ?_⟩
    rw [if_pos (hab.mpr rfl), klt]
    exact dd 5
  | false =>
    have nab : ¬ a = b := fun z => by simpa using hab.mp z
    rw [if_pos (show (if false = true then (1 : Int32) else 0) = 0 from rfl), if_neg nab]
    unfold f_M_lineBegins_R_10
    cases g with
    | false =>
      right
      refine ⟨6, by decide, by rw [hg.1, if_pos (by rfl)]; rfl, ?_⟩
      rw [if_pos (hg.2.mpr rfl), klt (f_M_flaw_R 6 m), d_goesOn (flaw_dead al 6 hk h8), kcv]
    | true =>
      left
      obtain ⟨x', m', s1, s2, s3, s4, s5⟩ := bstep h h1 hn
      rw [hg.1, if_neg (by decide), if_neg (fun z => by simpa using hg.2.mp z), s1, s2, kcv, kcv]
      exact ⟨x', m', rfl, rfl, s3, s4, s5, rfl, rfl⟩
