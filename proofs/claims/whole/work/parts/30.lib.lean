/-! ===== pure rows: reading programs ===== -/
theorem kcp {α β : Type} (x : α) (k : α → Option β) : k_cp (some x) k = k x := rfl
theorem kcl {α β : Type} (x : α) (t : k_St) (k : α → k_St → Option β) : k_cl (some (x, t)) k = k x t := rfl
theorem kcv {β : Type} (t : k_St) (k : k_St → Option β) : k_cv (some t) k = k t := rfl
theorem klt {α β : Type} (x : α) (k : α → β) : k_lt x k = k x := rfl
theorem kgd {β : Type} {c : Prop} [Decidable c] (h : c) (k : Option β) : k_gd c k = k := if_pos h
theorem kgi {β : Type} {i : Int32} {n : Nat} (h : k_in i n) (k : Option β) : k_gi i n k = k := if_pos h
theorem sI1 (t : k_St) (o j : Nat) (v : Int32) (o' j' : Nat) : (k_sI t o j v).1 o' j' = if o' = o ∧ j' = j then v else t.1 o' j' := by
  show (if o' = o then upd (t.1 o) j v else t.1 o') j' = _
  by_cases h : o' = o
  · subst h
    rw [if_pos rfl]
    by_cases h2 : j' = j
    · subst h2
      rw [if_pos ⟨rfl, rfl⟩, pk_us]
    · rw [pk_un h2, if_neg (fun q => h2 q.2)]
  · rw [if_neg h, if_neg (fun q => h q.1)]
theorem sI2 (t : k_St) (o j : Nat) (v : Int32) : (k_sI t o j v).2 = t.2 := rfl
theorem sL1 (t : k_St) (o j : Nat) (v : Int64) : (k_sL t o j v).1 = t.1 := rfl
theorem sL2 (t : k_St) (o j : Nat) (v : Int64) (o' j' : Nat) : (k_sL t o j v).2 o' j' = if o' = o ∧ j' = j then v else t.2 o' j' := by
  show (if o' = o then vp_updL (t.2 o) j v else t.2 o') j' = _
  by_cases h : o' = o
  · subst h
    rw [if_pos rfl]
    by_cases h2 : j' = j
    · subst h2
      rw [if_pos ⟨rfl, rfl⟩, pk_uLs]
    · rw [pk_uLn h2, if_neg (fun q => h2 q.2)]
  · rw [if_neg h, if_neg (fun q => h q.1)]
theorem kbt : k_b true = 1 := rfl
theorem kbf : k_b false = 0 := rfl
theorem kin {i N : Nat} (h : i < N) (hN : N < 2 ^ 31) : k_in (nI i) N := vp_in_nI h hN
theorem kin_lit {x : Int32} {N i : Nat} (hx : x = nI i) (h : i < N) (hN : N < 2 ^ 31) : k_in x N := by rw [hx]; exact vp_in_nI h hN
theorem nI_inj {a b : Nat} (ha : a < 2 ^ 31) (hb : b < 2 ^ 31) (h : nI a = nI b) : a = b := (nI_eq ha hb).mp h
/-! numbers of few bits -/
def pc8 (s : Nat) : Nat := ((List.range 8).filter (fun i => s.testBit i)).length
theorem bc8 : ∀ s, s < 256 → f_In_bitCount_0f7a4 (nI s) = nI (pc8 s) := by decide +kernel
theorem pc8_le (s : Nat) : pc8 s ≤ 8 := by
  have := List.length_filter_le (fun i => s.testBit i) (List.range 8)
  simpa [pc8] using this
theorem nI_and (a b : Nat) : nI a &&& nI b = nI (a &&& b) := by
  apply Int32.toBitVec_inj.mp
  show BitVec.ofNat 32 a &&& BitVec.ofNat 32 b = BitVec.ofNat 32 (a &&& b)
  apply BitVec.eq_of_getLsbD_eq
  intro i hi
  simp [hi]
theorem nI_or (a b : Nat) : nI a ||| nI b = nI (a ||| b) := by
  apply Int32.toBitVec_inj.mp
  show BitVec.ofNat 32 a ||| BitVec.ofNat 32 b = BitVec.ofNat 32 (a ||| b)
  apply BitVec.eq_of_getLsbD_eq
  intro i hi
  simp [hi]
theorem nI_xor (a b : Nat) : nI a ^^^ nI b = nI (a ^^^ b) := by
  apply Int32.toBitVec_inj.mp
  show BitVec.ofNat 32 a ^^^ BitVec.ofNat 32 b = BitVec.ofNat 32 (a ^^^ b)
  apply BitVec.eq_of_getLsbD_eq
  intro i hi
  simp [hi]
theorem nI_m1 : (-1 : Int32) = nI 4294967295 := by decide
theorem nI_shl : ∀ p, p < 31 → (1 : Int32) <<< (nI p &&& 31) = nI (2 ^ p) := by decide +kernel
theorem nI_31 : ∀ p, p < 32 → nI p &&& 31 = nI p := by decide +kernel
theorem sm32 : ∀ p, p < 32 → ((nI p &&& 31).toBitVec.smod 32).toNat = p := by decide +kernel
theorem nI_shr {a p : Nat} (ha : a < 2 ^ 31) (hp : p < 32) : nI a >>> (nI p &&& 31) = nI (a / 2 ^ p) := pk_shrN ha _ p (sm32 p hp)
theorem nI_bit {a p : Nat} (ha : a < 2 ^ 31) (hp : p < 32) : (nI a >>> (nI p &&& 31)) &&& (1 : Int32) = nI (if a.testBit p then 1 else 0) := by
  rw [nI_shr ha hp, show (1 : Int32) = nI 1 from rfl, nI_and, Nat.and_one_is_mod, Nat.testBit_eq_decide_div_mod_eq]
  by_cases h : a / 2 ^ p % 2 = 1
  · simp [h]
  · have : a / 2 ^ p % 2 = 0 := by omega
    simp [this]
theorem nI_bit0 {a p : Nat} (ha : a < 2 ^ 31) (hp : p < 32) : ((nI a >>> (nI p &&& 31)) &&& (1 : Int32) = 0) ↔ a.testBit p = false := by
  rw [nI_bit ha hp]
  cases a.testBit p <;> decide
theorem nI_bit1 {a p : Nat} (ha : a < 2 ^ 31) (hp : p < 32) : ((nI a >>> (nI p &&& 31)) &&& (1 : Int32) = (1 : Int32)) ↔ a.testBit p = true := by
  rw [nI_bit ha hp]
  cases a.testBit p <;> decide
theorem fMbit {a p : Nat} (ha : a < 2 ^ 31) (hp : p < 32) : f_M_bit (nI a) (nI p) = a.testBit p := by
  unfold f_M_bit
  by_cases h : a.testBit p = true
  · rw [if_pos ((nI_bit1 ha hp).mpr h), h]
  · rw [if_neg (fun q => h ((nI_bit1 ha hp).mp q))]
    simpa using h
theorem neL (x : Int32) {a b : Nat} (h : a ≠ b) (hx : x = nI b) (ha : a < 2 ^ 31) (hb : b < 2 ^ 31) : ¬ nI a = x := by
  rw [hx]
  exact fun e => h (nI_inj ha hb e)
theorem l1 : (1 : Int32) = nI 1 := rfl
theorem l2 : (2 : Int32) = nI 2 := rfl
theorem l3 : (3 : Int32) = nI 3 := rfl
theorem l4 : (4 : Int32) = nI 4 := rfl
theorem l5 : (5 : Int32) = nI 5 := rfl
theorem l6 : (6 : Int32) = nI 6 := rfl
theorem l7 : (7 : Int32) = nI 7 := rfl
theorem l8 : (8 : Int32) = nI 8 := rfl
theorem l9 : (9 : Int32) = nI 9 := rfl
theorem l10 : (10 : Int32) = nI 10 := rfl
theorem l15 : (15 : Int32) = nI 15 := rfl
