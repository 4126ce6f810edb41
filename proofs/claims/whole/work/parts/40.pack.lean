/-! ===== numbers of 64 bits (rows of kit/laws/BITS.to-paste) ===== -/
theorem wb_tb (n : Nat) : (lN n).toBitVec = BitVec.ofNat 64 n := rfl
theorem wb_inj {a b : Int64} (h : a.toBitVec = b.toBitVec) : a = b := Int64.toBitVec_inj.mp h
theorem wb_tn {n : Nat} (h : n < 2 ^ 64) : (lN n).toBitVec.toNat = n := by rw [wb_tb, BitVec.toNat_ofNat, Nat.mod_eq_of_lt h]
theorem wb_of (x : Int64) : ∃ n, n < 2 ^ 64 ∧ x = lN n := ⟨x.toBitVec.toNat, x.toBitVec.isLt, wb_inj (by rw [wb_tb]; simp)⟩
theorem wb_of32 (x : Int32) : ∃ n, n < 2 ^ 32 ∧ x = nI n := ⟨x.toBitVec.toNat, x.toBitVec.isLt, Int32.toBitVec_inj.mp (by show _ = BitVec.ofNat 32 _; simp)⟩
theorem wb_c : ∀ k, k < 64 → ((nI k).toInt64 &&& 63) = lN k := by decide +kernel
theorem wb_cu : ∀ k, k < 64 → ((nI k).toInt64.toUInt64 &&& Int64.toUInt64 63) = UInt64.ofNat k := by decide +kernel
theorem wb_sm : ∀ k, k < 64 → (BitVec.ofNat 64 k).smod 64 = BitVec.ofNat 64 k := by decide +kernel
theorem wb_pw {a b : Nat} (h : a ≤ b) : 2 ^ b = 2 ^ a * 2 ^ (b - a) := by rw [← Nat.pow_add]; congr 1; omega
theorem wb_lt2 {a b : Nat} (h : a < b) : 2 ^ a < 2 ^ b := Nat.pow_lt_pow_right (by decide) h
theorem wb_mod (n : Nat) : lN n = lN (n % 2 ^ 64) := wb_inj (by rw [wb_tb, wb_tb]; apply BitVec.eq_of_toNat_eq; rw [BitVec.toNat_ofNat, BitVec.toNat_ofNat, Nat.mod_mod])
theorem wb_shl (n : Nat) {k : Nat} (hk : k < 64) : lN n <<< ((nI k).toInt64 &&& 63) = lN (n * 2 ^ k) := by
  rw [wb_c k hk]
  apply wb_inj
  rw [Int64.toBitVec_shiftLeft, wb_tb, wb_tb, wb_tb, wb_sm k hk]
  apply BitVec.eq_of_toNat_eq
  rw [BitVec.shiftLeft_eq', BitVec.toNat_shiftLeft, BitVec.toNat_ofNat, BitVec.toNat_ofNat, BitVec.toNat_ofNat, Nat.mod_eq_of_lt (show k < 2 ^ 64 by omega), Nat.shiftLeft_eq, Nat.mul_mod, Nat.mod_mod, ← Nat.mul_mod]
theorem pf_lI {a : Nat} (h : a < 2 ^ 63) : (lN a).toInt = (a : Int) := lg_ofNat_toInt h
theorem pf_shr {a d : Nat} {D : Int64} (hD : (D.toBitVec.smod 64).toNat = d) (h : a < 2 ^ 62) : lN a >>> D = lN (a / 2 ^ d) := by
  have hd : a / 2 ^ d ≤ a := Nat.div_le_self _ _
  apply Int64.toInt_inj.mp
  have e : (lN a >>> D).toInt = (lN a).toInt >>> d := by
    rw [← hD]
    exact BitVec.toInt_sshiftRight ..
  rw [e, Int.shiftRight_eq_div_pow, pf_lI (by omega), pf_lI (by omega)]
  rfl
theorem lNor (a b : Nat) : lN a ||| lN b = lN (a ||| b) := by
  apply wb_inj
  show BitVec.ofNat 64 a ||| BitVec.ofNat 64 b = BitVec.ofNat 64 (a ||| b)
  apply BitVec.eq_of_getLsbD_eq
  intro i hi
  simp [hi]
theorem lNand (a b : Nat) : lN a &&& lN b = lN (a &&& b) := by
  apply wb_inj
  show BitVec.ofNat 64 a &&& BitVec.ofNat 64 b = BitVec.ofNat 64 (a &&& b)
  apply BitVec.eq_of_getLsbD_eq
  intro i hi
  simp [hi]
theorem lNxor (a b : Nat) : lN a ^^^ lN b = lN (a ^^^ b) := by
  apply wb_inj
  show BitVec.ofNat 64 a ^^^ BitVec.ofNat 64 b = BitVec.ofNat 64 (a ^^^ b)
  apply BitVec.eq_of_getLsbD_eq
  intro i hi
  simp [hi]
theorem sm64 : ∀ k, k < 64 → (((nI k).toInt64 &&& 63).toBitVec.smod 64).toNat = k := by decide +kernel
theorem lNshr {a k : Nat} (ha : a < 2 ^ 62) (hk : k < 64) : lN a >>> ((nI k).toInt64 &&& 63) = lN (a / 2 ^ k) := pf_shr (sm64 k hk) ha
/-! ===== what houses KNOW, eight bits a house ===== -/
def pk (v : Nat → Nat) : Nat := v 0 + 256 * (v 1 + 256 * (v 2 + 256 * (v 3 + 256 * v 4)))
def pk8 (v : Nat → Nat) : Prop := ∀ h, h < 5 → v h < 256
theorem pkv_lt {v : Nat → Nat} (h : pk8 v) : pk v < 2 ^ 40 := by
  have h0 := h 0 (by omega); have h1 := h 1 (by omega); have h2 := h 2 (by omega); have h3 := h 3 (by omega); have h4 := h 4 (by omega)
  unfold pk
  omega
theorem pkv_get {v : Nat → Nat} (hv : pk8 v) : ∀ h, h < 5 → pk v / 2 ^ (8 * h) % 256 = v h := by
  have h0 := hv 0 (by omega); have h1 := hv 1 (by omega); have h2 := hv 2 (by omega); have h3 := hv 3 (by omega); have h4 := hv 4 (by omega)
  intro h hh
  unfold pk
  rcases (show h = 0 ∨ h = 1 ∨ h = 2 ∨ h = 3 ∨ h = 4 by omega) with rfl | rfl | rfl | rfl | rfl <;> simp only [Nat.mul_zero, Nat.pow_zero, Nat.div_one, Nat.reduceMul, Nat.reducePow] <;> omega
theorem pkv_bit {v : Nat → Nat} (hv : pk8 v) (i : Nat) : (pk v).testBit i = if i < 40 then (v (i / 8)).testBit (i % 8) else false := by
  by_cases h : i < 40
  · rw [if_pos h]
    have := pkv_get hv (i / 8) (by omega)
    rw [← this, show (256 : Nat) = 2 ^ 8 from rfl, Nat.testBit_mod_two_pow, Nat.testBit_div_two_pow]
    have e : i % 8 + 8 * (i / 8) = i := by omega
    have e2 : 8 * (i / 8) + i % 8 = i := by omega
    simp only [e, e2]
    have : i % 8 < 8 := by omega
    simp [this]
  · rw [if_neg h]
    exact Nat.testBit_lt_two_pow (Nat.lt_of_lt_of_le (pkv_lt hv) (Nat.pow_le_pow_right (by omega) (by omega)))
def vup (v : Nat → Nat) (h x : Nat) : Nat → Nat := fun k => if k = h then x else v k
theorem pkv_or {v : Nat → Nat} (hv : pk8 v) {h b : Nat} (hh : h < 5) (hb : b < 256) : pk v ||| (b * 2 ^ (8 * h)) = pk (vup v h (v h ||| b)) := by
  have hv2 : pk8 (vup v h (v h ||| b)) := by
    intro k hk
    unfold vup
    split
    · exact Nat.or_lt_two_pow (n := 8) (hv h hh) hb
    · exact hv k hk
  apply Nat.eq_of_testBit_eq
  intro i
  rw [Nat.testBit_or, pkv_bit hv, pkv_bit hv2, Nat.testBit_mul_two_pow]
  by_cases hi : i < 40
  · rw [if_pos hi, if_pos hi]
    unfold vup
    by_cases e : i / 8 = h
    · rw [if_pos e, Nat.testBit_or, ← e]
      have e1 : 8 * (i / 8) ≤ i := by omega
      have e2 : i - 8 * (i / 8) = i % 8 := by omega
      simp [e1, e2]
    · rw [if_neg e]
      by_cases e1 : 8 * h ≤ i
      · have : b.testBit (i - 8 * h) = false := Nat.testBit_lt_two_pow (Nat.lt_of_lt_of_le hb (by rw [show (256 : Nat) = 2 ^ 8 from rfl]; exact Nat.pow_le_pow_right (by omega) (by omega)))
        simp [this]
      · simp [e1]
  · rw [if_neg hi, if_neg hi]
    have : b.testBit (i - 8 * h) = false := Nat.testBit_lt_two_pow (Nat.lt_of_lt_of_le hb (by rw [show (256 : Nat) = 2 ^ 8 from rfl]; exact Nat.pow_le_pow_right (by omega) (by omega)))
    simp [this]
theorem m1L : (-1 : Int64) = lN 18446744073709551615 := by decide
theorem bit64 {i : Nat} (h : i < 64) : Nat.testBit 18446744073709551615 i = true := by
  have := Nat.testBit_two_pow_sub_one 64 i
  rw [show (2 ^ 64 - 1 : Nat) = 18446744073709551615 by decide] at this
  rw [this]; simp [h]
/-- some bits of a house less -/
theorem pkv_less {v : Nat → Nat} (hv : pk8 v) {h b : Nat} (hh : h < 5) (hb : b < 256) : pk v &&& ((b * 2 ^ (8 * h)) ^^^ 18446744073709551615) = pk (vup v h (v h &&& (b ^^^ 255))) := by
  have hv2 : pk8 (vup v h (v h &&& (b ^^^ 255))) := by
    intro k hk
    unfold vup
    split
    · exact Nat.lt_of_le_of_lt Nat.and_le_left (hv h hh)
    · exact hv k hk
  apply Nat.eq_of_testBit_eq
  intro i
  rw [Nat.testBit_and, Nat.testBit_xor, pkv_bit hv, pkv_bit hv2, Nat.testBit_mul_two_pow]
  by_cases hi : i < 40
  · rw [if_pos hi, if_pos hi, bit64 (by omega)]
    unfold vup
    by_cases e : i / 8 = h
    · rw [if_pos e, Nat.testBit_and, Nat.testBit_xor, ← e]
      have e1 : 8 * (i / 8) ≤ i := by omega
      have e2 : i - 8 * (i / 8) = i % 8 := by omega
      have e3 : Nat.testBit 255 (i % 8) = true := by
        have := Nat.testBit_two_pow_sub_one 8 (i % 8)
        rw [show (2 ^ 8 - 1 : Nat) = 255 by decide] at this
        rw [this]; simp; omega
      simp [e1, e2, e3]
    · rw [if_neg e]
      by_cases e1 : 8 * h ≤ i
      · have : b.testBit (i - 8 * h) = false := Nat.testBit_lt_two_pow (Nat.lt_of_lt_of_le hb (by rw [show (256 : Nat) = 2 ^ 8 from rfl]; exact Nat.pow_le_pow_right (by omega) (by omega)))
        simp [this]
      · simp [e1]
  · rw [if_neg hi, if_neg hi]
    simp
theorem fpartOf {z h : Nat} (hz : z < 2 ^ 62) (hh : h < 5) : f_X_partOf (lN z) (nI h) = nI (z / 2 ^ (8 * h) % 256) := by
  unfold f_X_partOf
  rw [l8, pk_mul, lNshr hz (by omega), lN_i, show (255 : Int32) = nI 255 from rfl, nI_and, show (255 : Nat) = 2 ^ 8 - 1 from rfl, Nat.and_two_pow_sub_one_eq_mod]
theorem fpart {v : Nat → Nat} (hv : pk8 v) {h : Nat} (hh : h < 5) : f_X_partOf (lN (pk v)) (nI h) = nI (v h) := by
  rw [fpartOf (Nat.lt_of_lt_of_le (pkv_lt hv) (by decide)) hh, pkv_get hv h hh]
theorem fwithMore {v : Nat → Nat} (hv : pk8 v) {h b : Nat} (hh : h < 5) (hb : b < 256) : f_X_withMore (lN (pk v)) (nI h) (nI b) = lN (pk (vup v h (v h ||| b))) := by
  unfold f_X_withMore
  rw [l8, pk_mul, nI_l (by omega), wb_shl b (by omega), lNor, pkv_or hv hh hb]
theorem pk8_up {v : Nat → Nat} (hv : pk8 v) {h x : Nat} (hx : x < 256) : pk8 (vup v h x) := by
  intro k hk
  unfold vup
  split
  · exact hx
  · exact hv k hk
theorem or256 {a b : Nat} (ha : a < 256) (hb : b < 256) : a ||| b < 256 := Nat.or_lt_two_pow (n := 8) ha hb
/-- what some of the first houses KNOW together -/
def un (v : Nat → Nat) : Nat → Nat
  | 0 => 0
  | k + 1 => un v k ||| v k
theorem un_lt {v : Nat → Nat} : ∀ k, (∀ h, h < k → v h < 256) → un v k < 256
  | 0, _ => by simp [un]
  | k + 1, h => or256 (un_lt k (fun i hi => h i (by omega))) (h k (by omega))
theorem funionOf {v : Nat → Nat} (hv : pk8 v) {n : Nat} (hn : 6 ≤ n) : f_X_unionOf n (lN (pk v)) = some (nI (un v 5)) := by
  have key : ∀ (j k i : Nat), i + j = 5 → j < k → f_X_unionOf_4 n k (lN (pk v)) (nI (un v i)) (nI i) = some (nI (un v 5)) := by
    intro j
    induction j with
    | zero =>
      intro k i hi hk
      obtain ⟨k, rfl⟩ : ∃ k', k = k' + 1 := ⟨k - 1, by omega⟩
      have : i = 5 := by omega
      subst this
      rw [f_X_unionOf_4, if_pos (by decide)]
    | succ j ih =>
      intro k i hi hk
      obtain ⟨k, rfl⟩ : ∃ k', k = k' + 1 := ⟨k - 1, by omega⟩
      rw [f_X_unionOf_4, if_neg (by rw [l5]; exact nI_ge (by omega) (by decide)), klt, klt, fpart hv (by omega), nI_or, nI_1]
      exact ih k (i + 1) (by omega) (by omega)
  exact key 5 n 0 (by omega) (by omega)
