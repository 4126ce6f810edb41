/-! ===== the park: the ways to pair ===== -/
/-- the one whom h meets, N for none: a digit of the way's number -/
def dgt (N c h : Nat) : Nat := (c / (N + 1) ^ (N - 1 - h)) % (N + 1)
def isw (N c : Nat) : Bool := (List.range N).all (fun h => decide (dgt N c h ≠ h) && (decide (N ≤ dgt N c h) || decide (dgt N c (dgt N c h) = h)))
def wy (N : Nat) : List Nat := (List.range ((N + 1) ^ N)).filter (isw N)
def nib (N c h : Nat) : Nat := if dgt N c h = N then 15 else dgt N c h
def pkw (N c : Nat) : Nat := (List.range N).foldl (fun w h => w + nib N c h * 16 ^ h) 0
/-- the class's search -/
def pf (N : Nat) : Nat → Nat → Nat → Nat → List Nat
  | 0, _, _, _ => []
  | d + 1, h, m, w => if h < N then (if m.testBit h then pf N d (h + 1) m w else (List.range' (h + 1) (N - (h + 1))).flatMap (fun g => if m.testBit g then [] else pf N d (h + 1) (m ||| 2 ^ g) ((w ||| g * 16 ^ h) ||| h * 16 ^ g)) ++ pf N d (h + 1) m (w ||| 15 * 16 ^ h)) else [w]
theorem wy_pf : ∀ N, N ≤ 5 → pf N 6 0 0 0 = (wy N).map (pkw N) ∧ (wy N).length ≤ 26 ∧ 0 < (wy N).length := by decide +kernel
theorem wy_nib : ∀ N, N ≤ 5 → ∀ c ∈ wy N, pkw N c < 2 ^ 20 ∧ ∀ h, h < N → (pkw N c / 2 ^ (4 * h)) &&& 15 = nib N c h := by decide +kernel
theorem nI_nib : ∀ a, a < 16 → ∀ h, h < 5 → nI a <<< (((4 : Int32) * nI h) &&& 31) = nI (a * 16 ^ h) := by decide +kernel
