/-! ===== words of the text: the class ===== -/
/-- a byte as the tape holds it -/
def bv (c : Nat) : Int32 := (nI c).toInt8.toInt32
def isl (c : Nat) : Bool := decide (97 ≤ c) && decide (c ≤ 122)
def isd (c : Nat) : Bool := decide (48 ≤ c) && decide (c ≤ 57)
theorem bv_l : ∀ c, c < 256 → f_Re_isLetter (bv c) = isl c ∧ f_M_isLetter (nI c) = isl c ∧ f_Re_isDigit (bv c) = isd c ∧ f_M_isDigit (nI c) = isd c := by decide +kernel
theorem bv_e : ∀ c, c < 256 → (bv c = 32 ↔ c = 32) ∧ (bv c = 59 ↔ c = 59) ∧ (bv c = 44 ↔ c = 44) ∧ bv c &&& 255 = nI c := by decide +kernel
theorem bv_v : ∀ c, c < 256 → (isl c = true → ((bv c - 97) + 1).toInt64 = lN (c - 96) ∧ ((nI c - 97) + 1).toInt64 = lN (c - 96)) ∧ (isd c = true → bv c - 48 = nI (c - 48) ∧ nI c - 48 = nI (c - 48)) := by decide +kernel
def wvl (w : Nat) (ls : List Nat) : Nat := ls.foldl (fun w c => w * 32 + (c - 96)) w
def nvl (w : Nat) (ls : List Nat) : Nat := ls.foldl (fun w c => w * 10 + (c - 48)) w
/-- kind, the text from its first byte, the text after it, its bytes -/
def lx (R : List Nat) : Nat × List Nat × List Nat × List Nat := match R.dropWhile (fun c => c == 32) with
  | [] => (0, [], [], [])
  | c :: r => if isl c then (if ((c :: r).takeWhile isl).length ≤ 8 then 2 else 1, c :: r, (c :: r).dropWhile isl, (c :: r).takeWhile isl) else if isd c then (if ((c :: r).takeWhile isd).length ≤ 3 then 3 else 1, c :: r, (c :: r).dropWhile isd, (c :: r).takeWhile isd) else if c = 59 then (4, c :: r, r, []) else if c = 44 then (5, c :: r, r, []) else (1, c :: r, r, [])
def XX (bs : List Nat) (t : k_St) : Prop := bs.length ≤ 900 ∧ (∀ i c, bs[i]? = some c → t.1 1 i = bv c ∧ c < 256) ∧ t.1 18 3 = nI bs.length
/-- what the class's step leaves alone -/
def xr (t u : k_St) : Prop := (∀ o k, ¬ (o = 18 ∧ (k = 1 ∨ k = 4 ∨ k = 5 ∨ k = 6)) → u.1 o k = t.1 o k) ∧ ∀ o k, ¬ (o = 18 ∧ k = 7) → u.2 o k = t.2 o k
theorem xr.rf (t : k_St) : xr t t := ⟨fun _ _ _ => rfl, fun _ _ _ => rfl⟩
theorem xr.tr {t u v : k_St} (h : xr t u) (g : xr u v) : xr t v := ⟨fun o k a => (g.1 o k a).trans (h.1 o k a), fun o k a => (g.2 o k a).trans (h.2 o k a)⟩
theorem xr.si (t : k_St) (j : Nat) (v : Int32) (h : j = 1 ∨ j = 4 ∨ j = 5 ∨ j = 6) : xr t (k_sI t 18 j v) := ⟨fun o k a => by rw [sI1, if_neg (by omega)], fun _ _ _ => rfl⟩
theorem xr.sl (t : k_St) (v : Int64) : xr t (k_sL t 18 7 v) := ⟨fun _ _ _ => rfl, fun o k a => by rw [sL2, if_neg (by omega)]⟩
theorem XX.xr {bs : List Nat} {t u : k_St} (h : XX bs t) (e : xr t u) : XX bs u := ⟨h.1, fun i c hi => by rw [e.1 1 i (by omega)]; exact h.2.1 i c hi, by rw [e.1 18 3 (by omega)]; exact h.2.2⟩
theorem at_pos {P R : List Nat} {c : Nat} : (P ++ c :: R)[P.length]? = some c := by rw [List.getElem?_append_right (Nat.le_refl _)]; simp
theorem fword13 {bs : List Nat} {n : Nat} : ∀ (R P : List Nat) (f w : Nat) (t : k_St), bs = P ++ R → R.length < f → XX bs t → t.1 18 4 = nI P.length → t.2 18 7 = lN w → ∃ u, f_Re_takeWord_13 n f t = f_Re_takeWord_80 n u ∧ xr t u ∧ u.1 18 1 = t.1 18 1 ∧ u.1 18 4 = nI (P.length + (R.takeWhile isl).length) ∧ u.2 18 7 = lN (wvl w (R.takeWhile isl)) := by
  intro R
  induction R with
  | nil =>
    intro P f w t hb hf hX h4 h7
    obtain ⟨f, rfl⟩ : ∃ f', f = f' + 1 := ⟨f - 1, by simp at hf; omega⟩
    have hl : bs.length = P.length := by rw [hb]; simp
    have := hX.1
    rw [f_Re_takeWord_13, hX.2.2, h4, if_pos (nI_le (by omega) (by omega))]
    exact ⟨t, rfl, xr.rf t, rfl, h4, h7⟩
  | cons c R ih =>
    intro P f w t hb hf hX h4 h7
    rw [List.length_cons] at hf
    obtain ⟨f, rfl⟩ : ∃ f', f = f' + 1 := ⟨f - 1, by omega⟩
    have hl : bs.length = P.length + (R.length + 1) := by rw [hb]; simp
    have h900 := hX.1
    obtain ⟨hc1, hc2⟩ := hX.2.1 P.length c (by rw [hb]; exact at_pos)
    rw [f_Re_takeWord_13, hX.2.2, h4, if_neg (nI_ge (by omega) (by omega)), kgi (kin (by omega) (by decide)), nI_clamp (n := P.length) (by omega), hc1, (bv_l c hc2).1]
    by_cases hi : isl c = true
    · rw [if_neg (k_bne hi), kgi (kin (by omega) (by decide)), klt, h7, ((bv_v c hc2).1 hi).1, show (32 : Int64) = lN 32 from rfl, lN_mul, lN_add, klt, sL1, h4, nI_1]
      generalize hz : k_sI (k_sL t 18 7 (lN (w * 32 + (c - 96)))) 18 4 (nI (P.length + 1)) = z
      have tz : xr t z := by rw [← hz]; exact (xr.sl _ _).tr (xr.si _ _ _ (by omega))
      have z1 : z.1 18 1 = t.1 18 1 := by rw [← hz, sI1, if_neg (by omega)]; rfl
      obtain ⟨u, a, b, c1, c2, c3⟩ := ih (P ++ [c]) f (w * 32 + (c - 96)) z (by rw [hb]; simp) (by omega) (hX.xr tz) (by rw [← hz, sI1, if_pos ⟨rfl, rfl⟩]; simp) (by rw [← hz, sI2, sL2, if_pos ⟨rfl, rfl⟩])
      rw [List.takeWhile_cons, if_pos hi]
      refine ⟨u, a, tz.tr b, c1.trans z1, ?_, c3⟩
      rw [c2, List.length_append, List.length_cons]
      congr 1
      simp
      omega
    · rw [if_pos (k_beq (by simpa using hi)), List.takeWhile_cons, if_neg hi]
      exact ⟨t, rfl, xr.rf t, rfl, h4, h7⟩
theorem fwhole13 {bs : List Nat} {n : Nat} : ∀ (R P : List Nat) (f w : Nat) (t : k_St), bs = P ++ R → R.length < f → XX bs t → t.1 18 4 = nI P.length → t.1 18 6 = nI w → ∃ u, f_Re_takeWhole_13 n f t = f_Re_takeWhole_76 n u ∧ xr t u ∧ u.1 18 1 = t.1 18 1 ∧ u.1 18 4 = nI (P.length + (R.takeWhile isd).length) ∧ u.1 18 6 = nI (nvl w (R.takeWhile isd)) := by
  intro R
  induction R with
  | nil =>
    intro P f w t hb hf hX h4 h7
    obtain ⟨f, rfl⟩ : ∃ f', f = f' + 1 := ⟨f - 1, by simp at hf; omega⟩
    have hl : bs.length = P.length := by rw [hb]; simp
    have := hX.1
    rw [f_Re_takeWhole_13, hX.2.2, h4, if_pos (nI_le (by omega) (by omega))]
    exact ⟨t, rfl, xr.rf t, rfl, h4, h7⟩
  | cons c R ih =>
    intro P f w t hb hf hX h4 h7
    rw [List.length_cons] at hf
    obtain ⟨f, rfl⟩ : ∃ f', f = f' + 1 := ⟨f - 1, by omega⟩
    have hl : bs.length = P.length + (R.length + 1) := by rw [hb]; simp
    have h900 := hX.1
    obtain ⟨hc1, hc2⟩ := hX.2.1 P.length c (by rw [hb]; exact at_pos)
    rw [f_Re_takeWhole_13, hX.2.2, h4, if_neg (nI_ge (by omega) (by omega)), kgi (kin (by omega) (by decide)), nI_clamp (n := P.length) (by omega), hc1, (bv_l c hc2).2.2.1]
    by_cases hi : isd c = true
    · rw [if_neg (k_bne hi), kgi (kin (by omega) (by decide)), klt, h7, ((bv_v c hc2).2 hi).1, l10, pk_mul, nI_add, klt, sI1, if_neg (by omega), h4, nI_1]
      generalize hz : k_sI (k_sI t 18 6 (nI (w * 10 + (c - 48)))) 18 4 (nI (P.length + 1)) = z
      have tz : xr t z := by rw [← hz]; exact (xr.si _ _ _ (by omega)).tr (xr.si _ _ _ (by omega))
      have z1 : z.1 18 1 = t.1 18 1 := by rw [← hz, sI1, if_neg (by omega), sI1, if_neg (by omega)]
      obtain ⟨u, a, b, c1, c2, c3⟩ := ih (P ++ [c]) f (w * 10 + (c - 48)) z (by rw [hb]; simp) (by omega) (hX.xr tz) (by rw [← hz, sI1, if_pos ⟨rfl, rfl⟩]; simp) (by rw [← hz, sI1, if_neg (by omega), sI1, if_pos ⟨rfl, rfl⟩])
      rw [List.takeWhile_cons, if_pos hi]
      refine ⟨u, a, tz.tr b, c1.trans z1, ?_, c3⟩
      rw [c2, List.length_append, List.length_cons]
      congr 1
      simp
      omega
    · rw [if_pos (k_beq (by simpa using hi)), List.takeWhile_cons, if_neg hi]
      exact ⟨t, rfl, xr.rf t, rfl, h4, h7⟩
