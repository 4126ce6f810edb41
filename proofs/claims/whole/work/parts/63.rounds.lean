/-! ===== a round in the park, and who knows all ===== -/
abbrev tel (T : t_D) (c h : Nat) : Prop := h < T 0 4 ∧ dgt (T 0 4) c h < T 0 4 ∧ (T 0 6).testBit (dgt (T 0 4) c h) = false
def bh (T : t_D) (v : Nat → Nat) (c : Nat) : Nat → Nat := fun h => if tel T c h then v h ||| v (dgt (T 0 4) c h) else v h
def ac (T : t_D) (v : Nat → Nat) (c j : Nat) : Nat → Nat := fun k => if k < j then bh T v c k else v k
theorem bh8 {T : t_D} (w : Tw T) {v : Nat → Nat} (h : pk8 v) (c : Nat) : pk8 (bh T v c) := by
  intro k hk
  have h5 := w.2.2.2.2.1
  unfold bh
  split
  · rename_i q
    exact Nat.or_lt_two_pow (n := 8) (h k hk) (h _ (by have := q.2.1; omega))
  · exact h k hk
theorem ac8 {T : t_D} (w : Tw T) {v : Nat → Nat} (h : pk8 v) (c j : Nat) : pk8 (ac T v c j) := by
  intro k hk
  unfold ac
  split
  · exact bh8 w h c k hk
  · exact h k hk
theorem ac_yes {T : t_D} {v : Nat → Nat} {c j b : Nat} (h : bh T v c j = v j ||| b) : vup (ac T v c j) j (ac T v c j j ||| b) = ac T v c (j + 1) := by
  funext k
  unfold vup ac
  by_cases e : k = j
  · subst e
    rw [if_pos rfl, if_neg (by omega), if_pos (by omega), h]
  · rw [if_neg e]
    by_cases q : k < j
    · rw [if_pos q, if_pos (by omega)]
    · rw [if_neg q, if_neg (by omega)]
theorem ac_no {T : t_D} {v : Nat → Nat} {c j : Nat} (h : bh T v c j = v j) : ac T v c j = ac T v c (j + 1) := by
  funext k
  unfold ac
  by_cases e : k = j
  · subst e
    rw [if_neg (by omega), if_pos (by omega), h]
  · by_cases q : k < j
    · rw [if_pos q, if_pos (by omega)]
    · rw [if_neg q, if_neg (by omega)]
theorem ac_end (T : t_D) (v : Nat → Nat) (c : Nat) : ac T v c (T 0 4) = bh T v c := by
  funext k
  unfold ac
  by_cases q : k < T 0 4
  · rw [if_pos q]
  · rw [if_neg q]
    unfold bh
    rw [if_neg (fun z => q z.1)]
theorem dgt_le (N c h : Nat) : dgt N c h ≤ N := by
  have := Nat.mod_lt (c / (N + 1) ^ (N - 1 - h)) (show 0 < N + 1 by omega)
  unfold dgt
  omega
theorem fbehind {T : t_D} (w : Tw T) {n : Nat} (hn : 200 ≤ n) {x : k_St} (hP : PK T x) {v : Nat → Nat} (hv : pk8 v) {r c : Nat} (hr : (wy (T 0 4))[r]? = some c) : f_Pa_behindRound n x (lN (pk v)) (nI r) = some (lN (pk (bh T v c))) := by
  have h5 := w.2.2.2.2.1
  have hQ := w.2.2.2.2.2.2.1
  have hQ2 : 2 ^ T 0 4 ≤ 2 ^ 5 := Nat.pow_le_pow_right (by omega) h5
  have key : ∀ (f j : Nat), j ≤ T 0 4 → T 0 4 - j < f → f_Pa_behindRound_6 n x f (lN (pk v)) (nI r) (lN (pk (ac T v c j))) (nI j) = some (lN (pk (bh T v c))) := by
    intro f
    induction f with
    | zero => intro j _ h; omega
    | succ f ih =>
      intro j hj hf
      rw [f_Pa_behindRound_6, hP.2.1]
      rcases Nat.lt_or_ge j (T 0 4) with hl | hl
      · have hd := dgt_le (T 0 4) c j
        rw [if_neg (nI_ge hl (by omega)), fpartnerBy w hP hr hl, kcp, klt, klt, nI_1]
        unfold nib
        by_cases e : dgt (T 0 4) c j = T 0 4
        · rw [if_pos e, if_pos (show nI 15 = 15 from rfl), ac_no (by unfold bh; rw [if_neg (fun z => by have := z.2.1; omega)])]
          exact ih (j + 1) (by omega) (by omega)
        · rw [if_neg e, if_neg (neL (b := 15) 15 (by omega) rfl (by omega) (by omega)), hP.2.2.1]
          by_cases q : (T 0 6).testBit (dgt (T 0 4) c j) = true
          · rw [if_neg (fun z => by rw [nI_bit0 (by omega) (by omega), q] at z; simp at z), ac_no (by unfold bh; rw [if_neg (fun z => by rw [z.2.2] at q; simp at q)])]
            exact ih (j + 1) (by omega) (by omega)
          · have q' : (T 0 6).testBit (dgt (T 0 4) c j) = false := by simpa using q
            rw [if_pos (by rw [nI_bit0 (by omega) (by omega)]; exact q'), klt, fpart hv (by omega), fwithMore (ac8 w hv c j) (by omega) (hv _ (by omega)), ac_yes (by unfold bh; rw [if_pos ⟨hl, by omega, q'⟩])]
            exact ih (j + 1) (by omega) (by omega)
      · rw [if_pos (nI_le hl (by omega)), show j = T 0 4 by omega, ac_end]
  have e0 : ac T v c 0 = v := by funext k; unfold ac; rw [if_neg (by omega)]
  have := key n 0 (by omega) (by omega)
  rw [e0] at this
  exact this
def cnt (v : Nat → Nat) (a : Nat) : Nat → Nat
  | 0 => 0
  | h + 1 => cnt v a h + (if v h = a then 1 else 0)
theorem cna_le (v : Nat → Nat) (a : Nat) : ∀ N, cnt v a N ≤ N
  | 0 => Nat.le_refl _
  | h + 1 => by
    have := cna_le v a h
    rw [cnt]
    split <;> omega
theorem cnt_lt {v : Nat → Nat} {a h : Nat} (e : v h ≠ a) : ∀ N, h < N → cnt v a N < N
  | 0, q => by omega
  | k + 1, q => by
    have h1 := cna_le v a k
    rw [cnt]
    by_cases z : h = k
    · subst z
      rw [if_neg e]
      omega
    · have := cnt_lt e k (by omega)
      split <;> omega
theorem fcount {T : t_D} (w : Tw T) {n : Nat} (hn : 200 ≤ n) {x : k_St} (hP : PK T x) {v : Nat → Nat} (hv : pk8 v) {a : Nat} (ha : a < 256) (h5a : x.1 24 5 = nI a) : f_Pa_countAllKnowing n x (lN (pk v)) = some (nI (cnt v a (T 0 4))) := by
  have h5 := w.2.2.2.2.1
  have key : ∀ (f j : Nat), j ≤ T 0 4 → T 0 4 - j < f → f_Pa_countAllKnowing_5 n x f (lN (pk v)) (nI (cnt v a j)) (nI j) = some (nI (cnt v a (T 0 4))) := by
    intro f
    induction f with
    | zero => intro j _ h; omega
    | succ f ih =>
      intro j hj hf
      rw [f_Pa_countAllKnowing_5, hP.2.1]
      rcases Nat.lt_or_ge j (T 0 4) with hl | hl
      · have hvj := hv j (by omega)
        have i := ih (j + 1) (by omega) (by omega)
        rw [if_neg (nI_ge hl (by omega)), fpart hv (by omega), h5a, klt, klt, klt, nI_1, nI_1]
        rw [cnt] at i
        by_cases e : v j = a
        · rw [if_pos (by rw [e])]
          rw [if_pos e] at i
          exact i
        · rw [if_neg (fun q => e (nI_inj (by omega) (by omega) q))]
          rw [if_neg e] at i
          exact i
      · rw [if_pos (nI_le hl (by omega)), show j = T 0 4 by omega]
  exact key n 0 (by omega) (by omega)
/-- some HOUSE is too far from knowing all -/
def far (T : t_D) (v : Nat → Nat) (a : Nat) : Prop := ∃ h, h < T 0 4 ∧ v h ≠ a ∧ ∀ g, g < T 0 4 → (T 0 6).testBit g = false → v h ||| v g ≠ a
theorem ffar {T : t_D} (w : Tw T) {n : Nat} (hn : 200 ≤ n) {x : k_St} (hP : PK T x) {v : Nat → Nat} (hv : pk8 v) {a : Nat} (ha : a < 256) (h5a : x.1 24 5 = nI a) : ∃ b, f_Pa_isTooFar n x (lN (pk v)) = some b ∧ (b = true → far T v a) := by
  have h5 := w.2.2.2.2.1
  have hQ := w.2.2.2.2.2.2.1
  have hQ2 : 2 ^ T 0 4 ≤ 2 ^ 5 := Nat.pow_le_pow_right (by omega) h5
  have k32 : ∀ (h : Nat) (rec2 : Int64 → Int32 → Option Bool), h < T 0 4 → ∀ (f g : Nat) (z : Int32), g ≤ T 0 4 → T 0 4 - g < f → (z = 1 ∨ (z = 0 ∧ v h ≠ a ∧ ∀ g', g' < g → (T 0 6).testBit g' = false → v h ||| v g' ≠ a)) → (f_Pa_isTooFar_32 n x rec2 f (lN (pk v)) (nI h) z (nI g) = some true ∧ far T v a) ∨ f_Pa_isTooFar_32 n x rec2 f (lN (pk v)) (nI h) z (nI g) = rec2 (lN (pk v)) (nI (h + 1)) := by
    intro h rec2 hh f
    induction f with
    | zero => intro g z _ q; omega
    | succ f ih =>
      intro g z hg hf hz
      rw [f_Pa_isTooFar_32, hP.2.1, nI_1]
      rcases hz with rfl | ⟨rfl, z1, z2⟩
      · right
        split <;> rfl
      · rcases Nat.lt_or_ge g (T 0 4) with hl | hl
        · have hvh := hv h (by omega)
          have hvg := hv g (by omega)
          have hor : v h ||| v g < 256 := Nat.or_lt_two_pow (n := 8) hvh hvg
          rw [if_neg (nI_ge hl (by omega)), if_pos rfl, hP.2.2.1, fpart hv (by omega), fpart hv (by omega), nI_or, h5a, klt, klt, nI_1]
          by_cases q : (T 0 6).testBit g = true
          · rw [if_neg (fun z => by rw [nI_bit0 (by omega) (by omega), q] at z; simp at z)]
            exact ih (g + 1) 0 (by omega) (by omega) (Or.inr ⟨rfl, z1, fun g' h1 h2 => by
              by_cases e : g' = g
              · rw [e, q] at h2; simp at h2
              · exact z2 g' (by omega) h2⟩)
          · have q' : (T 0 6).testBit g = false := by simpa using q
            rw [if_pos (by rw [nI_bit0 (by omega) (by omega)]; exact q')]
            by_cases e : v h ||| v g = a
            · rw [if_pos (by rw [e])]
              exact ih (g + 1) 1 (by omega) (by omega) (Or.inl rfl)
            · rw [if_neg (fun z => e (nI_inj (by omega) (by omega) z))]
              exact ih (g + 1) 0 (by omega) (by omega) (Or.inr ⟨rfl, z1, fun g' h1 h2 => by
                by_cases e2 : g' = g
                · rw [e2]; exact e
                · exact z2 g' (by omega) h2⟩)
        · left
          rw [if_pos (nI_le hl (by omega)), if_pos rfl]
          exact ⟨rfl, h, hh, z1, fun g h1 h2 => z2 g (by omega) h2⟩
  have key : ∀ (f h : Nat), h ≤ T 0 4 → T 0 4 - h < f → ∃ b, f_Pa_isTooFar_2 n x f (lN (pk v)) (nI h) = some b ∧ (b = true → far T v a) := by
    intro f
    induction f with
    | zero => intro h _ q; omega
    | succ f ih =>
      intro h hh hf
      rw [f_Pa_isTooFar_2, hP.2.1]
      rcases Nat.lt_or_ge h (T 0 4) with hl | hl
      · have hvh := hv h (by omega)
        rw [if_neg (nI_ge hl (by omega)), fpart hv (by omega), h5a]
        have fin : ∀ z : Int32, (z = 1 ∨ (z = 0 ∧ v h ≠ a)) → ∃ b, f_Pa_isTooFar_32 n x (f_Pa_isTooFar_2 n x f) n (lN (pk v)) (nI h) z 0 = some b ∧ (b = true → far T v a) := by
          intro z hz
          have k := k32 h (f_Pa_isTooFar_2 n x f) hl n 0 z (by omega) (by omega) (by
            rcases hz with h1 | ⟨h1, h2⟩
            · exact Or.inl h1
            · exact Or.inr ⟨h1, h2, fun g' h3 => by omega⟩)
          rcases k with ⟨k1, k2⟩ | k1
          · exact ⟨true, k1, fun _ => k2⟩
          · obtain ⟨b, b1, b2⟩ := ih (h + 1) (by omega) (by omega)
            exact ⟨b, (show f_Pa_isTooFar_32 n x (f_Pa_isTooFar_2 n x f) n (lN (pk v)) (nI h) z 0 = _ from k1).trans b1, b2⟩
        by_cases e : v h = a
        · rw [if_pos (by rw [e])]
          exact fin 1 (Or.inl rfl)
        · rw [if_neg (fun q => e (nI_inj (by omega) (by omega) q))]
          exact fin 0 (Or.inr ⟨rfl, e⟩)
      · rw [if_pos (nI_le hl (by omega))]
        exact ⟨false, rfl, fun q => by simp at q⟩
  exact key n 0 (by omega) (by omega)
theorem far_no {T : t_D} {v : Nat → Nat} {a : Nat} (h : far T v a) (c : Nat) : cnt (bh T v c) a (T 0 4) ≠ T 0 4 := by
  obtain ⟨k, hk, h1, h2⟩ := h
  have : bh T v c k ≠ a := by
    unfold bh
    split
    · rename_i q
      exact h2 _ q.2.1 q.2.2
    · exact h1
  have := cnt_lt this (T 0 4) hk
  omega
