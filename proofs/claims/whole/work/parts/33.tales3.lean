/-! ===== the class's table, read ===== -/
def TB (t : k_St) (L : List (List Nat)) : Prop := t.1 21 0 = nI L.length ∧ L.length ≤ 162 ∧ ∀ (i : Nat) (r : List Nat), L[i]? = some r → t.1 22 i = nI (ta_code r) ∧ t.1 23 i = nI (ta_bits r)
theorem TB.same {t u : k_St} {L : List (List Nat)} (h : TB t L) (e : ∀ o k, 21 ≤ o → o ≤ 23 → u.1 o k = t.1 o k) : TB u L :=
  ⟨by rw [e 21 0 (by omega) (by omega)]; exact h.1, h.2.1, fun i r hr => by rw [e 22 i (by omega) (by omega), e 23 i (by omega) (by omega)]; exact h.2.2 i r hr⟩
theorem ta_put_get (L : List (Nat × Nat)) : ∀ (t : k_St) (m : Nat), t.1 21 0 = nI m → m + L.length < 2 ^ 31 → (∀ i, i < m → (ta_put t L).1 22 i = t.1 22 i ∧ (ta_put t L).1 23 i = t.1 23 i) ∧ ∀ (i : Nat) (q : Nat × Nat), L[i]? = some q → (ta_put t L).1 22 (m + i) = nI q.1 ∧ (ta_put t L).1 23 (m + i) = nI q.2 := by
  induction L with
  | nil => intro t m _ _; exact ⟨fun i _ => ⟨rfl, rfl⟩, fun i q h => by simp at h⟩
  | cons a L ih =>
    intro t m hm hl
    rw [List.length_cons] at hl
    obtain ⟨g1, g2⟩ := ih (ta_add1 t a.1 a.2) (m + 1) (ta_add1_n t _ _ hm) (by omega)
    have hcl : (nI m).toNatClampNeg = m := nI_clamp (by omega)
    have e22 : ∀ i, (ta_add1 t a.1 a.2).1 22 i = if i = m then nI a.1 else t.1 22 i := by
      intro i
      unfold ta_add1
      rw [sI1, if_neg (by simp), sI1, if_neg (by simp), sI1, hm, hcl]
      simp
    have e23 : ∀ i, (ta_add1 t a.1 a.2).1 23 i = if i = m then nI a.2 else t.1 23 i := by
      intro i
      unfold ta_add1
      rw [sI1, if_neg (by simp), sI1, sI1, if_neg (show ¬ (23 = 22 ∧ i = (t.1 21 0).toNatClampNeg) by simp), hm, hcl]
      simp
    show (∀ i, i < m → (ta_put (ta_add1 t a.1 a.2) L).1 22 i = t.1 22 i ∧ (ta_put (ta_add1 t a.1 a.2) L).1 23 i = t.1 23 i) ∧ ∀ (i : Nat) (q : Nat × Nat), (a :: L)[i]? = some q → (ta_put (ta_add1 t a.1 a.2) L).1 22 (m + i) = nI q.1 ∧ (ta_put (ta_add1 t a.1 a.2) L).1 23 (m + i) = nI q.2
    refine ⟨fun i hi => ?_, fun i q h => ?_⟩
    · obtain ⟨h1, h2⟩ := g1 i (by omega)
      rw [h1, h2, e22, e23, if_neg (by omega), if_neg (by omega)]
      exact ⟨rfl, rfl⟩
    · cases i with
      | zero =>
        simp at h
        subst h
        obtain ⟨h1, h2⟩ := g1 m (by omega)
        rw [Nat.add_zero, h1, h2, e22, e23, if_pos rfl, if_pos rfl]
        exact ⟨rfl, rfl⟩
      | succ i =>
        rw [List.getElem?_cons_succ] at h
        have := g2 i q h
        rw [show m + (i + 1) = m + 1 + i by omega]
        exact this
theorem ta_put_TB {t : k_St} {L : List (List Nat)} (h : t.1 21 0 = 0) (hl : L.length ≤ 162) : TB (ta_put t (L.map ta_enc)) L := by
  have h0 : t.1 21 0 = nI 0 := h
  refine ⟨?_, hl, ?_⟩
  · rw [ta_put_n _ t 0 h0, List.length_map, Nat.zero_add]
  · intro i r hr
    have := (ta_put_get (L.map ta_enc) t 0 h0 (by rw [List.length_map]; omega)).2 i (ta_enc r) (by rw [List.getElem?_map, hr]; rfl)
    rw [Nat.zero_add] at this
    exact this
/-- the rows of a table are rows -/
def TR (T : t_D) (L : List (List Nat)) : Prop := ∀ r ∈ L, ta_row T r
abbrev ta_in (S : Nat) (r : List Nat) : Bool := r.all S.testBit
theorem ta_sub {T : t_D} {r : List Nat} (hr : ta_row T r) {S : Nat} (hS : S < 2 ^ 31) : ((nI (ta_bits r) &&& (nI S ^^^ (-1 : Int32))) = 0) ↔ ta_in S r = true := by
  have hb := hr.2.2.2.2
  rw [nI_m1, nI_xor, nI_and, show (0 : Int32) = nI 0 from rfl]
  have hlt : ta_bits r &&& (S ^^^ 4294967295) < 256 := Nat.lt_of_le_of_lt Nat.and_le_left hb
  rw [nI_eq (by omega) (by decide)]
  constructor
  · intro h
    rw [List.all_eq_true]
    intro p hp
    have h1 : (ta_bits r).testBit p = true := (ta_bits_mem r p).mpr hp
    have h2 := congrArg (fun x => x.testBit p) h
    have hp32 : p < 32 := by
      rcases Nat.lt_or_ge p 32 with q | q
      · exact q
      · have := Nat.testBit_lt_two_pow (x := ta_bits r) (i := p) (Nat.lt_of_lt_of_le hb (Nat.le_trans (by decide) (Nat.pow_le_pow_right (n := 2) (by omega) q)))
        rw [this] at h1; cases h1
    have h3 : Nat.testBit 4294967295 p = true := by
      have := Nat.testBit_two_pow_sub_one 32 p
      rw [show (2 ^ 32 - 1 : Nat) = 4294967295 by decide] at this
      rw [this]; simp [hp32]
    simp only [Nat.testBit_and, Nat.testBit_xor, h1, h3, Nat.zero_testBit, Bool.true_and] at h2
    simpa using h2
  · intro h
    apply Nat.eq_of_testBit_eq
    intro p
    rw [Nat.testBit_and, Nat.testBit_xor, Nat.zero_testBit]
    by_cases h1 : (ta_bits r).testBit p = true
    · have hp := (ta_bits_mem r p).mp h1
      have h2 := List.all_eq_true.mp h p hp
      have hp32 : p < 32 := by
        rcases Nat.lt_or_ge p 32 with q | q
        · exact q
        · have := Nat.testBit_lt_two_pow (x := ta_bits r) (i := p) (Nat.lt_of_lt_of_le hb (Nat.le_trans (by decide) (Nat.pow_le_pow_right (n := 2) (by omega) q)))
          rw [this] at h1; cases h1
      have h3 : Nat.testBit 4294967295 p = true := by
        have := Nat.testBit_two_pow_sub_one 32 p
        rw [show (2 ^ 32 - 1 : Nat) = 4294967295 by decide] at this
        rw [this]; simp [hp32]
      rw [h1, h2, h3]; rfl
    · simp at h1
      rw [h1]; rfl
theorem fisOf {T : t_D} {t : k_St} {L : List (List Nat)} (hT : TB t L) (hR : TR T L) {i S : Nat} {r : List Nat} (hr : L[i]? = some r) (hS : S < 2 ^ 31) : f_Ta_isOf t (nI i) (nI S) = some (ta_in S r) := by
  have hi : i < L.length := (List.getElem?_eq_some_iff.mp hr).1
  have hl := hT.2.1
  have hrow := hR r (List.mem_of_getElem? hr)
  unfold f_Ta_isOf
  rw [kgi (kin (by omega) (by decide)), nI_clamp (by omega), (hT.2.2 i r hr).2]
  by_cases h : ta_in S r = true
  · rw [if_pos ((ta_sub hrow hS).mpr h), h]
  · rw [if_neg (fun e => h ((ta_sub hrow hS).mp e))]
    simp only [Bool.not_eq_true] at h
    rw [h]
theorem flengthOf {T : t_D} {t : k_St} {L : List (List Nat)} (hT : TB t L) (hR : TR T L) {i : Nat} {r : List Nat} (hr : L[i]? = some r) : f_Ta_lengthOf t (nI i) = some (nI r.length) := by
  have hi : i < L.length := (List.getElem?_eq_some_iff.mp hr).1
  have hl := hT.2.1
  have hrow := hR r (List.mem_of_getElem? hr)
  unfold f_Ta_lengthOf
  rw [kgi (kin (by omega) (by decide)), nI_clamp (by omega), (hT.2.2 i r hr).2, bc8 _ hrow.2.2.2.2, hrow.2.2.2.1]
theorem drop_cons {α : Type} {L : List α} {i : Nat} {r : α} (h : L[i]? = some r) : L.drop i = r :: L.drop (i + 1) := by
  obtain ⟨hi, e⟩ := List.getElem?_eq_some_iff.mp h
  rw [List.drop_eq_getElem_cons hi, e]
/-- how a walk of the table goes on: at its end, or at a row -/
theorem TB.at {t : k_St} {L : List (List Nat)} (hT : TB t L) (i : Nat) (hi : i ≤ L.length) : (i = L.length ∧ t.1 21 0 ≤ nI i ∧ L.drop i = []) ∨ ∃ r, L[i]? = some r ∧ i < L.length ∧ (¬ t.1 21 0 ≤ nI i) ∧ L.drop i = r :: L.drop (i + 1) := by
  have hl := hT.2.1
  rcases Nat.lt_or_ge i L.length with h | h
  · right
    refine ⟨L[i], List.getElem?_eq_getElem h, h, by rw [hT.1]; exact nI_ge h (by omega), List.drop_eq_getElem_cons h⟩
  · left
    have : i = L.length := by omega
    exact ⟨this, by rw [hT.1]; exact nI_le (by omega) (by omega), List.drop_of_length_le (by omega)⟩
theorem fcountOf4 {T : t_D} {t : k_St} {L : List (List Nat)} (hT : TB t L) (hR : TR T L) {n S : Nat} (hS : S < 2 ^ 31) : ∀ (k i c : Nat), i ≤ L.length → L.length - i < k → f_Ta_countOf_4 n t k (nI S) (nI c) (nI i) = some (nI (c + ((L.drop i).filter (ta_in S)).length)) := by
  intro k
  induction k with
  | zero => intro i c _ h; omega
  | succ k ih =>
    intro i c hi hk
    rw [f_Ta_countOf_4]
    rcases hT.at i hi with ⟨-, h1, h2⟩ | ⟨r, h0, h1, h2, h3⟩
    · rw [if_pos h1, h2]; rfl
    · rw [if_neg h2, fisOf hT hR h0 hS, kcp, h3, List.filter_cons]
      by_cases h : ta_in S r = true
      · rw [h, if_neg (by decide), if_pos rfl, klt, klt, nI_1, nI_1, ih (i + 1) (c + 1) (by omega) (by omega), List.length_cons]
        congr 2; omega
      · simp only [Bool.not_eq_true] at h
        rw [h, if_pos (by decide), klt, nI_1, ih (i + 1) c (by omega) (by omega)]
        simp
theorem fcountOf {T : t_D} {t : k_St} {L : List (List Nat)} (hT : TB t L) (hR : TR T L) {n S : Nat} (hS : S < 2 ^ 31) (hn : 200 ≤ n) : f_Ta_countOf n t (nI S) = some (nI (L.filter (ta_in S)).length) := by
  have hl := hT.2.1
  have := fcountOf4 hT hR (n := n) hS n 0 0 (by omega) (by omega)
  rw [Nat.zero_add, List.drop_zero] at this
  exact this
/-- the first longest -/
def ta_lgf (b r : List Nat) : List Nat := if b.length < r.length then r else b
def ta_lg (R : List (List Nat)) : List Nat := R.foldl ta_lgf []
theorem flongestOf7 {T : t_D} {t : k_St} {L : List (List Nat)} (hT : TB t L) (hR : TR T L) {n S : Nat} (hS : S < 2 ^ 31) : ∀ (k i : Nat) (x : Int32) (b : List Nat), i ≤ L.length → L.length - i < k → ((x = -1 ∧ b = []) ∨ ∃ j, x = nI j ∧ L[j]? = some b) →
    ∃ y, f_Ta_longestOf_7 n t k (nI S) x (nI b.length) (nI i) = some y ∧ ((y = -1 ∧ ((L.drop i).filter (ta_in S)).foldl ta_lgf b = []) ∨ ∃ j, y = nI j ∧ L[j]? = some (((L.drop i).filter (ta_in S)).foldl ta_lgf b)) := by
  intro k
  induction k with
  | zero => intro i x b _ h; omega
  | succ k ih =>
    intro i x b hi hk hx
    have hbl : b.length ≤ 8 := by
      rcases hx with ⟨-, h⟩ | ⟨j, -, h⟩
      · rw [h]; exact Nat.zero_le _
      · exact (hR b (List.mem_of_getElem? h)).2.1
    rw [f_Ta_longestOf_7]
    rcases hT.at i hi with ⟨-, h1, h2⟩ | ⟨r, h0, h1, h2, h3⟩
    · rw [if_pos h1, h2]
      exact ⟨x, rfl, hx⟩
    · have hrl := (hR r (List.mem_of_getElem? h0)).2.1
      rw [if_neg h2, fisOf hT hR h0 hS, kcp, h3, List.filter_cons]
      by_cases h : ta_in S r = true
      · rw [h, if_neg (by decide), if_pos rfl, flengthOf hT hR h0, kcp, List.foldl_cons]
        by_cases hlt : b.length < r.length
        · rw [if_neg (nI_ge hlt (by omega)), kcp, klt, nI_1]
          have := ih (i + 1) (nI i) r (by omega) (by omega) (Or.inr ⟨i, rfl, h0⟩)
          rw [show ta_lgf b r = r from if_pos hlt]
          exact this
        · rw [if_pos (nI_le (by omega) (by omega)), klt, nI_1]
          have := ih (i + 1) x b (by omega) (by omega) hx
          rw [show ta_lgf b r = b from if_neg hlt]
          exact this
      · simp only [Bool.not_eq_true] at h
        rw [h, if_pos (by decide), klt, nI_1]
        exact ih (i + 1) x b (by omega) (by omega) hx
theorem flongestOf {T : t_D} {t : k_St} {L : List (List Nat)} (hT : TB t L) (hR : TR T L) {n S : Nat} (hS : S < 2 ^ 31) (hn : 200 ≤ n) : ∃ y, f_Ta_longestOf n t (nI S) = some y ∧ ((y = -1 ∧ ta_lg (L.filter (ta_in S)) = []) ∨ ∃ j, y = nI j ∧ L[j]? = some (ta_lg (L.filter (ta_in S)))) := by
  have hl := hT.2.1
  have := flongestOf7 hT hR (n := n) hS n 0 (-1) [] (by omega) (by omega) (Or.inl ⟨rfl, rfl⟩)
  rw [List.drop_zero] at this
  exact this
theorem ffind5 {T : t_D} {t : k_St} {L : List (List Nat)} (hT : TB t L) (hR : TR T L) {n S : Nat} (hS : S < 2 ^ 31) (x2 : Int32) : ∀ (k i c : Nat), i ≤ L.length → L.length - i < k → c ≤ i →
    ∃ y, f_Ta_find_5 n t k (nI S) x2 (nI c) (nI i) = some y ∧ ((y = -1 ∧ ∀ m, x2 = nI m → c ≤ m → m < 2 ^ 31 → ((L.drop i).filter (ta_in S))[m - c]? = none) ∨ ∃ j m r, y = nI j ∧ x2 = nI m ∧ c ≤ m ∧ m < 2 ^ 31 ∧ L[j]? = some r ∧ ((L.drop i).filter (ta_in S))[m - c]? = some r) := by
  intro k
  have hl := hT.2.1
  induction k with
  | zero => intro i c _ h; omega
  | succ k ih =>
    intro i c hi hk hc
    rw [f_Ta_find_5]
    rcases hT.at i hi with ⟨-, h1, h2⟩ | ⟨r, h0, h1, h2, h3⟩
    · rw [if_pos h1, h2]
      exact ⟨-1, rfl, Or.inl ⟨rfl, fun m _ _ _ => by simp⟩⟩
    · rw [if_neg h2, fisOf hT hR h0 hS, kcp, h3, List.filter_cons]
      by_cases h : ta_in S r = true
      · rw [h, if_neg (by decide), if_pos rfl]
        by_cases hx : nI c = x2
        · rw [if_pos hx]
          exact ⟨nI i, rfl, Or.inr ⟨i, c, r, rfl, hx.symm, Nat.le_refl _, by omega, h0, by simp⟩⟩
        · rw [if_neg hx, klt, klt, nI_1, nI_1]
          obtain ⟨y, e, hy⟩ := ih (i + 1) (c + 1) (by omega) (by omega) (by omega)
          refine ⟨y, e, ?_⟩
          rcases hy with ⟨hy, hh⟩ | ⟨j, m, r', hy, hm, hcm, hm31, hj, hh⟩
          · refine Or.inl ⟨hy, fun m hm hcm hm31 => ?_⟩
            have hne : c ≠ m := fun e => hx (by rw [e, hm])
            have := hh m hm (by omega) hm31
            rw [show m - c = (m - (c + 1)) + 1 by omega, List.getElem?_cons_succ]
            exact this
          · refine Or.inr ⟨j, m, r', hy, hm, by omega, hm31, hj, ?_⟩
            rw [show m - c = (m - (c + 1)) + 1 by omega, List.getElem?_cons_succ]
            exact hh
      · simp only [Bool.not_eq_true] at h
        rw [h, if_pos (by decide), klt, nI_1]
        have := ih (i + 1) c (by omega) (by omega) (by omega)
        simpa using this
theorem ffind {T : t_D} {t : k_St} {L : List (List Nat)} (hT : TB t L) (hR : TR T L) {n S : Nat} (hS : S < 2 ^ 31) (hn : 200 ≤ n) (x2 : Int32) : ∃ y, f_Ta_find n t (nI S) x2 = some y ∧ ((y = -1 ∧ ∀ m, x2 = nI m → m < 2 ^ 31 → (L.filter (ta_in S))[m]? = none) ∨ ∃ j m r, y = nI j ∧ x2 = nI m ∧ m < 2 ^ 31 ∧ L[j]? = some r ∧ (L.filter (ta_in S))[m]? = some r) := by
  have hl := hT.2.1
  obtain ⟨y, e, hy⟩ := ffind5 hT hR (n := n) hS x2 n 0 0 (by omega) (by omega) (by omega)
  rw [List.drop_zero] at hy
  refine ⟨y, e, ?_⟩
  rcases hy with ⟨hy, hh⟩ | ⟨j, m, r', hy, hm, hcm, hm31, hj, hh⟩
  · exact Or.inl ⟨hy, fun m hm h31 => hh m hm (by omega) h31⟩
  · exact Or.inr ⟨j, m, r', hy, hm, hm31, hj, hh⟩
theorem nI_ne_m1 {j : Nat} (h : j < 2 ^ 31) : ¬ nI j = -1 := by
  intro e
  have := nI_pos h
  rw [e] at this
  exact this (by decide)
theorem fmakeSense {T : t_D} {t : k_St} {L : List (List Nat)} (hT : TB t L) (hR : TR T L) {n S : Nat} (hS : S < 2 ^ 31) (hn : 200 ≤ n) : f_Ta_makeSense n t (nI S) = some (!(L.filter (ta_in S)).isEmpty) := by
  have hl := hT.2.1
  unfold f_Ta_makeSense
  obtain ⟨y, e, hy⟩ := ffind hT hR (n := n) hS hn 0
  rw [e, kcp]
  rcases hy with ⟨rfl, hh⟩ | ⟨j, m, r', rfl, hm, hm31, hj, hh⟩
  · rw [if_pos rfl]
    have := hh 0 rfl (by decide)
    cases hL : L.filter (ta_in S) with
    | nil => rfl
    | cons a l => rw [hL] at this; simp at this
  · have hjl : j < L.length := (List.getElem?_eq_some_iff.mp hj).1
    rw [if_neg (nI_ne_m1 (by omega))]
    cases hL : L.filter (ta_in S) with
    | nil => rw [hL] at hh; simp at hh
    | cons a l => rfl
/-- pieces in some, in all -/
def ta_or (s : Nat) (r : List Nat) : Nat := s ||| ta_bits r
def ta_and (s : Nat) (r : List Nat) : Nat := s &&& ta_bits r
theorem finSome4 {T : t_D} {t : k_St} {L : List (List Nat)} (hT : TB t L) (hR : TR T L) {n S : Nat} (hS : S < 2 ^ 31) : ∀ (k i c : Nat), i ≤ L.length → L.length - i < k → f_Ta_inSome_4 n t k (nI S) (nI c) (nI i) = some (nI (((L.drop i).filter (ta_in S)).foldl ta_or c)) := by
  intro k
  have hl := hT.2.1
  induction k with
  | zero => intro i c _ h; omega
  | succ k ih =>
    intro i c hi hk
    rw [f_Ta_inSome_4]
    rcases hT.at i hi with ⟨-, h1, h2⟩ | ⟨r, h0, h1, h2, h3⟩
    · rw [if_pos h1, h2]; rfl
    · rw [if_neg h2, fisOf hT hR h0 hS, kcp, h3, List.filter_cons]
      by_cases h : ta_in S r = true
      · rw [h, if_neg (by decide), if_pos rfl, kgi (kin (by omega) (by decide)), klt, klt, nI_1, nI_clamp (by omega), (hT.2.2 i r h0).2, nI_or, ih (i + 1) _ (by omega) (by omega)]
        rfl
      · simp only [Bool.not_eq_true] at h
        rw [h, if_pos (by decide), klt, nI_1, ih (i + 1) c (by omega) (by omega)]
        simp
theorem finSome {T : t_D} {t : k_St} {L : List (List Nat)} (hT : TB t L) (hR : TR T L) {n S : Nat} (hS : S < 2 ^ 31) (hn : 200 ≤ n) : f_Ta_inSome n t (nI S) = some (nI ((L.filter (ta_in S)).foldl ta_or 0)) := by
  have hl := hT.2.1
  have := finSome4 hT hR (n := n) hS n 0 0 (by omega) (by omega)
  rw [List.drop_zero] at this
  exact this
theorem finAll8 {T : t_D} {t : k_St} {L : List (List Nat)} (hT : TB t L) (hR : TR T L) {n S : Nat} (hS : S < 2 ^ 31) : ∀ (k i c : Nat), i ≤ L.length → L.length - i < k → f_Ta_inAll_8 n t k (nI S) (nI c) (nI i) = some (nI (((L.drop i).filter (ta_in S)).foldl ta_and c)) := by
  intro k
  have hl := hT.2.1
  induction k with
  | zero => intro i c _ h; omega
  | succ k ih =>
    intro i c hi hk
    rw [f_Ta_inAll_8]
    rcases hT.at i hi with ⟨-, h1, h2⟩ | ⟨r, h0, h1, h2, h3⟩
    · rw [if_pos h1, h2]; rfl
    · rw [if_neg h2, fisOf hT hR h0 hS, kcp, h3, List.filter_cons]
      by_cases h : ta_in S r = true
      · rw [h, if_neg (by decide), if_pos rfl, kgi (kin (by omega) (by decide)), klt, klt, nI_1, nI_clamp (by omega), (hT.2.2 i r h0).2, nI_and, ih (i + 1) _ (by omega) (by omega)]
        rfl
      · simp only [Bool.not_eq_true] at h
        rw [h, if_pos (by decide), klt, nI_1, ih (i + 1) c (by omega) (by omega)]
        simp
theorem finAll {T : t_D} {t : k_St} {L : List (List Nat)} (hT : TB t L) (hR : TR T L) {n S : Nat} (hS : S < 2 ^ 31) (hn : 200 ≤ n) : f_Ta_inAll n t (nI S) = some (nI ((L.filter (ta_in S)).foldl ta_and ((L.filter (ta_in S)).foldl ta_or 0))) := by
  have hl := hT.2.1
  unfold f_Ta_inAll
  rw [finSome hT hR hS hn, kcp]
  have := finAll8 hT hR (n := n) hS n 0 ((L.filter (ta_in S)).foldl ta_or 0) (by omega) (by omega)
  rw [List.drop_zero] at this
  exact this
theorem fhaveRow2 {T : t_D} {t : k_St} {L : List (List Nat)} (hT : TB t L) {n : Nat} (x : Int32) : ∀ (k i : Nat), i ≤ L.length → L.length - i < k → f_Ta_haveRow_2 n t k x (nI i) = some ((L.drop i).any (fun r => nI (ta_code r) = x)) := by
  intro k
  have hl := hT.2.1
  induction k with
  | zero => intro i _ h; omega
  | succ k ih =>
    intro i hi hk
    rw [f_Ta_haveRow_2]
    rcases hT.at i hi with ⟨-, h1, h2⟩ | ⟨r, h0, h1, h2, h3⟩
    · rw [if_pos h1, h2]; rfl
    · rw [if_neg h2, kgi (kin (by omega) (by decide)), nI_clamp (by omega), (hT.2.2 i r h0).1, h3, List.any_cons]
      by_cases h : nI (ta_code r) = x
      · rw [if_pos h]; simp [h]
      · rw [if_neg h, klt, nI_1, ih (i + 1) (by omega) (by omega)]
        simp [h]
theorem fhaveRow {t : k_St} {L : List (List Nat)} (hT : TB t L) {n : Nat} (hn : 200 ≤ n) (x : Int32) : f_Ta_haveRow n t x = some (L.any (fun r => nI (ta_code r) = x)) := by
  have hl := hT.2.1
  have := fhaveRow2 (T := fun _ _ => 0) hT (n := n) x n 0 (by omega) (by omega)
  rw [List.drop_zero] at this
  exact this
/-! digits of a row -/
theorem ta_code_lt (r : List Nat) (h : ∀ p ∈ r, p < 9) : ta_code r < 10 ^ r.length := by
  have key : ∀ (r : List Nat) (c : Nat), (∀ p ∈ r, p < 9) → r.foldl (fun c p => c * 10 + p + 1) c < (c + 1) * 10 ^ r.length := by
    intro r
    induction r with
    | nil => intro c _; simp
    | cons p r ih =>
      intro c h
      have hp := h p (by simp)
      have := ih (c * 10 + p + 1) (fun q hq => h q (by simp [hq]))
      rw [List.foldl_cons, List.length_cons]
      refine Nat.lt_of_lt_of_le this ?_
      rw [Nat.pow_succ', ← Nat.mul_assoc]
      exact Nat.mul_le_mul_right _ (by omega)
  have := key r 0 h
  simpa [ta_code] using this
theorem ta_code_div (r s : List Nat) (h : ∀ p ∈ s, p < 9) : ta_code (r ++ s) / 10 ^ s.length = ta_code r := by
  have key : ∀ (s : List Nat) (c : Nat), (∀ p ∈ s, p < 9) → s.foldl (fun c p => c * 10 + p + 1) c / 10 ^ s.length = c := by
    intro s
    induction s with
    | nil => intro c _; simp
    | cons p s ih =>
      intro c h
      have hp := h p (by simp)
      rw [List.foldl_cons, List.length_cons, Nat.pow_succ, ← Nat.div_div_eq_div_mul, ih _ (fun q hq => h q (by simp [hq]))]
      omega
  rw [ta_code, List.foldl_append]
  exact key s _ h
theorem ta_code_at (r : List Nat) (h : ∀ p ∈ r, p < 9) {i p : Nat} (hi : r[i]? = some p) : ta_code r / 10 ^ (r.length - 1 - i) % 10 = p + 1 := by
  obtain ⟨hil, e⟩ := List.getElem?_eq_some_iff.mp hi
  have hp : p < 9 := h p (List.mem_of_getElem? hi)
  have e1 : r = (r.take i ++ [p]) ++ r.drop (i + 1) := by
    rw [List.append_assoc, List.singleton_append, ← e, ← List.drop_eq_getElem_cons hil, List.take_append_drop]
  have e2 : r.length - 1 - i = (r.drop (i + 1)).length := by rw [List.length_drop]; omega
  rw [e2]
  have := ta_code_div (r.take i ++ [p]) (r.drop (i + 1)) (fun q hq => h q (List.mem_of_mem_drop hq))
  rw [← e1] at this
  rw [this, ta_code_app]
  omega
theorem fpieceAt16 {t : k_St} {n : Nat} (i : Nat) (hi : i < 2 ^ 30) : ∀ (k c j : Nat), c < 2 ^ 31 → j < 2 ^ 30 → j - i < k → f_Ta_pieceAt_16 n t k (nI i) (nI c) (nI j) = some (nI (c / 10 ^ (j - i) % 10) - 1) := by
  intro k
  induction k with
  | zero => intro c j _ _ h; omega
  | succ k ih =>
    intro c j hc hj hk
    rw [f_Ta_pieceAt_16]
    have hdiv : nI c / (10 : Int32) = nI (c / 10) := pk_div hc (by decide) (by decide)
    have hrem : nI c - nI c / (10 : Int32) * (10 : Int32) = nI (c % 10) := pk_rem hc (by decide) (by decide)
    rcases Nat.lt_or_ge i j with h | h
    · obtain ⟨j, rfl⟩ : ∃ j', j = j' + 1 := ⟨j - 1, by omega⟩
      rw [if_neg (nI_ge h (by omega)), klt, klt, hdiv, pk_m1, ih (c / 10) j (by omega) (by omega) (by omega)]
      rw [show j + 1 - i = (j - i) + 1 by omega, Nat.pow_succ', ← Nat.div_div_eq_div_mul]
    · rw [if_pos (nI_le h (by omega)), hrem, show j - i = 0 by omega]
      simp
theorem fpieceAt {T : t_D} {t : k_St} {L : List (List Nat)} (w : Tw T) (hT : TB t L) (hR : TR T L) {n j i p : Nat} {r : List Nat} (hr : L[j]? = some r) (hi : r[i]? = some p) (hn : 200 ≤ n) : f_Ta_pieceAt n t (nI j) (nI i) = some (nI p) := by
  have hl := hT.2.1
  have hjl : j < L.length := (List.getElem?_eq_some_iff.mp hr).1
  have hrow := hR r (List.mem_of_getElem? hr)
  have hP := w.1.2
  have h9 : ∀ p ∈ r, p < 9 := fun p hp => by have := hrow.2.2.1 p hp; omega
  obtain ⟨hil, -⟩ := List.getElem?_eq_some_iff.mp hi
  have h8 := hrow.2.1
  have hc : ta_code r < 2 ^ 31 := by
    have h1 := ta_code_lt r h9
    have : 10 ^ r.length ≤ 10 ^ 8 := Nat.pow_le_pow_right (by omega) h8
    omega
  unfold f_Ta_pieceAt
  rw [kgi (kin (by omega) (by decide)), klt, nI_clamp (by omega), (hT.2.2 j r hr).1, flengthOf hT hR hr, kcp, klt]
  obtain ⟨z, hz⟩ : ∃ z, r.length = z + 1 := ⟨r.length - 1, by omega⟩
  rw [hz, nI_pred, fpieceAt16 i (by omega) n _ z hc (by omega) (by omega)]
  have := ta_code_at r h9 hi
  rw [show r.length - 1 - i = z - i by omega] at this
  rw [this, nI_pred]
