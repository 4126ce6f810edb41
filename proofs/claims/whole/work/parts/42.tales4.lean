theorem pc8_drop : ∀ s, s < 256 → s ≠ 0 → pc8 (s &&& (s - 1)) + 1 = pc8 s ∧ s &&& (s - 1) < 256 := by decide +kernel
theorem fMbits4 {n : Nat} : ∀ (k c s : Nat), s < 256 → pc8 s < k → f_M_bits_4 n k (nI c) (nI s) = some (nI (c + pc8 s)) := by
  intro k
  induction k with
  | zero => intro c s _ h; omega
  | succ k ih =>
    intro c s hs hk
    rw [f_M_bits_4]
    by_cases h0 : s = 0
    · subst h0
      rw [if_pos (by rfl)]; rfl
    · obtain ⟨a, b⟩ := pc8_drop s hs h0
      obtain ⟨z, rfl⟩ : ∃ z, s = z + 1 := ⟨s - 1, by omega⟩
      rw [if_neg (nI_ne0 (by omega) (by omega)), klt, klt, nI_1, nI_pred, nI_and]
      rw [show z + 1 - 1 = z by omega] at a b
      rw [ih (c + 1) _ b (by omega)]
      congr 2; omega
theorem fMbits {n s : Nat} (hn : 10 ≤ n) (hs : s < 256) : f_M_bits n (nI s) = some (nI (pc8 s)) := by
  have := fMbits4 (n := n) n 0 s hs (by have := pc8_le s; omega)
  rw [Nat.zero_add] at this
  exact this
theorem mw.mk {m u : k_St} (h : mw m u) : mk m u := h.mz.mk
def ta_ans (o : Option Nat) : Int32 × Int32 := match o with
  | none => (-1, 1)
  | some p => (nI p, 0)
theorem ftaleAt35 {T : t_D} (w : Tw T) {S : Nat} (hS : S < 2 ^ 31) {n : Nat} (hn : big n) {m : k_St} {q i : Nat} (hq : q < 2 ^ 31) (hi : i < 2 ^ 31) : ∀ (R : List (List Nat)) (k c : Nat) (t : k_St), (∀ r ∈ R, ta_row T r) → Aw T S t R → mk m t → R.length < k → c + R.length ≤ 1000 → c ≤ q → AM (f_M_taleAt_35 n k (nI q) (nI i) (nI c) t) m (ta_ans (R[q - c]?.bind (fun r => r[i]?))).1 (ta_ans (R[q - c]?.bind (fun r => r[i]?))).2 := by
  intro R
  induction R with
  | nil =>
    intro k c t _ hA hm hk _ _
    obtain ⟨k, rfl⟩ : ∃ k', k = k' + 1 := ⟨k - 1, by simp at hk; omega⟩
    obtain ⟨u, a, b⟩ := (fnextTale w hS hn hA).1 rfl
    rw [f_M_taleAt_35, a, kcl, if_pos (by decide)]
    simp only [List.getElem?_nil, Option.bind_none, ta_ans]
    exact AM.ref (hm.tr b.mk) 1
  | cons r R ih =>
    intro k c t hR hA hm hk hc hcq
    rw [List.length_cons] at hk hc
    obtain ⟨k, rfl⟩ : ∃ k', k = k' + 1 := ⟨k - 1, by omega⟩
    obtain ⟨u, a, b, hA2, hH⟩ := (fnextTale w hS hn hA).2 r R rfl
    have h8 := (hR r (by simp)).2.1
    rw [f_M_taleAt_35, a, kcl, if_neg (by decide)]
    by_cases hcq2 : c = q
    · subst hcq2
      rw [if_pos rfl, Nat.sub_self, List.getElem?_cons_zero, Option.bind_some, hH.1]
      rcases Nat.lt_or_ge i r.length with hl | hl
      · rw [if_neg (nI_ge hl (by omega)), kgi (kin (by omega) (by decide)), nI_clamp (by omega), hH.2.2 i _ (List.getElem?_eq_getElem hl), List.getElem?_eq_getElem hl]
        exact AM.good (hm.tr b.mk) _
      · rw [if_pos (nI_le hl hi), List.getElem?_eq_none_iff.mpr hl]
        exact AM.ref (hm.tr b.mk) 1
    · rw [if_neg (fun e => hcq2 (nI_inj (by omega) hq e)), klt, nI_1]
      have := ih k (c + 1) u (fun x hx => hR x (by simp [hx])) hA2 (hm.tr b.mk) (by omega) (by omega) (by omega)
      rw [show q - c = (q - (c + 1)) + 1 by omega, List.getElem?_cons_succ]
      exact this
theorem e_taleAt {T : t_D} {v : Nat → Nat} {x m : k_St} (h : XB T v x) (g : MB T v m) {n : Nat} (hn : big n) (x1 x2 x3 : Int32) : Q2 (f_X_taleAt n x1 x2 x3 x) x (f_M_taleAt n x1 x2 x3 m) m := by
  have w := h.1
  have g0 := g.mk (th0 m)
  have h256 := w.pow
  unfold f_X_taleAt f_M_taleAt
  rw [klt (k_sI m 0 0 0)]
  rcases pieces_or h g0.1 x1 with ⟨a, b⟩ | ⟨S, hS, rfl, a, b⟩
  · rw [if_neg (k_bne a), if_pos (k_beq b)]
    exact Q2.ref (xk.rf x) (th0 m) 1 (by decide)
  · obtain ⟨y, e2, hy⟩ := ffind h.2.2.1 h.rows (show S < 2 ^ 31 by omega) (show 200 ≤ n by omega) x2
    rw [if_pos (k_beq a), if_neg (k_bne b), e2, kcp]
    rw [← h.all] at hy
    by_cases hx2 : x2 < 0
    · rw [if_pos hx2]
      have hy1 : y = -1 := by
        rcases hy with ⟨e, -⟩ | ⟨j, m', r', -, hm', h31, -, -⟩
        · exact e
        · rw [hm'] at hx2; exact absurd hx2 (nI_pos h31)
      subst hy1
      refine ⟨-1, 1, AX.thru ?_, AM.ref (th0 m) 1, by decide⟩
      unfold f_X_pieceOfTale
      rw [if_pos rfl]
      exact AX.ref (xk.rf x) 1
    · obtain ⟨q, hq, rfl⟩ := nI_of hx2
      rw [if_neg hx2]
      by_cases hx3 : x3 < 0
      · rw [if_neg (Int32.not_le.mpr hx3)]
        refine ⟨-1, 1, AX.thru ?_, AM.ref (th0 m) 1, by decide⟩
        rcases hy with ⟨rfl, -⟩ | ⟨j, m', r', rfl, -, -, hj, -⟩
        · unfold f_X_pieceOfTale
          rw [if_pos rfl]
          exact AX.ref (xk.rf x) 1
        · refine (fpieceOfTale h (show 200 ≤ n by omega) hj x3).2 (fun i hi h31 => ?_)
          rw [hi] at hx3; exact absurd hx3 (nI_pos h31)
      · obtain ⟨i, hi, rfl⟩ := nI_of hx3
        rw [if_pos (Int32.not_lt.mp hx3)]
        obtain ⟨u, e, hm, hA⟩ := fstartsTales g0.1 S
        have hl := ta_all_len w S
        have hM := ftaleAt35 w (show S < 2 ^ 31 by omega) hn hq hi (ta_all T S) n 0 u (fun r hr => ta_all_row w hr) hA ((th0 m).tr hm.mk) (by omega) (by omega) (by omega)
        rw [Nat.sub_zero] at hM
        rw [e, kcv]
        refine ⟨_, _, ?_, hM, ?_⟩
        · apply AX.thru
          rcases hy with ⟨rfl, hh⟩ | ⟨j, m', r', rfl, hm', h31, hj, hh⟩
          · rw [hh q rfl hq]
            unfold f_X_pieceOfTale
            rw [if_pos rfl]
            exact AX.ref (xk.rf x) 1
          · have := nI_inj hq h31 hm'
            subst this
            rw [hh, Option.bind_some]
            obtain ⟨p1, p2⟩ := fpieceOfTale h (show 200 ≤ n by omega) hj (nI i)
            cases hp : r'[i]? with
            | none =>
              refine p2 (fun i2 e3 h31' => ?_)
              rw [← nI_inj hi h31' e3]; exact hp
            | some p => exact p1 i p rfl hi hp
        · cases (ta_all T S)[q]?.bind (fun r => r[i]?) <;> (simp only [ta_ans]; decide)
theorem fused26 {T : t_D} (w : Tw T) {S : Nat} (hS : S < 2 ^ 31) {n : Nat} (hn : big n) {m : k_St} : ∀ (R : List (List Nat)) (k c : Nat) (t : k_St), Aw T S t R → mk m t → R.length < k → AM (f_M_used_26 n k (nI c) t) m (nI (R.foldl ta_or c)) 0 := by
  intro R
  induction R with
  | nil =>
    intro k c t hA hm hk
    obtain ⟨k, rfl⟩ : ∃ k', k = k' + 1 := ⟨k - 1, by simp at hk; omega⟩
    obtain ⟨u, a, b⟩ := (fnextTale w hS hn hA).1 rfl
    rw [f_M_used_26, a, kcl, if_pos (by decide)]
    exact AM.good (hm.tr b.mk) _
  | cons r R ih =>
    intro k c t hA hm hk
    rw [List.length_cons] at hk
    obtain ⟨k, rfl⟩ : ∃ k', k = k' + 1 := ⟨k - 1, by omega⟩
    obtain ⟨u, a, b, hA2, hH⟩ := (fnextTale w hS hn hA).2 r R rfl
    rw [f_M_used_26, a, kcl, if_neg (by decide), klt, hH.2.1, nI_or]
    exact ih k _ u hA2 (hm.tr b.mk) (by omega)
theorem e_used {T : t_D} {v : Nat → Nat} {x m : k_St} (h : XB T v x) (g : MB T v m) {n : Nat} (hn : big n) (x1 : Int32) : Q2 (f_X_used n x1 x) x (f_M_used n x1 m) m := by
  have w := h.1
  have g0 := g.mk (th0 m)
  have h256 := w.pow
  unfold f_X_used f_M_used
  rw [klt (k_sI m 0 0 0)]
  rcases pieces_or h g0.1 x1 with ⟨a, b⟩ | ⟨S, hS, rfl, a, b⟩
  · rw [if_neg (k_bne a), if_pos (k_beq b)]
    exact Q2.ref (xk.rf x) (th0 m) 1 (by decide)
  · obtain ⟨u, e, hm, hA⟩ := fstartsTales g0.1 S
    have hl := ta_all_len w S
    rw [if_pos (k_beq a), if_neg (k_bne b), finSome h.2.2.1 h.rows (show S < 2 ^ 31 by omega) (show 200 ≤ n by omega), kcp, e, kcv, ← h.all]
    exact ⟨_, 0, AX.ans (xk.rf x) _, fused26 w (by omega) hn _ n 0 u hA ((th0 m).tr hm.mk) (by omega), by decide⟩
theorem fneeded26 {T : t_D} (w : Tw T) {S : Nat} (hS : S < 2 ^ 31) {n : Nat} (hn : big n) {m : k_St} : ∀ (R : List (List Nat)) (k c : Nat) (t : k_St), c < 256 → Aw T S t R → mk m t → R.length < k → AM (f_M_needed_26 n k (nI c) t) m (nI (R.foldl ta_and c)) 0 := by
  intro R
  induction R with
  | nil =>
    intro k c t hc hA hm hk
    obtain ⟨k, rfl⟩ : ∃ k', k = k' + 1 := ⟨k - 1, by simp at hk; omega⟩
    obtain ⟨u, a, b⟩ := (fnextTale w hS hn hA).1 rfl
    rw [f_M_needed_26, a, kcl, if_pos (by decide), if_neg (nI_ne_m1 (by omega))]
    exact AM.good (hm.tr b.mk) _
  | cons r R ih =>
    intro k c t hc hA hm hk
    rw [List.length_cons] at hk
    obtain ⟨k, rfl⟩ : ∃ k', k = k' + 1 := ⟨k - 1, by omega⟩
    obtain ⟨u, a, b, hA2, hH⟩ := (fnextTale w hS hn hA).2 r R rfl
    rw [f_M_needed_26, a, kcl, if_neg (by decide), klt, hH.2.1, nI_and]
    exact ih k _ u (Nat.lt_of_le_of_lt Nat.and_le_left hc) hA2 (hm.tr b.mk) (by omega)
theorem or_fold (R : List (List Nat)) : ∀ c i, c.testBit i = true → (R.foldl ta_or c).testBit i = true := by
  induction R with
  | nil => intro c i h; exact h
  | cons r R ih => intro c i h; exact ih _ i (by rw [ta_or, Nat.testBit_or, h]; rfl)
theorem e_needed {T : t_D} {v : Nat → Nat} {x m : k_St} (h : XB T v x) (g : MB T v m) {n : Nat} (hn : big n) (x1 : Int32) : Q2 (f_X_needed n x1 x) x (f_M_needed n x1 m) m := by
  have w := h.1
  have g0 := g.mk (th0 m)
  have h256 := w.pow
  unfold f_X_needed f_M_needed
  rw [klt (k_sI m 0 0 0)]
  rcases pieces_or h g0.1 x1 with ⟨a, b⟩ | ⟨S, hS, rfl, a, b⟩
  · rw [if_neg (k_bne a), if_pos (k_beq b)]
    exact Q2.ref (xk.rf x) (th0 m) 1 (by decide)
  · obtain ⟨u, e, hm, hA⟩ := fstartsTales g0.1 S
    have hl := ta_all_len w S
    rw [if_pos (k_beq a), if_neg (k_bne b), finAll h.2.2.1 h.rows (show S < 2 ^ 31 by omega) (show 200 ≤ n by omega), kcp, e, kcv, ← h.all]
    obtain ⟨n, rfl⟩ : ∃ n', n = n' + 1 := ⟨n - 1, by omega⟩
    have hrows : ∀ r ∈ ta_all T S, ta_row T r := fun r hr => ta_all_row w hr
    cases hR : ta_all T S with
    | nil =>
      rw [hR] at hA
      obtain ⟨u2, a2, b2⟩ := (fnextTale w (show S < 2 ^ 31 by omega) hn hA).1 rfl
      rw [f_M_needed_26, a2, kcl, if_pos (by decide), if_pos rfl]
      exact Q2.ans (xk.rf x) (((th0 m).tr hm.mk).tr b2.mk) 0
    | cons r R =>
      rw [hR] at hA hl hrows
      rw [List.length_cons] at hl
      obtain ⟨u2, a2, b2, hA2, hH⟩ := (fnextTale w (show S < 2 ^ 31 by omega) hn hA).2 r R rfl
      have hrow := hrows r (by simp)
      have e1 : (-1 : Int32) &&& nI (ta_bits r) = nI (ta_bits r) := by rw [Int32.neg_one_and]
      rw [f_M_needed_26, a2, kcl, if_neg (by decide), klt, hH.2.1, e1]
      refine ⟨_, 0, AX.ans (xk.rf x) _, ?_, by decide⟩
      have := fneeded26 w (show S < 2 ^ 31 by omega) hn (m := m) R n (ta_bits r) u2 hrow.2.2.2.2 hA2 (((th0 m).tr hm.mk).tr b2.mk) (by omega)
      have e2 : (r :: R).foldl ta_and ((r :: R).foldl ta_or 0) = R.foldl ta_and (ta_bits r) := by
        rw [List.foldl_cons]
        congr 1
        apply Nat.eq_of_testBit_eq
        intro i
        rw [ta_and, Nat.testBit_and]
        by_cases hb : (ta_bits r).testBit i = true
        · rw [hb, List.foldl_cons, or_fold R _ i (by rw [ta_or, Nat.testBit_or, hb]; simp)]; rfl
        · simp at hb; rw [hb]; simp
      rw [e2]
      exact this
theorem e_leftOver {T : t_D} {v : Nat → Nat} {x m : k_St} (h : XB T v x) (g : MB T v m) {n : Nat} (hn : big n) (x1 : Int32) : Q2 (f_X_leftOver n x1 x) x (f_M_leftOver n x1 m) m := by
  have w := h.1
  have g0 := g.mk (th0 m)
  have h256 := w.pow
  unfold f_X_leftOver f_M_leftOver
  rw [klt (k_sI m 0 0 0)]
  rcases pieces_or h g0.1 x1 with ⟨a, b⟩ | ⟨S, hS, rfl, a, b⟩
  · rw [if_neg (k_bne a), if_pos (k_beq b)]
    exact Q2.ref (xk.rf x) (th0 m) 1 (by decide)
  · obtain ⟨u, e, hm, -⟩ := fMlongestOf w (show S < 2 ^ 31 by omega) hn g0.1
    obtain ⟨y, e2, hy⟩ := flongestOf h.2.2.1 h.rows (show S < 2 ^ 31 by omega) (show 200 ≤ n by omega)
    rw [if_pos (k_beq a), if_neg (k_bne b), e2, kcp, fMbits (by omega) (by omega), kcp, e, kcl, bc8 S (by omega)]
    rw [← h.all] at hy
    rcases hy with ⟨rfl, hy⟩ | ⟨j, rfl, hy⟩
    · rw [if_pos rfl, hy]
      exact Q2.ans (xk.rf x) ((th0 m).tr hm.mk) _
    · have hj : j < 162 := by have := (List.getElem?_eq_some_iff.mp hy).1; have := h.2.2.1.2.1; omega
      rw [if_neg (nI_ne_m1 (by omega)), flengthOf h.2.2.1 h.rows hy, kcp]
      exact Q2.ans (xk.rf x) ((th0 m).tr hm.mk) _
theorem e_talesOf {T : t_D} {v : Nat → Nat} {x m : k_St} (h : XB T v x) (g : MB T v m) {n : Nat} (hn : big n) (x1 : Int32) : Q2 (f_X_talesOf n x1 x) x (f_M_talesOf n x1 m) m := by
  have w := h.1
  have g0 := g.mk (th0 m)
  have h256 := w.pow
  have h5 := w.2.2.2.2.1
  unfold f_X_talesOf f_M_talesOf
  rw [klt (k_sI m 0 0 0)]
  rcases house_or w h.2.1 g0.1 x1 with ⟨a, b⟩ | ⟨k, hk, rfl, a, b⟩
  · rw [if_neg (k_bne a), if_pos (k_beq b)]
    exact Q2.ref (xk.rf x) (th0 m) 1 (by decide)
  · have hv := h.2.2.2.2.2.2.2.p8 w k (by omega)
    rw [if_pos (k_beq a), if_neg (k_bne b), h.known (by omega), fcountOf h.2.2.1 h.rows (by omega) (by omega), kcp, kgi (kin (by omega) (by decide)), nI_clamp (by omega), g0.2 k (by omega)]
    obtain ⟨u, e, hm⟩ := ftellsAll w (show v k < 2 ^ 31 by omega) hn g0.1
    rw [e, kcl, ← h.all]
    exact Q2.ans (xk.rf x) ((th0 m).tr hm.mk) _
