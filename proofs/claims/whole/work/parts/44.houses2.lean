/-! ===== sense, wisest, known, alone, piece, house ===== -/
theorem fhasSense {T : t_D} {v : Nat → Nat} {x : k_St} (h : XB T v x) {n : Nat} (hn : 200 ≤ n) {k : Nat} (hk : k < 5) : f_X_hasSense n x (nI k) = some (!(ta_all T (v k)).isEmpty) := by
  have w := h.1
  have hv := h.2.2.2.2.2.2.2.p8 w k hk
  unfold f_X_hasSense
  rw [h.known hk, fmakeSense h.2.2.1 h.rows (by omega) hn, kcp, ← h.all]
/-- houses that have SENSE, as bits -/
def sn (T : t_D) (v : Nat → Nat) : Nat → Nat
  | 0 => 0
  | k + 1 => if (ta_all T (v k)).isEmpty then sn T v k else sn T v k ||| 2 ^ k
theorem fsense17 {T : t_D} {v : Nat → Nat} {x : k_St} (h : XB T v x) {n : Nat} (hn : 200 ≤ n) : ∀ (j f i : Nat), i + j = T 0 4 → j < f → f_X_sense_17 n f (nI (sn T v i)) (nI i) x = k_lt (f_X_answer (nI (sn T v (T 0 4))) x) (fun q_1 => some (q_1.1, q_1.2)) := by
  have w := h.1
  have h5 := w.2.2.2.2.1
  intro j
  induction j with
  | zero =>
    intro f i hi hf
    obtain ⟨f, rfl⟩ : ∃ f', f = f' + 1 := ⟨f - 1, by omega⟩
    rw [f_X_sense_17, h.2.1.1 4 (by omega), if_pos (nI_le (by omega) (by omega)), show i = T 0 4 by omega]
  | succ j ih =>
    intro f i hi hf
    obtain ⟨f, rfl⟩ : ∃ f', f = f' + 1 := ⟨f - 1, by omega⟩
    have := ih f (i + 1) (by omega) (by omega)
    rw [sn] at this
    rw [f_X_sense_17, h.2.1.1 4 (by omega), if_neg (nI_ge (by omega) (by omega)), fhasSense h hn (by omega), kcp]
    by_cases he : (ta_all T (v i)).isEmpty = true
    · rw [if_pos he] at this
      rw [if_pos (k_beq (by rw [he]; rfl)), klt, nI_1]
      exact this
    · rw [if_neg he] at this
      rw [if_neg (k_bne (by simp only [Bool.not_eq_true] at he; rw [he]; rfl)), klt, klt, nI_shl i (by omega), nI_or, nI_1]
      exact this
theorem fsenseIn {T : t_D} {v : Nat → Nat} (w : Tw T) (hv : pk8 v) {n : Nat} (hn : big n) : ∀ (j f i : Nat) (t : k_St), i + j = T 0 4 → j < f → MB T v t → ∃ u, f_M_senseInV_4 n f (nI (sn T v i)) (nI i) t = some (nI (sn T v (T 0 4)), u) ∧ mz t u := by
  have h5 := w.2.2.2.2.1
  intro j
  induction j with
  | zero =>
    intro f i t hi hf g
    obtain ⟨f, rfl⟩ : ∃ f', f = f' + 1 := ⟨f - 1, by omega⟩
    rw [f_M_senseInV_4, g.1.1 4 (by omega), if_pos (nI_le (by omega) (by omega)), show i = T 0 4 by omega]
    exact ⟨t, rfl, mz.rf t⟩
  | succ j ih =>
    intro f i t hi hf g
    obtain ⟨f, rfl⟩ : ∃ f', f = f' + 1 := ⟨f - 1, by omega⟩
    have hvi := hv i (by omega)
    obtain ⟨u, e, hz⟩ := fhasTale w (show v i < 2 ^ 31 by omega) hn g.1
    obtain ⟨u2, e2, hz2⟩ := ih f (i + 1) u (by omega) (by omega) (g.mk hz.mk)
    refine ⟨u2, ?_, hz.tr hz2⟩
    rw [sn] at e2
    rw [f_M_senseInV_4, g.1.1 4 (by omega), if_neg (nI_ge (by omega) (by omega)), kgi (kin (by omega) (by decide)), nI_clamp (by omega), g.2 i (by omega), e, kcl]
    by_cases he : (ta_all T (v i)).isEmpty = true
    · rw [if_pos he] at e2
      rw [if_pos (k_beq (by rw [he]; rfl)), klt, klt, Int32.or_zero, nI_1]
      exact e2
    · rw [if_neg he] at e2
      rw [if_neg (k_bne (by simp only [Bool.not_eq_true] at he; rw [he]; rfl)), klt, klt, nI_shl i (by omega), nI_or, nI_1]
      exact e2
theorem e_sense {T : t_D} {v : Nat → Nat} {x m : k_St} (h : XB T v x) (g : MB T v m) {n : Nat} (hn : big n) : Q2 (f_X_sense n x) x (f_M_sense n m) m := by
  have w := h.1
  have g0 := g.mk (th0 m)
  have h5 := w.2.2.2.2.1
  unfold f_X_sense f_M_sense f_M_senseInV
  rw [klt (k_sI m 0 0 0), h.2.2.2.1, if_neg (by decide)]
  obtain ⟨u, e, hz⟩ := fsenseIn w (h.2.2.2.2.2.2.2.p8 w) hn (T 0 4) n 0 _ (by omega) (by omega) g0
  have e1 := fsense17 h (show 200 ≤ n by omega) (T 0 4) n 0 (by omega) (by omega)
  rw [show sn T v 0 = 0 from rfl, nI_0] at e e1
  rw [e1, e, kcl]
  exact Q2.ans (xk.rf x) ((th0 m).tr hz.mk) _
theorem wisest20 {T : t_D} {v : Nat → Nat} {x m : k_St} (h : XB T v x) {n : Nat} (hn : big n) {t : k_St} (hm : mk m t) (g : MB T v t) : ∀ (j f f2 i : Nat) (b c : Int32), i + j = T 0 4 → j < f → j < f2 → ((b = -2 ∧ c = -1) ∨ ∃ z, z < T 0 4 ∧ b = nI z ∧ c = nI (pc8 (v z))) → Q2 (f_X_wisest_20 n f b c (nI i) x) x (f_M_wisest_23 n f2 b (nI i) t) m := by
  have w := h.1
  have h5 := w.2.2.2.2.1
  have hv := h.2.2.2.2.2.2.2.p8 w
  intro j
  induction j with
  | zero =>
    intro f f2 i b c hi hf hf2 hbc
    obtain ⟨f, rfl⟩ : ∃ f', f = f' + 1 := ⟨f - 1, by omega⟩
    obtain ⟨f2, rfl⟩ : ∃ f', f2 = f' + 1 := ⟨f2 - 1, by omega⟩
    rw [f_X_wisest_20, f_M_wisest_23, h.2.1.1 4 (by omega), g.1.1 4 (by omega), if_pos (nI_le (by omega) (by omega)), if_pos (nI_le (by omega) (by omega))]
    exact Q2.ans (xk.rf x) hm _
  | succ j ih =>
    intro f f2 i b c hi hf hf2 hbc
    obtain ⟨f, rfl⟩ : ∃ f', f = f' + 1 := ⟨f - 1, by omega⟩
    obtain ⟨f2, rfl⟩ : ∃ f', f2 = f' + 1 := ⟨f2 - 1, by omega⟩
    have hvi := hv i (by omega)
    have hpi := pc8_le (v i)
    rw [f_X_wisest_20, f_M_wisest_23, h.2.1.1 4 (by omega), g.1.1 4 (by omega), if_neg (nI_ge (by omega) (by omega)), if_neg (nI_ge (by omega) (by omega)), h.known (by omega), bc8 _ hvi, klt]
    rcases hbc with ⟨rfl, rfl⟩ | ⟨z, hz, rfl, rfl⟩
    · rw [if_neg (by rw [Int32.not_le]; exact Int32.lt_of_lt_of_le (by decide) (nI_pos' (by omega : pc8 (v i) < 2 ^ 31))), if_pos rfl, klt, klt, nI_1]
      exact ih f f2 (i + 1) _ _ (by omega) (by omega) (by omega) (Or.inr ⟨i, by omega, rfl, rfl⟩)
    · have hvz := hv z (by omega)
      have hpz := pc8_le (v z)
      have hne : ¬ nI z = (-2 : Int32) := fun e => by
        have := nI_pos (n := z) (by omega)
        rw [e] at this; exact this (by decide)
      rw [if_neg hne, kgi (kin (by omega) (by decide)), nI_clamp (by omega), g.2 i (by omega), fMbits (by omega) hvi, kcp, kgi (kin (by omega) (by decide)), nI_clamp (by omega), g.2 z (by omega), fMbits (by omega) hvz, kcp]
      by_cases hlt : pc8 (v z) < pc8 (v i)
      · rw [if_neg (nI_ge hlt (by omega)), if_neg (nI_ge hlt (by omega)), klt, klt, nI_1]
        exact ih f f2 (i + 1) _ _ (by omega) (by omega) (by omega) (Or.inr ⟨i, by omega, rfl, rfl⟩)
      · rw [if_pos (nI_le (by omega) (by omega)), if_pos (nI_le (by omega) (by omega)), klt, klt, nI_1]
        exact ih f f2 (i + 1) _ _ (by omega) (by omega) (by omega) (Or.inr ⟨z, hz, rfl, rfl⟩)
theorem e_wisest {T : t_D} {v : Nat → Nat} {x m : k_St} (h : XB T v x) (g : MB T v m) {n : Nat} (hn : big n) : Q2 (f_X_wisest n x) x (f_M_wisest n m) m := by
  have h5 := h.1.2.2.2.2.1
  unfold f_X_wisest f_M_wisest
  rw [klt (k_sI m 0 0 0), h.2.2.2.1, if_neg (by decide)]
  exact wisest20 h hn (th0 m) (g.mk (th0 m)) (T 0 4) n n 0 (-2) (-1) (by omega) (by omega) (by omega) (Or.inl ⟨rfl, rfl⟩)
theorem un_hi {v : Nat → Nat} {a : Nat} (hz : ∀ h, h < 5 → a ≤ h → v h = 0) : ∀ k, a ≤ k → k ≤ 5 → un v k = un v a
  | 0, h, _ => by rw [show a = 0 by omega]
  | k + 1, h, h5 => by
    by_cases e : a = k + 1
    · rw [e]
    · rw [un, un_hi hz k (by omega) (by omega), hz k (by omega) (by omega), Nat.or_zero]
theorem fknownBut {T : t_D} {v : Nat → Nat} (w : Tw T) {t : k_St} (g : MB T v t) {n : Nat} (hn : 10 ≤ n) (y : Int32) (v2 : Nat → Nat) (hv : ∀ i, i < T 0 4 → (nI i = y ∧ v2 i = 0) ∨ (¬ nI i = y ∧ v2 i = v i)) : f_M_knownBut n t y = some (nI (un v2 (T 0 4))) := by
  have h5 := w.2.2.2.2.1
  have key : ∀ (j f i : Nat), i + j = T 0 4 → j < f → f_M_knownBut_4 n t f y (nI (un v2 i)) (nI i) = some (nI (un v2 (T 0 4))) := by
    intro j
    induction j with
    | zero =>
      intro f i hi hf
      obtain ⟨f, rfl⟩ : ∃ f', f = f' + 1 := ⟨f - 1, by omega⟩
      rw [f_M_knownBut_4, g.1.1 4 (by omega), if_pos (nI_le (by omega) (by omega)), show i = T 0 4 by omega]
    | succ j ih =>
      intro f i hi hf
      obtain ⟨f, rfl⟩ : ∃ f', f = f' + 1 := ⟨f - 1, by omega⟩
      have := ih f (i + 1) (by omega) (by omega)
      rw [un] at this
      rw [f_M_knownBut_4, g.1.1 4 (by omega), if_neg (nI_ge (by omega) (by omega))]
      rcases hv i (by omega) with ⟨e1, e2⟩ | ⟨e1, e2⟩
      · rw [e2, Nat.or_zero] at this
        rw [if_pos e1, klt, klt, Int32.or_zero, nI_1]
        exact this
      · rw [e2] at this
        rw [if_neg e1, kgi (kin (by omega) (by decide)), klt, klt, nI_clamp (by omega), g.2 i (by omega), nI_or, nI_1]
        exact this
  exact key (T 0 4) n 0 (by omega) (by omega)
theorem fknownAll {T : t_D} {v : Nat → Nat} (w : Tw T) {t : k_St} (g : MB T v t) {n : Nat} (hn : 10 ≤ n) : f_M_knownBut n t (-1) = some (nI (un v (T 0 4))) := by
  have h5 := w.2.2.2.2.1
  exact fknownBut w g hn (-1) v (fun i hi => Or.inr ⟨nI_ne_m1 (by omega), rfl⟩)
theorem e_known {T : t_D} {v : Nat → Nat} {x m : k_St} (h : XB T v x) (g : MB T v m) {n : Nat} (hn : big n) : Q2 (f_X_known n x) x (f_M_known n m) m := by
  have w := h.1
  have h5 := w.2.2.2.2.1
  unfold f_X_known f_M_known
  rw [klt (k_sI m 0 0 0), h.2.2.2.1, if_neg (by decide), h.2.2.2.2.1, funionOf (h.2.2.2.2.2.2.2.p8 w) (by omega), kcp, fknownAll w (g.mk (th0 m)) (by omega), kcp, un_hi (fun k hk hk2 => (h.2.2.2.2.2.2.2.1 k hk).2 hk2) 5 (by omega) (by omega)]
  exact Q2.ans (xk.rf x) (th0 m) _
theorem e_alone {T : t_D} {v : Nat → Nat} {x m : k_St} (h : XB T v x) (g : MB T v m) {n : Nat} (hn : big n) (x1 : Int32) : Q2 (f_X_alone n x1 x) x (f_M_alone n x1 m) m := by
  have w := h.1
  have g0 := g.mk (th0 m)
  have h5 := w.2.2.2.2.1
  have hv := h.2.2.2.2.2.2.2.p8 w
  unfold f_X_alone f_M_alone
  rw [klt (k_sI m 0 0 0)]
  rcases house_or w h.2.1 g0.1 x1 with ⟨a, b⟩ | ⟨k, hk, rfl, a, b⟩
  · rw [if_neg (k_bne a), if_pos (k_beq b)]
    exact Q2.ref (xk.rf x) (th0 m) 1 (by decide)
  · have e1 : lN (pk v) &&& (((255 : Int64) <<< (((8 : Int32) * nI k).toInt64 &&& 63)) ^^^ (-1 : Int64)) = lN (pk (vup v k 0)) := by
      rw [l8, pk_mul, show (255 : Int64) = lN 255 from rfl, wb_shl 255 (by omega), m1L, lNxor, lNand, pkv_less hv (by omega) (by omega)]
      simp
    rw [if_pos (k_beq a), if_neg (k_bne b), h.2.2.2.2.1, e1, funionOf (pk8_up hv (by omega)) (by omega), kcp, h.known (by omega), kgi (kin (by omega) (by decide)), nI_clamp (by omega), g0.2 k (by omega)]
    rw [fknownBut w g0 (by omega) (nI k) (vup v k 0) (fun i hi => by
      by_cases e : i = k
      · exact Or.inl ⟨by rw [e], by rw [e]; simp [vup]⟩
      · exact Or.inr ⟨fun e2 => e (nI_inj (by omega) (by omega) e2), by simp [vup, e]⟩), kcp]
    rw [un_hi (v := vup v k 0) (a := T 0 4) (fun i hi hi2 => by unfold vup; rw [if_neg (by omega)]; exact (h.2.2.2.2.2.2.2.1 i hi).2 hi2) 5 (by omega) (by omega)]
    exact Q2.ans (xk.rf x) (th0 m) _
/-- which of the first have a bit -/
def wb (p : Nat → Bool) : Nat → Nat
  | 0 => 0
  | k + 1 => if p k then wb p k ||| 2 ^ k else wb p k
theorem e_piece {T : t_D} {v : Nat → Nat} {x m : k_St} (h : XB T v x) (g : MB T v m) {n : Nat} (hn : big n) (x1 x2 : Int32) : Q2 (f_X_piece n x1 x2 x) x (f_M_piece n x1 x2 m) m := by
  have w := h.1
  have g0 := g.mk (th0 m)
  have h5 := w.2.2.2.2.1
  have hP := w.1.2
  have hv := h.2.2.2.2.2.2.2.p8 w
  unfold f_X_piece f_M_piece
  rw [klt (k_sI m 0 0 0)]
  rcases piece_or w h.2.1 g0.1 x1 with ⟨a, b⟩ | ⟨k, hk, rfl, a, b⟩
  · rw [if_neg (k_bne a), if_pos (k_beq b)]
    exact Q2.ref (xk.rf x) (th0 m) 1 (by decide)
  · rw [if_pos (k_beq a), if_neg (k_bne b)]
    by_cases c0 : x2 = 0
    · subst c0
      rw [if_pos rfl, if_neg (by decide), if_pos rfl, kgi (kin (by omega) (by decide)), kgi (kin (by omega) (by decide)), nI_clamp (by omega), (h.2.1.2.1 k hk).1, (g0.1.2.1 k hk).1]
      exact Q2.ans (xk.rf x) (th0 m) _
    · rw [if_neg c0]
      by_cases c1 : x2 = 1
      · subst c1
        rw [if_pos rfl, if_neg (by decide), if_neg (by decide), if_pos rfl, kgi (kin (by omega) (by decide)), kgi (kin (by omega) (by decide)), nI_clamp (by omega), (h.2.1.2.1 k hk).2, (g0.1.2.1 k hk).2]
        exact Q2.ans (xk.rf x) (th0 m) _
      · rw [if_neg c1]
        by_cases c2 : x2 = 2
        · subst c2
          rw [if_pos rfl, if_neg (by decide), if_neg (by decide), if_neg (by decide), if_pos rfl]
          have kX : ∀ (j f i : Nat), i + j = T 0 2 → j < f → f_Te_followedBy_4 n x f (nI k) (nI (wb (fun q => (T 2 q).testBit k) i)) (nI i) = some (nI (wb (fun q => (T 2 q).testBit k) (T 0 2))) := by
            intro j
            induction j with
            | zero =>
              intro f i hi hf
              obtain ⟨f, rfl⟩ : ∃ f', f = f' + 1 := ⟨f - 1, by omega⟩
              rw [f_Te_followedBy_4, h.2.1.1 2 (by omega), if_pos (nI_le (by omega) (by omega)), show i = T 0 2 by omega]
            | succ j ih =>
              intro f i hi hf
              obtain ⟨f, rfl⟩ : ∃ f', f = f' + 1 := ⟨f - 1, by omega⟩
              have := ih f (i + 1) (by omega) (by omega)
              rw [wb] at this
              rw [f_Te_followedBy_4, h.2.1.1 2 (by omega), if_neg (nI_ge (by omega) (by omega)), fmayFollow w h.2.1 (by omega) (by omega), kcp]
              by_cases hb : (T 2 i).testBit k = true
              · rw [if_pos hb] at this
                rw [if_neg (k_bne hb), klt, klt, nI_shl i (by omega), nI_or, nI_1]
                exact this
              · rw [if_neg hb] at this
                simp only [Bool.not_eq_true] at hb
                rw [if_pos (k_beq hb), klt, nI_1]
                exact this
          have kM : ∀ (j f i : Nat), i + j = T 0 2 → j < f → f_M_piece_75 n f (nI k) (nI (wb (fun q => (T 2 q).testBit k) i)) (nI i) (k_sI m 0 0 0) = k_lt (f_M_good (nI (wb (fun q => (T 2 q).testBit k) (T 0 2))) (k_sI m 0 0 0)) (fun q => some (q.1, q.2)) := by
            intro j
            induction j with
            | zero =>
              intro f i hi hf
              obtain ⟨f, rfl⟩ : ∃ f', f = f' + 1 := ⟨f - 1, by omega⟩
              rw [f_M_piece_75, g0.1.1 2 (by omega), if_pos (nI_le (by omega) (by omega)), show i = T 0 2 by omega]
            | succ j ih =>
              intro f i hi hf
              obtain ⟨f, rfl⟩ : ∃ f', f = f' + 1 := ⟨f - 1, by omega⟩
              have := ih f (i + 1) (by omega) (by omega)
              have hnx := w.next (show i < T 0 2 by omega)
              rw [wb] at this
              rw [f_M_piece_75, g0.1.1 2 (by omega), if_neg (nI_ge (by omega) (by omega)), kgi (kin (by omega) (by decide)), nI_clamp (by omega), (g0.1.2.1 i (by omega)).2, fMbit (by omega) (by omega)]
              by_cases hb : (T 2 i).testBit k = true
              · rw [if_pos hb] at this
                rw [if_neg (k_bne hb), klt, klt, nI_shl i (by omega), nI_or, nI_1]
                exact this
              · rw [if_neg hb] at this
                simp only [Bool.not_eq_true] at hb
                rw [if_pos (k_beq hb), klt, klt, Int32.or_zero, nI_1]
                exact this
          have e1 := kX (T 0 2) n 0 (by omega) (by omega)
          have e2 := kM (T 0 2) n 0 (by omega) (by omega)
          rw [show wb (fun q => (T 2 q).testBit k) 0 = 0 from rfl, nI_0] at e1 e2
          unfold f_Te_followedBy
          rw [e1, kcp, e2]
          exact Q2.ans (xk.rf x) (th0 m) _
        · rw [if_neg c2]
          by_cases c3 : x2 = 3
          · subst c3
            rw [if_pos rfl, if_neg (by decide), if_neg (by decide), if_neg (by decide), if_neg (by decide)]
            have kX : ∀ (j f i : Nat), i + j = T 0 4 → j < f → f_No_whoKnow_4 n x f (nI k) (nI (wb (fun q => (v q).testBit k) i)) (nI i) = some (nI (wb (fun q => (v q).testBit k) (T 0 4))) := by
              intro j
              induction j with
              | zero =>
                intro f i hi hf
                obtain ⟨f, rfl⟩ : ∃ f', f = f' + 1 := ⟨f - 1, by omega⟩
                rw [f_No_whoKnow_4, h.2.2.2.2.2.2.1, if_pos (nI_le (by omega) (by omega)), show i = T 0 4 by omega]
              | succ j ih =>
                intro f i hi hf
                obtain ⟨f, rfl⟩ : ∃ f', f = f' + 1 := ⟨f - 1, by omega⟩
                have := ih f (i + 1) (by omega) (by omega)
                have hvi := hv i (by omega)
                rw [wb] at this
                rw [f_No_whoKnow_4, h.2.2.2.2.2.2.1, if_neg (nI_ge (by omega) (by omega))]
                unfold f_No_isKnown
                rw [h.known (by omega)]
                by_cases hb : (v i).testBit k = true
                · rw [if_pos hb] at this
                  rw [if_neg (show ¬ (nI (v i) >>> (nI k &&& 31)) &&& (1 : Int32) = 0 from fun e => by rw [nI_bit0 (by omega) (by omega)] at e; rw [hb] at e; cases e), if_neg (by decide), klt, klt, nI_shl i (by omega), nI_or, nI_1]
                  exact this
                · rw [if_neg hb] at this
                  simp only [Bool.not_eq_true] at hb
                  rw [if_pos ((nI_bit0 (by omega) (by omega)).mpr hb), if_pos (by decide), klt, nI_1]
                  exact this
            have kM : ∀ (j f i : Nat), i + j = T 0 4 → j < f → f_M_piece_127 n f (nI k) (nI (wb (fun q => (v q).testBit k) i)) (nI i) (k_sI m 0 0 0) = k_lt (f_M_good (nI (wb (fun q => (v q).testBit k) (T 0 4))) (k_sI m 0 0 0)) (fun q => some (q.1, q.2)) := by
              intro j
              induction j with
              | zero =>
                intro f i hi hf
                obtain ⟨f, rfl⟩ : ∃ f', f = f' + 1 := ⟨f - 1, by omega⟩
                rw [f_M_piece_127, g0.1.1 4 (by omega), if_pos (nI_le (by omega) (by omega)), show i = T 0 4 by omega]
              | succ j ih =>
                intro f i hi hf
                obtain ⟨f, rfl⟩ : ∃ f', f = f' + 1 := ⟨f - 1, by omega⟩
                have := ih f (i + 1) (by omega) (by omega)
                have hvi := hv i (by omega)
                rw [wb] at this
                rw [f_M_piece_127, g0.1.1 4 (by omega), if_neg (nI_ge (by omega) (by omega)), kgi (kin (by omega) (by decide)), nI_clamp (by omega), g0.2 i (by omega), fMbit (by omega) (by omega)]
                by_cases hb : (v i).testBit k = true
                · rw [if_pos hb] at this
                  rw [if_neg (k_bne hb), klt, klt, nI_shl i (by omega), nI_or, nI_1]
                  exact this
                · rw [if_neg hb] at this
                  simp only [Bool.not_eq_true] at hb
                  rw [if_pos (k_beq hb), klt, klt, Int32.or_zero, nI_1]
                  exact this
            have e1 := kX (T 0 4) n 0 (by omega) (by omega)
            have e2 := kM (T 0 4) n 0 (by omega) (by omega)
            rw [show wb (fun q => (v q).testBit k) 0 = 0 from rfl, nI_0] at e1 e2
            unfold f_No_whoKnow
            rw [e1, kcp, e2]
            exact Q2.ans (xk.rf x) (th0 m) _
          · rw [if_neg c3]
            have hin : f_M_in x2 0 3 = false := by
              unfold f_M_in
              by_cases hx : x2 < (0 : Int32)
              · rw [if_pos hx]
              · rw [if_neg hx]
                obtain ⟨q, hq, rfl⟩ := nI_of hx
                rcases Nat.lt_or_ge 3 q with h3 | h3
                · rw [if_pos (by rw [l3]; exact nI_lt h3 hq)]
                · exfalso
                  rcases (show q = 0 ∨ q = 1 ∨ q = 2 ∨ q = 3 by omega) with rfl | rfl | rfl | rfl
                  · exact c0 rfl
                  · exact c1 rfl
                  · exact c2 rfl
                  · exact c3 rfl
            rw [hin, if_pos (show k_b false = 0 by decide)]
            exact Q2.ref (xk.rf x) (th0 m) 1 (by decide)
theorem e_house {T : t_D} {v : Nat → Nat} {x m : k_St} (h : XB T v x) (g : MB T v m) {n : Nat} (hn : big n) (x1 x2 : Int32) : Q2 (f_X_house n x1 x2 x) x (f_M_house n x1 x2 m) m := by
  have w := h.1
  have g0 := g.mk (th0 m)
  have h5 := w.2.2.2.2.1
  have h6 := w.2.2.2.2.2.2.1
  have h32 : 2 ^ T 0 4 ≤ 2 ^ 5 := Nat.pow_le_pow_right (by omega) h5
  have hv := h.2.2.2.2.2.2.2.p8 w
  unfold f_X_house f_M_house
  rw [klt (k_sI m 0 0 0)]
  rcases house_or w h.2.1 g0.1 x1 with ⟨a, b⟩ | ⟨k, hk, rfl, a, b⟩
  · rw [if_neg (k_bne a), if_pos (k_beq b)]
    exact Q2.ref (xk.rf x) (th0 m) 1 (by decide)
  · have hx := h.2.1.2.2.1 k hk
    have hmm := g0.1.2.2.1 k hk
    have hvk := hv k (by omega)
    rw [if_pos (k_beq a), if_neg (k_bne b)]
    by_cases c0 : x2 = 0
    · subst c0
      rw [if_pos rfl, if_neg (show ¬ k_b (f_M_in 0 0 5) = 0 by decide), if_pos rfl, kgi (kin (by omega) (by decide)), kgi (kin (by omega) (by decide)), nI_clamp (by omega), hx.1, hmm.1]
      exact Q2.ans (xk.rf x) (th0 m) _
    rw [if_neg c0]
    by_cases c1 : x2 = 1
    · subst c1
      rw [if_pos rfl, if_neg (show ¬ k_b (f_M_in 1 0 5) = 0 by decide), if_neg c0, if_pos rfl, kgi (kin (by omega) (by decide)), kgi (kin (by omega) (by decide)), nI_clamp (by omega), hx.2.1, hmm.2.1]
      exact Q2.ans (xk.rf x) (th0 m) _
    rw [if_neg c1]
    by_cases c2 : x2 = 2
    · subst c2
      rw [if_pos rfl, if_neg (show ¬ k_b (f_M_in 2 0 5) = 0 by decide), if_neg c0, if_neg c1, if_pos rfl, kgi (kin (by omega) (by decide)), kgi (kin (by omega) (by decide)), nI_clamp (by omega), hx.2.2.1, hmm.2.2.1]
      exact Q2.ans (xk.rf x) (th0 m) _
    rw [if_neg c2]
    by_cases c3 : x2 = 3
    · subst c3
      rw [if_pos rfl, if_neg (show ¬ k_b (f_M_in 3 0 5) = 0 by decide), if_neg c0, if_neg c1, if_neg c2, if_pos rfl, kgi (kin (by omega) (by decide)), nI_clamp (by omega), h.known (by omega), g0.2 k (by omega)]
      exact Q2.ans (xk.rf x) (th0 m) _
    rw [if_neg c3]
    by_cases c4 : x2 = 4
    · subst c4
      rw [if_pos rfl, if_neg (show ¬ k_b (f_M_in 4 0 5) = 0 by decide), if_neg c0, if_neg c1, if_neg c2, if_neg c3, if_pos rfl, h.2.1.1 6 (by omega), g0.1.1 6 (by omega), fMbit (by omega) (by omega), nI_bit (by omega) (by omega)]
      by_cases hb : (T 0 6).testBit k = true
      · rw [if_neg (k_bne hb), if_pos hb]
        exact Q2.ans (xk.rf x) (th0 m) _
      · rw [if_neg hb]
        simp only [Bool.not_eq_true] at hb
        rw [if_pos (k_beq hb)]
        exact Q2.ans (xk.rf x) (th0 m) _
    rw [if_neg c4]
    by_cases c5 : x2 = 5
    · subst c5
      obtain ⟨u, e, hz⟩ := fhasTale w (show v k < 2 ^ 31 by omega) hn g0.1
      rw [if_pos rfl, if_neg (show ¬ k_b (f_M_in 5 0 5) = 0 by decide), if_neg c0, if_neg c1, if_neg c2, if_neg c3, if_neg c4, fhasSense h (by omega) (by omega), kcp, kgi (kin (by omega) (by decide)), nI_clamp (by omega), g0.2 k (by omega), e, kcl]
      by_cases he : (ta_all T (v k)).isEmpty = true
      · rw [if_pos (k_beq (by rw [he]; rfl)), if_pos (k_beq (by rw [he]; rfl))]
        exact Q2.ans (xk.rf x) ((th0 m).tr hz.mk) _
      · simp only [Bool.not_eq_true] at he
        rw [if_neg (k_bne (by rw [he]; rfl)), if_neg (k_bne (by rw [he]; rfl))]
        exact Q2.ans (xk.rf x) ((th0 m).tr hz.mk) _
    rw [if_neg c5]
    have hin : f_M_in x2 0 5 = false := by
      unfold f_M_in
      by_cases hx : x2 < (0 : Int32)
      · rw [if_pos hx]
      · rw [if_neg hx]
        obtain ⟨q, hq, rfl⟩ := nI_of hx
        rcases Nat.lt_or_ge 5 q with h3 | h3
        · rw [if_pos (by rw [l5]; exact nI_lt h3 hq)]
        · exfalso
          rcases (show q = 0 ∨ q = 1 ∨ q = 2 ∨ q = 3 ∨ q = 4 ∨ q = 5 by omega) with rfl | rfl | rfl | rfl | rfl | rfl
          · exact c0 rfl
          · exact c1 rfl
          · exact c2 rfl
          · exact c3 rfl
          · exact c4 rfl
          · exact c5 rfl
    rw [hin, if_pos (show k_b false = 0 by decide)]
    exact Q2.ref (xk.rf x) (th0 m) 1 (by decide)
