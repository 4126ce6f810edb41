/-! ===== two fathers ===== -/
theorem gets_eq (a b c : Int32) : f_M_gets a b c = f_Fa_has a b c := by
  unfold f_M_gets f_Fa_has
  by_cases h : b ≤ c
  · rw [if_pos h]
    by_cases e : b = c
    · subst e
      rw [if_pos rfl, if_pos h, if_pos h]
    · rw [if_neg e, if_neg (fun q => e (Int32.le_antisymm h q))]
  · rw [if_neg h, if_pos (Int32.le_of_lt (Int32.not_le.mp h)), if_neg h]
def bst (w a b : Int32) (i : Nat) : Bool := decide (f_Fa_has w (nI i) b ≤ f_Fa_has w a b)
def rst (w a b : Int32) : Bool := (List.range 7).all (bst w a b) && (List.range 7).all (bst w b a)
theorem rng_cons {i N : Nat} (h : i < N) : List.range' i (N - i) = i :: List.range' (i + 1) (N - (i + 1)) := by
  rw [show N - i = (N - (i + 1)) + 1 by omega, List.range'_succ]
theorem rng_nil {i N : Nat} (h : N ≤ i) : List.range' i (N - i) = [] := by rw [show N - i = 0 by omega]; rfl
theorem fisBest {n : Nat} (hn : 10 ≤ n) (w a b : Int32) : f_Fa_isBest n w a b = some ((List.range 7).all (bst w a b)) := by
  have key : ∀ (k i : Nat), i ≤ 7 → 7 - i < k → f_Fa_isBest_2 n k w a b (nI i) = some ((List.range' i (7 - i)).all (bst w a b)) := by
    intro k
    induction k with
    | zero => intro i _ h; omega
    | succ k ih =>
      intro i hi hk
      rw [f_Fa_isBest_2]
      rcases Nat.lt_or_ge i 7 with h | h
      · rw [if_neg (by rw [l6]; exact nI_nlt (by omega) (by omega)), rng_cons h, List.all_cons]
        by_cases hb : f_Fa_has w (nI i) b ≤ f_Fa_has w a b
        · rw [if_pos hb, klt, nI_1, ih (i + 1) (by omega) (by omega)]
          simp [bst, hb]
        · rw [if_neg hb]
          simp [bst, hb]
      · rw [if_pos (by rw [l6]; exact nI_lt (by omega) (by omega)), rng_nil h]; rfl
  rw [List.range_eq_range']
  exact key n 0 (by omega) (by omega)
theorem fisRest {n : Nat} (hn : 10 ≤ n) (w a b : Int32) : f_Fa_isRest n w a b = some (rst w a b) := by
  unfold f_Fa_isRest
  rw [fisBest hn, kcp, fisBest hn, kcp]
  unfold rst
  by_cases h1 : (List.range 7).all (bst w a b) = true
  · rw [h1, if_neg (by decide)]
    by_cases h2 : (List.range 7).all (bst w b a) = true
    · rw [h2, if_neg (by decide)]; rfl
    · simp only [Bool.not_eq_true] at h2
      rw [h2, if_pos (by decide)]; rfl
  · simp only [Bool.not_eq_true] at h1
    rw [h1, if_pos (by decide)]; rfl
theorem fMisRest {n : Nat} (hn : 10 ≤ n) (w a b : Int32) : f_M_isRest n w a b = some (rst w a b) := by
  have key : ∀ (k i : Nat), i ≤ 7 → 7 - i < k → f_M_isRest_2 n k w a b (nI i) = some ((List.range' i (7 - i)).all (bst w a b) && (List.range' i (7 - i)).all (bst w b a)) := by
    intro k
    induction k with
    | zero => intro i _ h; omega
    | succ k ih =>
      intro i hi hk
      rw [f_M_isRest_2]
      simp only [gets_eq]
      rcases Nat.lt_or_ge i 7 with h | h
      · rw [if_neg (by rw [l7]; exact nI_ge (by omega) (by omega)), rng_cons h, List.all_cons, List.all_cons]
        by_cases hb : f_Fa_has w (nI i) b ≤ f_Fa_has w a b
        · rw [if_neg (Int32.not_lt.mpr hb)]
          by_cases hb2 : f_Fa_has w (nI i) a ≤ f_Fa_has w b a
          · rw [if_pos hb2, klt, nI_1, ih (i + 1) (by omega) (by omega)]
            simp [bst, hb, hb2]
          · rw [if_neg hb2]
            simp [bst, hb, hb2]
        · rw [if_pos (Int32.not_le.mp hb)]
          simp [bst, hb]
      · rw [if_pos (by rw [l7]; exact nI_le (by omega) (by omega)), rng_nil h]; rfl
  unfold rst
  rw [List.range_eq_range']
  exact key n 0 (by omega) (by omega)
def rw2 (w : Int32) (p : Nat × Nat) : Bool := rst w (nI p.1) (nI p.2)
def prs : List (Nat × Nat) := (List.range 49).map (fun k => (k / 7, k % 7))
theorem prs_eq : prs = (List.range' 0 7).flatMap (fun a => (List.range' 0 7).map (fun b => (a, b))) := by decide
theorem fcount12 {n : Nat} (hn : 10 ≤ n) (w : Int32) (rec4 : Int32 → Int32 → Int32 → Option Int32) (a : Nat) (ha : a < 7) : ∀ (k b c : Nat), b ≤ 7 → 7 - b < k → f_Fa_countRests_12 n rec4 k w (nI c) (nI a) (nI b) = rec4 w (nI (c + ((List.range' b (7 - b)).map (fun b => (a, b))).countP (rw2 w))) (nI (a + 1)) := by
  intro k
  induction k with
  | zero => intro b c _ h; omega
  | succ k ih =>
    intro b c hb hk
    rw [f_Fa_countRests_12]
    rcases Nat.lt_or_ge b 7 with h | h
    · rw [if_neg (by rw [l6]; exact nI_nlt (by omega) (by omega)), fisRest hn, kcp, rng_cons h, List.map_cons, List.countP_cons]
      by_cases hr : rst w (nI a) (nI b) = true
      · rw [if_neg (k_bne hr), klt, klt, nI_1, nI_1, ih (b + 1) (c + 1) (by omega) (by omega), if_pos (show rw2 w (a, b) = true from hr)]
        congr 2; omega
      · simp only [Bool.not_eq_true] at hr
        rw [if_pos (k_beq hr), klt, nI_1, ih (b + 1) c (by omega) (by omega), if_neg (show ¬ rw2 w (a, b) = true by rw [show rw2 w (a, b) = false from hr]; decide)]
        rfl
    · rw [if_pos (by rw [l6]; exact nI_lt (by omega) (by omega)), rng_nil h, klt, nI_1]; rfl
theorem fcountRests {n : Nat} (hn : 10 ≤ n) (w : Int32) : f_Fa_countRests n w = some (nI (prs.countP (rw2 w))) := by
  have key : ∀ (k a c : Nat), a ≤ 7 → 7 - a < k → f_Fa_countRests_4 n k w (nI c) (nI a) = some (nI (c + ((List.range' a (7 - a)).flatMap (fun a => (List.range' 0 7).map (fun b => (a, b)))).countP (rw2 w))) := by
    intro k
    induction k with
    | zero => intro a c _ h; omega
    | succ k ih =>
      intro a c ha hk
      rw [f_Fa_countRests_4]
      rcases Nat.lt_or_ge a 7 with h | h
      · have := fcount12 hn w (f_Fa_countRests_4 n k) a h n 0 c (by omega) (by omega)
        rw [nI_0, Nat.sub_zero] at this
        rw [if_neg (by rw [l6]; exact nI_nlt (by omega) (by omega)), this, ih (a + 1) _ (by omega) (by omega), rng_cons h, List.flatMap_cons, List.countP_append]
        congr 2; omega
      · rw [if_pos (by rw [l6]; exact nI_lt (by omega) (by omega)), rng_nil h]; rfl
  have := key n 0 0 (by omega) (by omega)
  rw [Nat.zero_add] at this
  rw [prs_eq]
  exact this
theorem nI_div7 {i : Nat} (h : i < 2 ^ 31) : nI i / (7 : Int32) = nI (i / 7) := pk_div h (by decide) (by decide)
theorem nI_mod7 {i : Nat} (h : i < 2 ^ 31) : nI i - nI i / (7 : Int32) * (7 : Int32) = nI (i % 7) := pk_rem h (by decide) (by decide)
theorem fMrests26 {n : Nat} (hn : 60 ≤ n) (w : Int32) (t : k_St) : ∀ (k i c : Nat), i ≤ 49 → 49 - i < k → f_M_rests_26 n k w (nI c) (nI i) t = k_lt (f_M_good (nI (c + ((List.range' i (49 - i)).map (fun k => (k / 7, k % 7))).countP (rw2 w))) t) (fun q => some (q.1, q.2)) := by
  intro k
  induction k with
  | zero => intro i c _ h; omega
  | succ k ih =>
    intro i c hi hk
    rw [f_M_rests_26]
    rcases Nat.lt_or_ge i 49 with h | h
    · rw [if_neg (by rw [show (49 : Int32) = nI 49 from rfl]; exact nI_ge (by omega) (by omega)), nI_mod7 (by omega), nI_div7 (by omega), fMisRest (by omega), kcp, rng_cons h, List.map_cons, List.countP_cons]
      by_cases hr : rst w (nI (i / 7)) (nI (i % 7)) = true
      · rw [if_neg (k_bne hr), klt, klt, nI_1, nI_1, ih (i + 1) (c + 1) (by omega) (by omega), if_pos (show rw2 w (i / 7, i % 7) = true from hr)]
        congr 3; omega
      · simp only [Bool.not_eq_true] at hr
        rw [if_pos (k_beq hr), klt, klt, Int32.add_zero, nI_1, ih (i + 1) c (by omega) (by omega), if_neg (show ¬ rw2 w (i / 7, i % 7) = true by rw [show rw2 w (i / 7, i % 7) = false from hr]; decide)]
        rfl
    · rw [if_pos (by rw [show (49 : Int32) = nI 49 from rfl]; exact nI_le (by omega) (by omega)), rng_nil h]; rfl
def ffst (w : Int32) (l : List (Nat × Nat)) : Int32 := match l.find? (rw2 w) with
  | none => -2
  | some p => nI (10 * p.1 + p.2)
theorem ffirst10 {n : Nat} (hn : 10 ≤ n) (w : Int32) (rec2 : Int32 → Int32 → Option Int32) (a : Nat) (ha : a < 7) (rest : List (Nat × Nat)) (hrec : rec2 w (nI (a + 1)) = some (ffst w rest)) : ∀ (k b : Nat), b ≤ 7 → 7 - b < k → f_Fa_firstRest_10 n rec2 k w (nI a) (nI b) = some (ffst w ((List.range' b (7 - b)).map (fun b => (a, b)) ++ rest)) := by
  intro k
  induction k with
  | zero => intro b _ h; omega
  | succ k ih =>
    intro b hb hk
    rw [f_Fa_firstRest_10]
    rcases Nat.lt_or_ge b 7 with h | h
    · rw [if_neg (by rw [l6]; exact nI_nlt (by omega) (by omega)), fisRest hn, kcp, rng_cons h, List.map_cons, List.cons_append]
      by_cases hr : rst w (nI a) (nI b) = true
      · rw [if_neg (k_bne hr), l10, pk_mul, nI_add]
        unfold ffst
        rw [List.find?_cons, show rw2 w (a, b) = true from hr]
      · simp only [Bool.not_eq_true] at hr
        rw [if_pos (k_beq hr), klt, nI_1, ih (b + 1) (by omega) (by omega)]
        unfold ffst
        rw [List.find?_cons, show rw2 w (a, b) = false from hr]
    · rw [if_pos (by rw [l6]; exact nI_lt (by omega) (by omega)), rng_nil h, klt, nI_1, hrec]; rfl
theorem ffirstRest {n : Nat} (hn : 10 ≤ n) (w : Int32) : f_Fa_firstRest n w = some (ffst w prs) := by
  have key : ∀ (k a : Nat), a ≤ 7 → 7 - a < k → f_Fa_firstRest_2 n k w (nI a) = some (ffst w ((List.range' a (7 - a)).flatMap (fun a => (List.range' 0 7).map (fun b => (a, b))))) := by
    intro k
    induction k with
    | zero => intro a _ h; omega
    | succ k ih =>
      intro a ha hk
      rw [f_Fa_firstRest_2]
      rcases Nat.lt_or_ge a 7 with h | h
      · have := ffirst10 hn w (f_Fa_firstRest_2 n k) a h _ (ih (a + 1) (by omega) (by omega)) n 0 (by omega) (by omega)
        rw [nI_0, Nat.sub_zero] at this
        rw [if_neg (by rw [l6]; exact nI_nlt (by omega) (by omega)), this, rng_cons h, List.flatMap_cons]
      · rw [if_pos (by rw [l6]; exact nI_lt (by omega) (by omega)), rng_nil h]; rfl
  rw [prs_eq]
  exact key n 0 (by omega) (by omega)
theorem fMrest23 {n : Nat} (hn : 60 ≤ n) (w : Int32) (t : k_St) : ∀ (k i : Nat), i ≤ 49 → 49 - i < k → f_M_rest_23 n k w (nI i) t = k_lt (f_M_good (ffst w ((List.range' i (49 - i)).map (fun k => (k / 7, k % 7)))) t) (fun q => some (q.1, q.2)) := by
  intro k
  induction k with
  | zero => intro i _ h; omega
  | succ k ih =>
    intro i hi hk
    rw [f_M_rest_23]
    rcases Nat.lt_or_ge i 49 with h | h
    · rw [if_neg (by rw [show (49 : Int32) = nI 49 from rfl]; exact nI_ge (by omega) (by omega)), nI_mod7 (by omega), nI_div7 (by omega), fMisRest (by omega), kcp, rng_cons h, List.map_cons]
      by_cases hr : rst w (nI (i / 7)) (nI (i % 7)) = true
      · rw [if_neg (k_bne hr), l10, pk_mul, nI_add]
        unfold ffst
        rw [List.find?_cons, show rw2 w (i / 7, i % 7) = true from hr]
      · simp only [Bool.not_eq_true] at hr
        rw [if_pos (k_beq hr), klt, nI_1, ih (i + 1) (by omega) (by omega)]
        unfold ffst
        rw [List.find?_cons, show rw2 w (i / 7, i % 7) = false from hr]
    · rw [if_pos (by rw [show (49 : Int32) = nI 49 from rfl]; exact nI_le (by omega) (by omega)), rng_nil h]; rfl
theorem worth_or {x m : k_St} (hs : x.1 0 10 = 1) (x1 : Int32) : (f_X_whyNoHour x x1 = 0 ∧ f_M_refusesWorth m x1 = 0) ∨ (f_X_whyNoHour x x1 = 2 ∧ f_M_refusesWorth m x1 = 2) := by
  unfold f_X_whyNoHour f_M_refusesWorth f_M_in
  rw [hs, if_neg (by decide)]
  by_cases h : x1 < 0
  · right; rw [if_pos h, if_pos (show x1 < (0 : Int32) from h)]; exact ⟨rfl, rfl⟩
  · rw [if_neg h, if_neg (show ¬ x1 < (0 : Int32) from h)]
    by_cases h2 : x1 ≤ 20
    · left; rw [if_pos h2, if_neg (Int32.not_lt.mpr h2)]; exact ⟨rfl, rfl⟩
    · right; rw [if_neg h2, if_pos (Int32.not_le.mp h2)]; exact ⟨rfl, rfl⟩
theorem e_rests {x m : k_St} (hs : x.1 0 10 = 1) {n : Nat} (hn : big n) (x1 : Int32) : Q2 (f_X_rests n x1 x) x (f_M_rests n x1 m) m := by
  unfold f_X_rests f_M_rests
  rw [klt (k_sI m 0 0 0), klt (f_X_whyNoHour x x1), klt (f_M_refusesWorth (k_sI m 0 0 0) x1)]
  rcases worth_or (m := k_sI m 0 0 0) hs x1 with ⟨a, b⟩ | ⟨a, b⟩
  · rw [a, b, if_pos rfl, if_pos (by decide), fcountRests (by omega), kcp]
    have := fMrests26 (n := n) (by omega) x1 (k_sI m 0 0 0) n 0 0 (by omega) (by omega)
    rw [Nat.zero_add, Nat.sub_zero, ← List.range_eq_range', nI_0] at this
    rw [this]
    exact Q2.ans (xk.rf x) (th0 m) _
  · rw [a, b, if_neg (by decide), if_neg (by decide)]
    exact Q2.ref (xk.rf x) (th0 m) 2 (by decide)
theorem e_rest {x m : k_St} (hs : x.1 0 10 = 1) {n : Nat} (hn : big n) (x1 : Int32) : Q2 (f_X_rest n x1 x) x (f_M_rest n x1 m) m := by
  unfold f_X_rest f_M_rest
  rw [klt (k_sI m 0 0 0), klt (f_X_whyNoHour x x1), klt (f_M_refusesWorth (k_sI m 0 0 0) x1)]
  rcases worth_or (m := k_sI m 0 0 0) hs x1 with ⟨a, b⟩ | ⟨a, b⟩
  · rw [a, b, if_pos rfl, if_pos (by decide), ffirstRest (by omega), kcp]
    have := fMrest23 (n := n) (by omega) x1 (k_sI m 0 0 0) n 0 (by omega) (by omega)
    rw [Nat.sub_zero, ← List.range_eq_range', nI_0] at this
    rw [this]
    exact Q2.ans (xk.rf x) (th0 m) _
  · rw [a, b, if_neg (by decide), if_neg (by decide)]
    exact Q2.ref (xk.rf x) (th0 m) 2 (by decide)
theorem pay_or (x2 : Int32) : (f_X_noPayment x2 = true ∧ f_M_in x2 0 6 = false) ∨ (f_X_noPayment x2 = false ∧ f_M_in x2 0 6 = true) := by
  unfold f_X_noPayment f_M_in
  by_cases h : x2 < 0
  · left; rw [if_pos h, if_pos (show x2 < (0 : Int32) from h)]; exact ⟨rfl, rfl⟩
  · rw [if_neg h, if_neg (show ¬ x2 < (0 : Int32) from h)]
    by_cases h2 : x2 ≤ 6
    · right; rw [if_pos h2, if_neg (Int32.not_lt.mpr h2)]; exact ⟨rfl, rfl⟩
    · left; rw [if_neg h2, if_pos (Int32.not_le.mp h2)]; exact ⟨rfl, rfl⟩
theorem AX.tot {α : Type} {f : α × k_St} {x y : k_St} {v : α} {τ : Int32} (h : f = (v, y)) (a : xk x y) (b : y.1 0 12 = τ) : AX (some f) x v τ := ⟨y, by rw [h], a, b⟩
theorem e_father {x m : k_St} (hs : x.1 0 10 = 1) (x1 x2 x3 x4 : Int32) : Q2 (some (f_X_father x1 x2 x3 x4 x)) x (some (f_M_father x1 x2 x3 x4 m)) m := by
  have bad : ∀ τ : Int32, τ ≠ 4 → τ ≠ 0 → ¬ τ ≤ 0 → Q2 (some (f_X_father_29 x1 x2 x3 x4 τ x)) x (some (f_M_father_40 x1 x2 x3 x4 τ (k_sI m 0 0 0))) m := by
    intro τ h4 h0 hle
    refine ⟨-100, τ, ⟨k_sI x 0 12 τ, ?_, xk.t12 _ _, by rw [sI1, if_pos ⟨rfl, rfl⟩]⟩, ⟨k_sI (k_sI (k_sI m 0 0 0) 0 1 τ) 0 2 (-1), ?_, (th0 m).gd τ, by rw [sI1, if_neg (by simp), sI1, if_pos ⟨rfl, rfl⟩], by rw [sI1, if_pos ⟨rfl, rfl⟩]⟩, h4⟩
    · unfold f_X_father_29; rw [if_neg h0]; rfl
    · unfold f_M_father_40; rw [if_neg hle]; rfl
  have good : Q2 (some (f_X_father_29 x1 x2 x3 x4 0 x)) x (some (f_M_father_40 x1 x2 x3 x4 0 (k_sI m 0 0 0))) m := by
    unfold f_X_father_29 f_M_father_40
    rw [if_pos rfl, if_pos (show (0 : Int32) ≤ 0 by decide)]
    simp only [gets_eq]
    by_cases h4 : x4 = 0
    · rw [if_pos h4, if_pos h4]
      exact Q2.ans (xk.rf x) (th0 m) _
    · rw [if_neg h4, if_neg h4]
      exact Q2.ans (xk.rf x) (th0 m) _
  unfold f_X_father f_M_father
  rw [klt (k_sI m 0 0 0), klt (f_X_whyNoHour x x1), klt (f_M_refusesWorth (k_sI m 0 0 0) x1)]
  rcases worth_or (m := k_sI m 0 0 0) hs x1 with ⟨a, b⟩ | ⟨a, b⟩
  · rw [a, b, if_pos rfl, if_pos rfl]
    rcases pay_or x2 with ⟨c, d⟩ | ⟨c, d⟩
    · rw [if_neg (k_bne c), if_pos (k_beq d)]
      exact bad 2 (by decide) (by decide) (by decide)
    · rw [if_pos (k_beq c), if_neg (k_bne d)]
      rcases pay_or x3 with ⟨c, d⟩ | ⟨c, d⟩
      · rw [if_neg (k_bne c), if_pos (k_beq d)]
        exact bad 2 (by decide) (by decide) (by decide)
      · rw [if_pos (k_beq c), if_neg (k_bne d)]
        exact good
  · rw [a, b, if_neg (by decide), if_neg (by decide)]
    exact bad 2 (by decide) (by decide) (by decide)
