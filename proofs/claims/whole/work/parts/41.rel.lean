/-! ===== what calls leave alone, and what they answer ===== -/
def xk (x y : k_St) : Prop := (∀ o k, ((o = 0 ∧ k ≠ 12) ∨ o = 1 ∨ (2 ≤ o ∧ o ≤ 9) ∨ (18 ≤ o ∧ o ≤ 23) ∨ (o = 24 ∧ k ≠ 5) ∨ o = 25 ∨ (27 ≤ o ∧ o ≤ 32) ∨ o = 34) → y.1 o k = x.1 o k) ∧ ∀ o k, 34 ≤ o → y.2 o k = x.2 o k
def mk (m u : k_St) : Prop := ∀ o k, ((o = 0 ∧ (k = 6 ∨ k = 12 ∨ k = 19 ∨ k = 20)) ∨ o = 1 ∨ o = 2 ∨ o = 4 ∨ o = 5 ∨ (18 ≤ o ∧ o ≤ 25)) → u.1 o k = m.1 o k
theorem xk.rf (x : k_St) : xk x x := ⟨fun _ _ _ => rfl, fun _ _ _ => rfl⟩
theorem xk.tr {x y z : k_St} (h : xk x y) (g : xk y z) : xk x z := ⟨fun o k a => (g.1 o k a).trans (h.1 o k a), fun o k a => (g.2 o k a).trans (h.2 o k a)⟩
theorem mk.rf (m : k_St) : mk m m := fun _ _ _ => rfl
theorem mk.tr {m u v : k_St} (h : mk m u) (g : mk u v) : mk m v := fun o k a => (g o k a).trans (h o k a)
theorem mz.mk {m u : k_St} (h : mz m u) : mk m u := fun o k a => h.2 o k (by omega) (by omega) (by omega)
theorem xk.t12 (x : k_St) (v : Int32) : xk x (k_sI x 0 12 v) := ⟨fun o k a => by rw [sI1, if_neg (by omega)], fun _ _ _ => rfl⟩
theorem mk.set (m : k_St) (o j : Nat) (v : Int32) (h : (o = 0 ∧ j ≠ 6 ∧ j ≠ 12 ∧ j ≠ 19 ∧ j ≠ 20) ∨ o = 3 ∨ (6 ≤ o ∧ o ≤ 17)) : mk m (k_sI m o j v) := fun o' k a => by rw [sI1, if_neg (by omega)]
def AX {α : Type} (f : Option (α × k_St)) (x : k_St) (v : α) (τ : Int32) : Prop := ∃ y, f = some (v, y) ∧ xk x y ∧ y.1 0 12 = τ
def AM {α : Type} (f : Option (α × k_St)) (m : k_St) (v : α) (τ : Int32) : Prop := ∃ u, f = some (v, u) ∧ mk m u ∧ u.1 0 1 = τ ∧ u.1 0 2 = -1
def Q2 {α : Type} (fX : Option (α × k_St)) (x : k_St) (fM : Option (α × k_St)) (m : k_St) : Prop := ∃ v τ, AX fX x v τ ∧ AM fM m v τ ∧ τ ≠ 4
theorem AX.ref {x y : k_St} (h : xk x y) (τ : Int32) : AX (k_lt (f_X_refuse τ y) (fun q => some (q.1, q.2))) x (-1) τ := ⟨_, rfl, h.tr (xk.t12 _ _), by show (k_sI y 0 12 τ).1 0 12 = τ; rw [sI1, if_pos ⟨rfl, rfl⟩]⟩
theorem AX.ans {x y : k_St} (h : xk x y) (v : Int32) : AX (k_lt (f_X_answer v y) (fun q => some (q.1, q.2))) x v 0 := ⟨_, rfl, h.tr (xk.t12 _ _), by show (k_sI y 0 12 0).1 0 12 = 0; rw [sI1, if_pos ⟨rfl, rfl⟩]⟩
theorem AX.deny {x y : k_St} (h : xk x y) (τ : Int32) : AX (k_lt (f_X_deny τ y) (fun q => some (q.1, q.2))) x false τ := ⟨_, rfl, h.tr (xk.t12 _ _), by show (k_sI y 0 12 τ).1 0 12 = τ; rw [sI1, if_pos ⟨rfl, rfl⟩]⟩
theorem mk.gd {m u : k_St} (h : mk m u) (τ : Int32) : mk m (k_sI (k_sI u 0 1 τ) 0 2 (-1)) := (h.tr (mk.set u 0 1 τ (by omega))).tr (mk.set _ 0 2 _ (by omega))
theorem AM.ref {m u : k_St} (h : mk m u) (τ : Int32) : AM (k_lt (f_M_refused τ u) (fun q => some (q.1, q.2))) m (-1) τ := ⟨_, rfl, h.gd τ, by show (k_sI (k_sI u 0 1 τ) 0 2 (-1)).1 0 1 = τ; rw [sI1, if_neg (by simp), sI1, if_pos ⟨rfl, rfl⟩], by show (k_sI (k_sI u 0 1 τ) 0 2 (-1)).1 0 2 = -1; rw [sI1, if_pos ⟨rfl, rfl⟩]⟩
theorem AM.good {m u : k_St} (h : mk m u) (v : Int32) : AM (k_lt (f_M_good v u) (fun q => some (q.1, q.2))) m v 0 := ⟨_, rfl, h.gd 0, by show (k_sI (k_sI u 0 1 0) 0 2 (-1)).1 0 1 = 0; rw [sI1, if_neg (by simp), sI1, if_pos ⟨rfl, rfl⟩], by show (k_sI (k_sI u 0 1 0) 0 2 (-1)).1 0 2 = -1; rw [sI1, if_pos ⟨rfl, rfl⟩]⟩
theorem Q2.ref {x y m u : k_St} (h : xk x y) (g : mk m u) (τ : Int32) (ht : τ ≠ 4) : Q2 (k_lt (f_X_refuse τ y) (fun q => some (q.1, q.2))) x (k_lt (f_M_refused τ u) (fun q => some (q.1, q.2))) m := ⟨-1, τ, AX.ref h τ, AM.ref g τ, ht⟩
theorem Q2.ans {x y m u : k_St} (h : xk x y) (g : mk m u) (v : Int32) : Q2 (k_lt (f_X_answer v y) (fun q => some (q.1, q.2))) x (k_lt (f_M_good v u) (fun q => some (q.1, q.2))) m := ⟨v, 0, AX.ans h v, AM.good g v, by decide⟩
/-! ===== the class and the reference with a TERRACE ===== -/
def allp (T : t_D) : Nat := 2 ^ T 0 2 - 1
theorem allp_bit (T : t_D) : ∀ p, p < T 0 2 → (allp T).testBit p = true := by
  intro p hp
  rw [allp, Nat.testBit_two_pow_sub_one]
  simp [hp]
def nvok (T : t_D) (v : Nat → Nat) : Prop := (∀ h, h < 5 → v h < 2 ^ T 0 2 ∧ (T 0 4 ≤ h → v h = 0)) ∧ v 5 < 65537
def XB (T : t_D) (v : Nat → Nat) (x : k_St) : Prop := Tw T ∧ XT T x ∧ TB x (ta_all T (allp T)) ∧ x.1 0 10 = 1 ∧ x.2 34 0 = lN (pk v) ∧ x.1 34 1 = nI (v 5) ∧ x.1 34 4 = nI (T 0 4) ∧ nvok T v
def MB (T : t_D) (v : Nat → Nat) (m : k_St) : Prop := MTT T m ∧ ∀ h, h < 6 → m.1 2 h = nI (v h)
theorem MB.mk {T : t_D} {v : Nat → Nat} {m u : k_St} (h : MB T v m) (e : mk m u) : MB T v u := ⟨h.1.same (fun o k a b => e o k (by omega)), fun k hk => by rw [e 2 k (by omega)]; exact h.2 k hk⟩
theorem XB.xk {T : t_D} {v : Nat → Nat} {x y : k_St} (h : XB T v x) (e : xk x y) : XB T v y :=
  ⟨h.1, h.2.1.same (fun o k a b => e.1 o k (by omega)), h.2.2.1.same (fun o k a b => e.1 o k (by omega)), by rw [e.1 0 10 (by omega)]; exact h.2.2.2.1, by rw [e.2 34 0 (by omega)]; exact h.2.2.2.2.1, by rw [e.1 34 1 (by omega)]; exact h.2.2.2.2.2.1, by rw [e.1 34 4 (by omega)]; exact h.2.2.2.2.2.2.1, h.2.2.2.2.2.2.2⟩
theorem nvok.p8 {T : t_D} (w : Tw T) {v : Nat → Nat} (h : nvok T v) : pk8 v := fun k hk => by have := (h.1 k hk).1; have := w.pow; omega
theorem XB.known {T : t_D} {v : Nat → Nat} {x : k_St} (h : XB T v x) {k : Nat} (hk : k < 5) : f_No_knownBy x (nI k) = nI (v k) := by
  unfold f_No_knownBy
  rw [h.2.2.2.2.1, fpart (h.2.2.2.2.2.2.2.p8 h.1) hk]
theorem XB.rows {T : t_D} {v : Nat → Nat} {x : k_St} (h : XB T v x) : TR T (ta_all T (allp T)) := fun r hr => ta_all_row h.1 hr
theorem XB.all {T : t_D} {v : Nat → Nat} {x : k_St} (h : XB T v x) (S : Nat) : ta_all T S = (ta_all T (allp T)).filter (ta_in S) := ta_all_filter (allp_bit T)
theorem fallPieces {T : t_D} {x : k_St} (w : Tw T) (h : XT T x) : f_Te_allPieces x = nI (allp T) := by
  unfold f_Te_allPieces
  have := w.1.2
  have hp : 0 < 2 ^ T 0 2 := Nat.pow_pos (by omega)
  rw [h.1 2 (by omega), nI_shl _ (by omega)]
  obtain ⟨z, hz⟩ : ∃ z, 2 ^ T 0 2 = z + 1 := ⟨2 ^ T 0 2 - 1, by omega⟩
  rw [allp, hz, nI_pred]; rfl
theorem fMall {T : t_D} {m : k_St} (w : Tw T) (h : MTT T m) : f_Mt_all m = nI (allp T) := by
  unfold f_Mt_all
  have := w.1.2
  have hp : 0 < 2 ^ T 0 2 := Nat.pow_pos (by omega)
  rw [h.1 2 (by omega), nI_shl _ (by omega)]
  obtain ⟨z, hz⟩ : ∃ z, 2 ^ T 0 2 = z + 1 := ⟨2 ^ T 0 2 - 1, by omega⟩
  rw [allp, hz, nI_pred]; rfl
theorem pieces_or {T : t_D} {v : Nat → Nat} {x m : k_St} (h : XB T v x) (g : MTT T m) (x1 : Int32) : (f_X_noPieces x x1 = true ∧ f_M_arePieces m x1 = false) ∨ ∃ S, S < 2 ^ T 0 2 ∧ x1 = nI S ∧ f_X_noPieces x x1 = false ∧ f_M_arePieces m x1 = true := by
  have w := h.1
  have h256 := w.pow
  have hp : 0 < 2 ^ T 0 2 := Nat.pow_pos (by omega)
  unfold f_X_noPieces f_M_arePieces f_M_in
  rw [h.2.2.2.1, fallPieces w h.2.1, fMall w g, if_neg (by decide)]
  rcases pk_ix x1 (n := 2 ^ T 0 2) (by omega) with hx | hx | ⟨S, hS, rfl⟩
  · left
    rw [if_pos hx, if_pos (show x1 < (0 : Int32) from hx)]
    exact ⟨rfl, rfl⟩
  · left
    have h0 : ¬ x1 < 0 := fun q => by
      have := nI_pos (n := 2 ^ T 0 2) (by omega)
      exact this (Int32.lt_of_le_of_lt hx q)
    have h1 : nI (allp T) < x1 := Int32.lt_of_lt_of_le (nI_lt (by unfold allp; omega) (by omega)) hx
    rw [if_neg h0, if_neg (Int32.not_le.mpr h1), if_neg h0, if_pos h1]
    exact ⟨rfl, rfl⟩
  · right
    refine ⟨S, hS, rfl, ?_, ?_⟩
    · rw [if_neg (nI_pos (by omega)), if_pos (nI_le (by unfold allp; omega) (by unfold allp; omega))]
    · rw [if_neg (nI_pos (by omega)), if_neg (nI_nlt (by unfold allp; omega) (by unfold allp; omega))]
      rfl
theorem house_or {T : t_D} {x m : k_St} (w : Tw T) (h : XT T x) (g : MTT T m) (x1 : Int32) : (f_X_noHouse x x1 = true ∧ f_M_isHouse m x1 = false) ∨ ∃ k, k < T 0 4 ∧ x1 = nI k ∧ f_X_noHouse x x1 = false ∧ f_M_isHouse m x1 = true := by
  have h5 := w.2.2.2.2.1
  unfold f_X_noHouse f_M_isHouse
  rw [h.1 4 (by omega), g.1 4 (by omega)]
  rcases pk_ix x1 (n := T 0 4) (by omega) with hx | hx | ⟨S, hS, rfl⟩
  · left; rw [if_pos hx, if_pos hx]; exact ⟨rfl, rfl⟩
  · left
    have h0 : ¬ x1 < 0 := fun q => nI_pos (n := T 0 4) (by omega) (Int32.lt_of_le_of_lt hx q)
    rw [if_neg h0, if_neg (Int32.not_lt.mpr hx), if_neg h0, if_pos hx]; exact ⟨rfl, rfl⟩
  · right
    exact ⟨S, hS, rfl, by rw [if_neg (nI_pos (by omega)), if_pos (nI_lt hS (by omega))], by rw [if_neg (nI_pos (by omega)), if_neg (nI_ge hS (by omega))]⟩
theorem piece_or {T : t_D} {x m : k_St} (w : Tw T) (h : XT T x) (g : MTT T m) (x1 : Int32) : (f_X_noPiece x x1 = true ∧ f_M_isPiece m x1 = false) ∨ ∃ k, k < T 0 2 ∧ x1 = nI k ∧ f_X_noPiece x x1 = false ∧ f_M_isPiece m x1 = true := by
  have h5 := w.1.2
  unfold f_X_noPiece f_M_isPiece
  rw [h.1 2 (by omega), g.1 2 (by omega)]
  rcases pk_ix x1 (n := T 0 2) (by omega) with hx | hx | ⟨S, hS, rfl⟩
  · left; rw [if_pos hx, if_pos hx]; exact ⟨rfl, rfl⟩
  · left
    have h0 : ¬ x1 < 0 := fun q => nI_pos (n := T 0 2) (by omega) (Int32.lt_of_le_of_lt hx q)
    rw [if_neg h0, if_neg (Int32.not_lt.mpr hx), if_neg h0, if_pos hx]; exact ⟨rfl, rfl⟩
  · right
    exact ⟨S, hS, rfl, by rw [if_neg (nI_pos (by omega)), if_pos (nI_lt hS (by omega))], by rw [if_neg (nI_pos (by omega)), if_neg (nI_ge hS (by omega))]⟩
theorem th0 (m : k_St) : mk m (k_sI m 0 0 0) := mk.set m 0 0 0 (by omega)
/-! ===== TALES of some pieces ===== -/
theorem e_tales {T : t_D} {v : Nat → Nat} {x m : k_St} (h : XB T v x) (g : MB T v m) {n : Nat} (hn : big n) (x1 : Int32) : Q2 (f_X_tales n x1 x) x (f_M_tales n x1 m) m := by
  have w := h.1
  have g0 := g.mk (th0 m)
  have h256 := w.pow
  unfold f_X_tales f_M_tales
  rw [klt (k_sI m 0 0 0)]
  rcases pieces_or h g0.1 x1 with ⟨a, b⟩ | ⟨S, hS, rfl, a, b⟩
  · rw [if_neg (k_bne a), if_pos (k_beq b)]
    exact Q2.ref (xk.rf x) (th0 m) 1 (by decide)
  · rw [if_pos (k_beq a), if_neg (k_bne b), fcountOf h.2.2.1 h.rows (by omega) (by omega), kcp]
    obtain ⟨u, e, hm⟩ := ftellsAll w (show S < 2 ^ 31 by omega) hn g0.1
    rw [e, kcl, ← h.all]
    exact Q2.ans (xk.rf x) ((th0 m).tr hm.mk) _
theorem ta_lg_len {T : t_D} {R : List (List Nat)} (hR : TR T R) : ta_lg R = [] → R = [] := by
  have key : ∀ (R : List (List Nat)) (b : List Nat), b ≠ [] → R.foldl ta_lgf b ≠ [] := by
    intro R
    induction R with
    | nil => intro b hb; exact hb
    | cons r R ih =>
      intro b hb
      rw [List.foldl_cons]
      apply ih
      unfold ta_lgf
      split
      · rename_i hlt; intro e; rw [e] at hlt; simp at hlt
      · exact hb
  intro h
  cases R with
  | nil => rfl
  | cons r R =>
    exfalso
    have hr := (hR r (by simp)).1
    unfold ta_lg at h
    rw [List.foldl_cons] at h
    refine key R (ta_lgf [] r) ?_ h
    unfold ta_lgf
    rw [if_pos (by simp; omega)]
    intro e; rw [e] at hr; simp at hr
theorem TR.filter {T : t_D} {L : List (List Nat)} (h : TR T L) (p : List Nat → Bool) : TR T (L.filter p) := fun r hr => h r (List.mem_filter.mp hr).1
theorem e_longest {T : t_D} {v : Nat → Nat} {x m : k_St} (h : XB T v x) (g : MB T v m) {n : Nat} (hn : big n) (x1 : Int32) : Q2 (f_X_longest n x1 x) x (f_M_longest n x1 m) m := by
  have w := h.1
  have g0 := g.mk (th0 m)
  have h256 := w.pow
  unfold f_X_longest f_M_longest
  rw [klt (k_sI m 0 0 0)]
  rcases pieces_or h g0.1 x1 with ⟨a, b⟩ | ⟨S, hS, rfl, a, b⟩
  · rw [if_neg (k_bne a), if_pos (k_beq b)]
    exact Q2.ref (xk.rf x) (th0 m) 1 (by decide)
  · obtain ⟨u, e, hm, -⟩ := fMlongestOf w (show S < 2 ^ 31 by omega) hn g0.1
    obtain ⟨y, e2, hy⟩ := flongestOf h.2.2.1 h.rows (show S < 2 ^ 31 by omega) (show 200 ≤ n by omega)
    rw [if_pos (k_beq a), if_neg (k_bne b), e2, kcp, e, kcl]
    rw [← h.all] at hy
    rcases hy with ⟨rfl, hy⟩ | ⟨j, rfl, hy⟩
    · rw [if_pos rfl, hy, if_pos (by rfl)]
      exact Q2.ans (xk.rf x) ((th0 m).tr hm.mk) _
    · have hj : j < 162 := by have := (List.getElem?_eq_some_iff.mp hy).1; have := h.2.2.1.2.1; omega
      have hrow := h.rows _ (List.mem_of_getElem? hy)
      rw [if_neg (nI_ne_m1 (by omega)), flengthOf h.2.2.1 h.rows hy, kcp, if_neg (nI_ne0 (by have := hrow.1; omega) (by have := hrow.2.1; omega))]
      exact Q2.ans (xk.rf x) ((th0 m).tr hm.mk) _
/-- the i-th piece of a row of the table, or none -/
theorem fpieceOfTale {T : t_D} {v : Nat → Nat} {x : k_St} (h : XB T v x) {n : Nat} (hn : 200 ≤ n) {j : Nat} {r : List Nat} (hj : (ta_all T (allp T))[j]? = some r) (x2 : Int32) : (∀ i p, x2 = nI i → i < 2 ^ 31 → r[i]? = some p → AX (f_X_pieceOfTale n (nI j) x2 x) x (nI p) 0) ∧ ((∀ i, x2 = nI i → i < 2 ^ 31 → r[i]? = none) → AX (f_X_pieceOfTale n (nI j) x2 x) x (-1) 1) := by
  have w := h.1
  have hjl : j < 162 := by have := (List.getElem?_eq_some_iff.mp hj).1; have := h.2.2.1.2.1; omega
  have hrow := h.rows r (List.mem_of_getElem? hj)
  have h8 := hrow.2.1
  unfold f_X_pieceOfTale
  rw [if_neg (nI_ne_m1 (by omega))]
  constructor
  · rintro i p rfl hi hp
    have hil : i < r.length := (List.getElem?_eq_some_iff.mp hp).1
    rw [if_neg (nI_pos hi), flengthOf h.2.2.1 h.rows hj, kcp, if_pos (nI_lt hil (by omega)), fpieceAt w h.2.2.1 h.rows hj hp hn, kcp]
    exact AX.ans (xk.rf x) _
  · intro hno
    by_cases hx : x2 < 0
    · rw [if_pos hx]; exact AX.ref (xk.rf x) 1
    · rw [if_neg hx, flengthOf h.2.2.1 h.rows hj, kcp]
      obtain ⟨i, hi, rfl⟩ := nI_of hx
      have := hno i rfl hi
      rw [if_neg (nI_nlt (List.getElem?_eq_none_iff.mp this) hi)]
      exact AX.ref (xk.rf x) 1
theorem AX.thru {x : k_St} {f : Option (Int32 × k_St)} {v τ : Int32} (h : AX f x v τ) : AX (k_cl f (fun r t => some (r, t))) x v τ := by
  obtain ⟨y, e, a, b⟩ := h
  exact ⟨y, by rw [e, kcl], a, b⟩
theorem e_longestAt {T : t_D} {v : Nat → Nat} {x m : k_St} (h : XB T v x) (g : MB T v m) {n : Nat} (hn : big n) (x1 x2 : Int32) : Q2 (f_X_longestAt n x1 x2 x) x (f_M_longestAt n x1 x2 m) m := by
  have w := h.1
  have g0 := g.mk (th0 m)
  have h256 := w.pow
  unfold f_X_longestAt f_M_longestAt
  rw [klt (k_sI m 0 0 0)]
  rcases pieces_or h g0.1 x1 with ⟨a, b⟩ | ⟨S, hS, rfl, a, b⟩
  · rw [if_neg (k_bne a), if_pos (k_beq b)]
    exact Q2.ref (xk.rf x) (th0 m) 1 (by decide)
  · obtain ⟨u, e, hm, hbest⟩ := fMlongestOf w (show S < 2 ^ 31 by omega) hn g0.1
    obtain ⟨y, e2, hy⟩ := flongestOf h.2.2.1 h.rows (show S < 2 ^ 31 by omega) (show 200 ≤ n by omega)
    rw [if_pos (k_beq a), if_neg (k_bne b), e2, kcp, e]
    rw [← h.all] at hy
    rcases hy with ⟨rfl, hy⟩ | ⟨j, rfl, hy⟩
    · have hX : AX (k_cl (f_X_pieceOfTale n (-1) x2 x) (fun r t => some (r, t))) x (-1) 1 := by
        apply AX.thru
        unfold f_X_pieceOfTale
        rw [if_pos rfl]
        exact AX.ref (xk.rf x) 1
      rw [hy]
      by_cases hx : x2 < 0
      · rw [if_pos hx]
        exact ⟨-1, 1, hX, AM.ref (th0 m) 1, by decide⟩
      · rw [if_neg hx, kcl, if_pos (by show nI 0 ≤ x2; rw [nI_0]; exact Int32.not_lt.mp hx)]
        exact ⟨-1, 1, hX, AM.ref ((th0 m).tr hm.mk) 1, by decide⟩
    · obtain ⟨p1, p2⟩ := fpieceOfTale h (show 200 ≤ n by omega) hy x2
      have hrow := h.rows _ (List.mem_of_getElem? hy)
      have h8 := hrow.2.1
      by_cases hx : x2 < 0
      · rw [if_pos hx]
        refine ⟨-1, 1, (p2 (fun i hi h31 => ?_)).thru, AM.ref (th0 m) 1, by decide⟩
        rw [hi] at hx
        exact absurd hx (nI_pos h31)
      · obtain ⟨i, hi, rfl⟩ := nI_of hx
        rw [if_neg hx, kcl]
        rcases Nat.lt_or_ge i (ta_lg (ta_all T S)).length with hl | hl
        · have hp := List.getElem?_eq_getElem hl
          rw [if_neg (nI_ge hl (by omega)), kgi (kin (by omega) (by decide)), nI_clamp (by omega), hbest i _ hp]
          exact ⟨_, 0, (p1 i _ rfl hi hp).thru, AM.good ((th0 m).tr hm.mk) _, by decide⟩
        · rw [if_pos (nI_le hl hi)]
          refine ⟨-1, 1, (p2 (fun i2 e3 h31 => ?_)).thru, AM.ref ((th0 m).tr hm.mk) 1, by decide⟩
          have := nI_inj hi h31 e3
          rw [← this]
          exact List.getElem?_eq_none_iff.mpr hl
