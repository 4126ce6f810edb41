/-! ===== acts ===== -/
theorem Q3.ans {T : t_D} {v : nv} {K I : List nv} {x z m t : k_St} (h : xk0 x z) (hz : XN T v K I z) (g : mk0 m t) (gt : MN v K I t) (r : Int32) : Q3 T (k_lt (f_X_answer r z) (fun q => some (q.1, q.2))) x (k_lt (f_M_good r t) (fun q => some (q.1, q.2))) m :=
  ⟨r, 0, v, K, I, k_sI z 0 12 0, k_sI (k_sI t 0 1 0) 0 2 (-1), rfl, h.tr (xk.t12 z 0).k0, by rw [sI1, if_pos ⟨rfl, rfl⟩], hz.xk (xk.t12 z 0), rfl, g.tr ((mk.rf t).gd 0).k0, by rw [sI1, if_neg (by simp), sI1, if_pos ⟨rfl, rfl⟩], by rw [sI1, if_pos ⟨rfl, rfl⟩], gt.mk ((mk.rf t).gd 0), by decide⟩
theorem Q3.yes {T : t_D} {v : nv} {K I : List nv} {x z m t : k_St} (h : xk0 x z) (hz : XN T v K I z) (g : mk0 m t) (gt : MN v K I t) : Q3 T (k_lt (f_X_allow z) (fun q => some (q.1, q.2))) x (k_lt (f_M_granted t) (fun q => some (q.1, q.2))) m :=
  ⟨true, 0, v, K, I, k_sI z 0 12 0, k_sI (k_sI t 0 1 0) 0 2 (-1), rfl, h.tr (xk.t12 z 0).k0, by rw [sI1, if_pos ⟨rfl, rfl⟩], hz.xk (xk.t12 z 0), rfl, g.tr ((mk.rf t).gd 0).k0, by rw [sI1, if_neg (by simp), sI1, if_pos ⟨rfl, rfl⟩], by rw [sI1, if_pos ⟨rfl, rfl⟩], gt.mk ((mk.rf t).gd 0), by decide⟩
theorem Q3.ref {T : t_D} {v : nv} {K I : List nv} {x m t : k_St} (hz : XN T v K I x) (g : mk m t) (gt : MN v K I m) (τ : Int32) (ht : τ ≠ 4) : Q3 T (k_lt (f_X_refuse τ x) (fun q => some (q.1, q.2))) x (k_lt (f_M_refused τ t) (fun q => some (q.1, q.2))) m := (Q2.ref (xk.rf x) g τ ht).Q3 hz gt
theorem Q3.no {T : t_D} {v : nv} {K I : List nv} {x m t : k_St} (hz : XN T v K I x) (g : mk m t) (gt : MN v K I m) (τ : Int32) (ht : τ ≠ 4) : Q3 T (k_lt (f_X_deny τ x) (fun q => some (q.1, q.2))) x (k_lt (f_M_denied τ t) (fun q => some (q.1, q.2))) m :=
  ⟨false, τ, v, K, I, k_sI x 0 12 τ, k_sI (k_sI t 0 1 τ) 0 2 (-1), rfl, (xk.t12 x τ).k0, by rw [sI1, if_pos ⟨rfl, rfl⟩], hz.xk (xk.t12 x τ), rfl, (g.gd τ).k0, by rw [sI1, if_neg (by simp), sI1, if_pos ⟨rfl, rfl⟩], by rw [sI1, if_pos ⟨rfl, rfl⟩], gt.mk (g.gd τ), ht⟩
/-- what the two sides know at a call that acts -/
def RX (T : t_D) (v : nv) (K I : List nv) (x m : k_St) : Prop := Tw T ∧ XT T x ∧ TB x (ta_all T (allp T)) ∧ x.1 0 10 = 1 ∧ XN T v K I x ∧ MTT T m ∧ MN v K I m
theorem RX.XB {T : t_D} {v : nv} {K I : List nv} {x m : k_St} (h : RX T v K I x m) : XB T v x := ⟨h.1, h.2.1, h.2.2.1, h.2.2.2.1, h.2.2.2.2.1.1.1, h.2.2.2.2.1.1.2.1, h.2.2.2.2.1.1.2.2.1, h.2.2.2.2.1.1.2.2.2⟩
theorem RX.MB {T : t_D} {v : nv} {K I : List nv} {x m : k_St} (h : RX T v K I x m) : MB T v m := ⟨h.2.2.2.2.2.1, h.2.2.2.2.2.2.1⟩
theorem nvok.up {T : t_D} {v : nv} (hv : nvok T v) {k b : Nat} (hk : k < T 0 4) (h5 : T 0 4 ≤ 5) (hb : b < 2 ^ T 0 2) : nvok T (vup v k b) := by
  refine ⟨fun i hi => ?_, ?_⟩
  · unfold vup
    by_cases e : i = k
    · rw [if_pos e]; exact ⟨hb, fun q => by omega⟩
    · rw [if_neg e]; exact hv.1 i hi
  · unfold vup; rw [if_neg (by omega)]; exact hv.2
theorem setV {v : nv} {u : k_St} {k b : Nat} (hv : ∀ i, i < 6 → u.1 2 i = nI (v i)) : ∀ i, i < 6 → (k_sI u 2 k (nI b)).1 2 i = nI (vup v k b i) := by
  intro i hi
  rw [sI1]
  unfold vup
  by_cases e : i = k
  · rw [if_pos ⟨rfl, e⟩, if_pos e]
  · rw [if_neg (by omega), if_neg e, hv i hi]
/-- an ACT that changes one house: keep, then more -/
theorem act1 {T : t_D} {v : nv} {K I : List nv} {x m t y u : k_St} (h : RX T v K I x m) (w : Tw T) (hm : mk m t) (hy : (∀ o k, ¬ (o = 34 ∧ k = 2) → y.1 o k = x.1 o k)) (hy2 : XN T v (kp K v) I y) (hu : (∀ o k, o ≠ 4 → ¬ (o = 0 ∧ k = 19) → u.1 o k = t.1 o k)) (hu2 : MN v (kp K v) I u) {k b : Nat} (hk : k < T 0 4) (hb : b < 2 ^ T 0 2) :
    (xk0 x (k_sL y 34 0 (lN (pk (vup v k b))))) ∧ XN T (vup v k b) (kp K v) I (k_sL y 34 0 (lN (pk (vup v k b)))) ∧ mk0 m (k_sI u 2 k (nI b)) ∧ MN (vup v k b) (kp K v) I (k_sI u 2 k (nI b)) := by
  have h5 := w.2.2.2.2.1
  refine ⟨fun o j q => by rw [sL1]; exact hy o j (by omega), ?_, ?_, ?_⟩
  · refine hy2.now (h.2.2.2.2.1.1.2.2.2.up hk h5 hb) (by rw [sL2, if_pos ⟨rfl, rfl⟩]) ?_ (fun _ _ => by rw [sL1]) (fun o j q => by rw [sL2, if_neg (by omega)])
    rw [sL1, hy 34 1 (by omega)]
    have := h.2.2.2.2.1.1.2.1
    rw [this]
    unfold vup
    rw [if_neg (by omega)]
  · intro o j q
    rw [sI1, if_neg (by omega), hu o j (by omega) (by omega)]
    exact hm.k0 o j q
  · exact hu2.now (setV hu2.1) (fun o j q => by rw [sI1, if_neg (by omega)])
theorem e_tell {T : t_D} {v : nv} {K I : List nv} {x m : k_St} (h : RX T v K I x m) {n : Nat} (hn : big n) (x1 x2 : Int32) : Q3 T (f_X_tell x1 x2 x) x (f_M_tell n x1 x2 m) m := by
  have w := h.1
  have hXB := h.XB
  have g0 := h.MB.mk (th0 m)
  have hN := h.2.2.2.2.1
  have hMN := h.2.2.2.2.2.2
  have h5 := w.2.2.2.2.1
  have h256 := w.pow
  have hv := hN.1.2.2.2
  unfold f_X_tell f_M_tell
  rw [klt (k_sI m 0 0 0)]
  rcases house_or w h.2.1 g0.1 x1 with ⟨a, b⟩ | ⟨k, hk, rfl, a, b⟩
  · rw [if_neg (k_bne a), if_pos (k_beq b)]
    exact Q3.ref hN (th0 m) hMN 1 (by decide)
  rw [if_pos (k_beq a), if_neg (k_bne b)]
  rcases house_or w h.2.1 g0.1 x2 with ⟨a2, b2⟩ | ⟨k2, hk2, rfl, a2, b2⟩
  · rw [if_neg (k_bne a2), if_pos (k_beq b2)]
    exact Q3.ref hN (th0 m) hMN 1 (by decide)
  rw [if_pos (k_beq a2), if_neg (k_bne b2)]
  by_cases e : k = k2
  · rw [if_pos (by rw [e]), if_pos (by rw [e])]
    exact Q3.ref hN (th0 m) hMN 1 (by decide)
  have hne : ¬ nI k = nI k2 := fun q => e (nI_inj (by omega) (by omega) q)
  rw [if_neg hne, if_neg hne, fisSilent w h.2.1 (by omega), fcanTell w g0.1 (by omega)]
  by_cases hs : (T 0 6).testBit k = true
  · rw [hs, if_neg (show ¬ k_b true = 0 by decide), if_pos (show k_b (!true) = 0 by decide)]
    exact Q3.ref hN (th0 m) hMN 5 (by decide)
  simp only [Bool.not_eq_true] at hs
  obtain ⟨y, e1, hy1, hy2, hy3⟩ := fkeep w hN
  obtain ⟨u, f1, hu1, hu3⟩ := fremembers (hMN.mk (th0 m)) hN.2.1.2.1 (n := n) (by omega)
  have hp8 := hv.p8 w
  have hq : v k &&& (v k2 ^^^ 4294967295) < 2 ^ T 0 2 := Nat.lt_of_le_of_lt Nat.and_le_left (hv.1 k (by omega)).1
  have hb : v k2 ||| (v k &&& (v k2 ^^^ 4294967295)) < 2 ^ T 0 2 := Nat.or_lt_two_pow (hv.1 k2 (by omega)).1 hq
  obtain ⟨r1, r2, r3, r4⟩ := act1 h w (th0 m) hy1 hy3 hu1 hu3 hk2 hb
  rw [hs, if_pos (show k_b false = 0 by decide), if_neg (show ¬ k_b (!false) = 0 by decide), klt, hXB.known (by omega), hXB.known (by omega), nI_m1, nI_xor, nI_and, e1, kcv, klt, hy3.1.1, fwithMore hp8 (by omega) (by omega), f1, kcv, kgi (kin (by omega) (by decide)), kgi (kin (by omega) (by decide)), nI_clamp (by omega), nI_clamp (by omega), hu3.1 k (by omega), hu3.1 k2 (by omega), klt, klt, nI_xor, nI_and, kgi (kin (by omega) (by decide)), kgi (kin (by omega) (by decide)), klt, nI_or]
  exact Q3.ans r1 r2 r3 r4 _
theorem fisKnown {T : t_D} {v : nv} {x : k_St} (h : XB T v x) {k p : Nat} (hk : k < 5) (hp : p < 8) : f_No_isKnown x (nI k) (nI p) = (v k).testBit p := by
  have hv := h.2.2.2.2.2.2.2.p8 h.1 k hk
  unfold f_No_isKnown
  rw [h.known hk]
  by_cases hb : (v k).testBit p = true
  · rw [if_neg (fun e => by rw [nI_bit0 (by omega) (by omega)] at e; rw [hb] at e; cases e), hb]
  · simp only [Bool.not_eq_true] at hb
    rw [if_pos ((nI_bit0 (by omega) (by omega)).mpr hb), hb]
theorem e_learn {T : t_D} {v : nv} {K I : List nv} {x m : k_St} (h : RX T v K I x m) {n : Nat} (hn : big n) (x1 x2 : Int32) : Q3 T (f_X_learn x1 x2 x) x (f_M_learn n x1 x2 m) m := by
  have w := h.1
  have hXB := h.XB
  have g0 := h.MB.mk (th0 m)
  have hN := h.2.2.2.2.1
  have hMN := h.2.2.2.2.2.2
  have h5 := w.2.2.2.2.1
  have hP := w.1.2
  have h256 := w.pow
  have hv := hN.1.2.2.2
  unfold f_X_learn f_M_learn
  rw [klt (k_sI m 0 0 0)]
  rcases house_or w h.2.1 g0.1 x1 with ⟨a, b⟩ | ⟨k, hk, rfl, a, b⟩
  · rw [if_neg (k_bne a), if_pos (k_beq b)]
    exact Q3.no hN (th0 m) hMN 1 (by decide)
  rw [if_pos (k_beq a), if_neg (k_bne b)]
  rcases piece_or w h.2.1 g0.1 x2 with ⟨a2, b2⟩ | ⟨p, hp, rfl, a2, b2⟩
  · rw [if_neg (k_bne a2), if_pos (k_beq b2)]
    exact Q3.no hN (th0 m) hMN 1 (by decide)
  have hp8 := hv.p8 w
  have hvk := hp8 k (by omega)
  rw [if_pos (k_beq a2), if_neg (k_bne b2), fisKnown hXB (by omega) (by omega), kgi (kin (by omega) (by decide)), nI_clamp (by omega), g0.2 k (by omega), fMbit (by omega) (by omega)]
  by_cases hb : (v k).testBit p = true
  · rw [if_neg (k_bne hb), if_neg (k_bne hb)]
    exact Q3.no hN (th0 m) hMN 5 (by decide)
  simp only [Bool.not_eq_true] at hb
  obtain ⟨y, e1, hy1, hy2, hy3⟩ := fkeep w hN
  obtain ⟨u, f1, hu1, hu3⟩ := fremembers (hMN.mk (th0 m)) hN.2.1.2.1 (n := n) (by omega)
  have h2p : 2 ^ p < 2 ^ T 0 2 := Nat.pow_lt_pow_right (by omega) hp
  obtain ⟨r1, r2, r3, r4⟩ := act1 h w (th0 m) hy1 hy3 hu1 hu3 hk (b := v k ||| 2 ^ p) (Nat.or_lt_two_pow (hv.1 k (by omega)).1 h2p)
  rw [if_pos (k_beq hb), if_pos (k_beq hb), e1, kcv, klt, hy3.1.1, nI_shl p (by omega), fwithMore hp8 (by omega) (by omega), f1, kcv, kgi (kin (by omega) (by decide)), kgi (kin (by omega) (by decide)), klt, klt, hu3.1 k (by omega), nI_or]
  exact Q3.yes r1 r2 r3 r4
theorem xor_off : ∀ s, s < 256 → ∀ p, p < 8 → s.testBit p = true → s ^^^ 2 ^ p = s &&& (2 ^ p ^^^ 255) := by decide +kernel
theorem e_forget {T : t_D} {v : nv} {K I : List nv} {x m : k_St} (h : RX T v K I x m) {n : Nat} (hn : big n) (x1 x2 : Int32) : Q3 T (f_X_forget x1 x2 x) x (f_M_forget n x1 x2 m) m := by
  have w := h.1
  have hXB := h.XB
  have g0 := h.MB.mk (th0 m)
  have hN := h.2.2.2.2.1
  have hMN := h.2.2.2.2.2.2
  have h5 := w.2.2.2.2.1
  have hP := w.1.2
  have h256 := w.pow
  have hv := hN.1.2.2.2
  unfold f_X_forget f_M_forget
  rw [klt (k_sI m 0 0 0)]
  rcases house_or w h.2.1 g0.1 x1 with ⟨a, b⟩ | ⟨k, hk, rfl, a, b⟩
  · rw [if_neg (k_bne a), if_pos (k_beq b)]
    exact Q3.no hN (th0 m) hMN 1 (by decide)
  rw [if_pos (k_beq a), if_neg (k_bne b)]
  rcases piece_or w h.2.1 g0.1 x2 with ⟨a2, b2⟩ | ⟨p, hp, rfl, a2, b2⟩
  · rw [if_neg (k_bne a2), if_pos (k_beq b2)]
    exact Q3.no hN (th0 m) hMN 1 (by decide)
  have hp8 := hv.p8 w
  have hvk := hp8 k (by omega)
  rw [if_pos (k_beq a2), if_neg (k_bne b2), fisKnown hXB (by omega) (by omega), kgi (kin (by omega) (by decide)), nI_clamp (by omega), g0.2 k (by omega), fMbit (by omega) (by omega)]
  by_cases hb : (v k).testBit p = true
  · obtain ⟨y, e1, hy1, hy2, hy3⟩ := fkeep w hN
    obtain ⟨u, f1, hu1, hu3⟩ := fremembers (hMN.mk (th0 m)) hN.2.1.2.1 (n := n) (by omega)
    have h2p : 2 ^ p < 2 ^ T 0 2 := Nat.pow_lt_pow_right (by omega) hp
    obtain ⟨r1, r2, r3, r4⟩ := act1 h w (th0 m) hy1 hy3 hu1 hu3 hk (b := v k &&& (2 ^ p ^^^ 255)) (Nat.lt_of_le_of_lt Nat.and_le_left (hv.1 k (by omega)).1)
    have e9 : lN (pk v) &&& (((1 : Int64) <<< ((((8 : Int32) * nI k) + nI p).toInt64 &&& 63)) ^^^ (-1 : Int64)) = lN (pk (vup v k (v k &&& (2 ^ p ^^^ 255)))) := by
      rw [l8, pk_mul, nI_add, m1L, show (1 : Int64) = lN 1 from rfl, wb_shl 1 (by omega), lNxor, lNand, Nat.one_mul, show 8 * k + p = p + 8 * k by omega, Nat.pow_add, pkv_less hp8 (by omega) (by omega)]
    rw [if_neg (k_bne hb), if_neg (k_bne hb), e1, kcv, klt, hy3.1.1, e9, f1, kcv, kgi (kin (by omega) (by decide)), kgi (kin (by omega) (by decide)), klt, klt, hu3.1 k (by omega), nI_shl p (by omega), nI_xor, xor_off (v k) hvk p (by omega) hb]
    exact Q3.yes r1 r2 r3 r4
  · simp only [Bool.not_eq_true] at hb
    rw [if_pos (k_beq hb), if_pos (k_beq hb)]
    exact Q3.no hN (th0 m) hMN 5 (by decide)
theorem pc8_inc : ∀ s, s < 256 → ∀ p, p < 8 → pc8 (s ||| 2 ^ p) ≤ pc8 s + 1 ∧ s ||| 2 ^ p < 256 := by decide +kernel
theorem pc_app : ∀ (B A : List Nat), (∀ p ∈ B, p < 8) → ta_bits A < 256 → pc8 (ta_bits (A ++ B)) ≤ pc8 (ta_bits A) + B.length := by
  intro B
  induction B with
  | nil => intro A _ _; simp
  | cons p B ih =>
    intro A hB hA
    have hp := hB p (by simp)
    obtain ⟨c, d⟩ := pc8_inc (ta_bits A) hA p hp
    have := ih (A ++ [p]) (fun q hq => hB q (by simp [hq])) (by rw [ta_bits_app]; exact d)
    rw [ta_bits_app, List.append_assoc, List.singleton_append] at this
    rw [List.length_cons]
    omega
theorem bits_lt : ∀ (B A : List Nat), (∀ p ∈ B, p < 8) → ta_bits A < 256 → ta_bits (A ++ B) < 256 := by
  intro B
  induction B with
  | nil => intro A _ h; simpa using h
  | cons p B ih =>
    intro A hB hA
    have := ih (A ++ [p]) (fun q hq => hB q (by simp [hq])) (by rw [ta_bits_app]; exact (pc8_inc (ta_bits A) hA p (hB p (by simp))).2)
    rwa [List.append_assoc, List.singleton_append] at this
theorem ev_pc (s : Nat) : ∀ (B A : List Nat) (sd : Nat), (∀ p ∈ B, p < 8) → ta_bits A < 256 → pc8 (ta_bits A) ≤ A.length → pc8 (ta_bits (A ++ B)) = (A ++ B).length → pc8 (ev s B sd (ta_bits A) A.length).1 = (ev s B sd (ta_bits A) A.length).2.2 := by
  intro B
  induction B with
  | nil => intro A sd _ _ hle h; rw [ev]; simpa using h
  | cons p B ih =>
    intro A sd hB hA hle h
    have hp := hB p (by simp)
    obtain ⟨c, d⟩ := pc8_inc (ta_bits A) hA p hp
    rw [ev]
    split
    · have := pc_app (p :: B) A hB hA
      rw [h, List.length_append] at this
      show pc8 (ta_bits A) = A.length
      omega
    · have := ih (A ++ [p]) (dr sd) (fun q hq => hB q (by simp [hq])) (by rw [ta_bits_app]; exact d) (by rw [ta_bits_app, List.length_append, List.length_singleton]; omega) (by rw [List.append_assoc, List.singleton_append]; exact h)
      rw [ta_bits_app, List.length_append, List.length_singleton] at this
      exact this
theorem lgt_row {T : t_D} (w : Tw T) : lgt T = [] ∨ lgt T ∈ ta_all T (allp T) := by
  have key : ∀ (R : List (List Nat)) (b : List Nat), R.foldl ta_lgf b = b ∨ R.foldl ta_lgf b ∈ R := by
    intro R
    induction R with
    | nil => intro b; exact Or.inl rfl
    | cons r R ih =>
      intro b
      rw [List.foldl_cons]
      rcases ih (ta_lgf b r) with e | e
      · rw [e]
        unfold ta_lgf
        split
        · exact Or.inr (by simp)
        · exact Or.inl rfl
      · exact Or.inr (by simp [e])
  exact key _ []
theorem e_evening {T : t_D} {v : nv} {K I : List nv} {x m : k_St} (h : RX T v K I x m) {n : Nat} (hn : big n) (x1 : Int32) : Q3 T (f_X_evening n x1 x) x (f_M_evening n x1 m) m := by
  have w := h.1
  have hXB := h.XB
  have g0 := h.MB.mk (th0 m)
  have hN := h.2.2.2.2.1
  have hMN := h.2.2.2.2.2.2
  have h5 := w.2.2.2.2.1
  have hP := w.1.2
  have h256 := w.pow
  have hv := hN.1.2.2.2
  unfold f_X_evening f_M_evening
  rw [klt (k_sI m 0 0 0)]
  rcases house_or w h.2.1 g0.1 x1 with ⟨a, b⟩ | ⟨k, hk, rfl, a, b⟩
  · rw [if_neg (k_bne a), if_pos (k_beq b)]
    exact Q3.ref hN (th0 m) hMN 1 (by decide)
  obtain ⟨t, et, hmt, hbest⟩ := fMlongestOf w (show allp T < 2 ^ 31 by unfold allp; omega) hn g0.1
  have hl162 := h.2.2.1.2.1
  rw [if_pos (k_beq a), if_neg (k_bne b), fMall w g0.1, et, kcl, h.2.2.1.1]
  have hlen := lgt_len w
  by_cases hL : ta_all T (allp T) = []
  · rw [if_pos (by rw [hL]; rfl), hL]
    rw [if_pos (show nI (ta_lg ([] : List (List Nat))).length = 0 by rfl)]
    exact Q3.ref hN ((th0 m).tr hmt.mk) hMN 6 (by decide)
  have hne : lgt T ≠ [] := fun e => hL (ta_lg_len (T := T) (fun r hr => ta_all_row w hr) e)
  have hpos : 0 < (lgt T).length := List.length_pos_iff.mpr hne
  have hlpos : 0 < (ta_all T (allp T)).length := List.length_pos_iff.mpr hL
  have hmem : lgt T ∈ ta_all T (allp T) := (lgt_row w).resolve_left hne
  have hrow := ta_all_row w hmem
  obtain ⟨y, e1, hy1, hy2, hy3⟩ := fkeep w hN
  obtain ⟨u, f1, hu1, hu3⟩ := fremembers (hMN.mk ((th0 m).tr hmt.mk)) hN.2.1.2.1 (n := n) (by omega)
  -- the class's evening
  have hX2 : XT T (k_sI y 33 0 (y.1 34 1)) := h.2.1.same (fun o j q1 q2 => by rw [sI1, if_neg (by omega)]; exact hy1 o j (by omega))
  have hT2 : TB (k_sI y 33 0 (y.1 34 1)) (ta_all T (allp T)) := h.2.2.1.same (fun o j q1 q2 => by rw [sI1, if_neg (by omega)]; exact hy1 o j (by omega))
  obtain ⟨z, ez, hze, hz0, hz1⟩ := fpass w (n := n) (sd := v 5) (by omega) hX2 hT2 (by rw [sI1, if_pos ⟨rfl, rfl⟩]; exact hy3.1.2.1) hv.2
  -- the reference's evening
  have gt := g0.1.mz hmt
  have gu : MTT T u := gt.same (fun o j q1 q2 => hu1 o j (by omega) (by omega))
  obtain ⟨s, es1, hs1, hs2, hs3⟩ := fanEvV (n := n) (h := k) w (by omega) hlen (lgt_mem w) n 0 v u (by omega) (by omega) gu hu3.1 hv.2 (hv.p8 w k (by omega)) (fun j p hj => by rw [hu1 7 j (by omega) (by omega)]; exact hbest j p hj)
  rw [List.drop_zero] at es1 hs3
  have hheard := ev_heard hP (T 0 1) (lgt T) (v 5) 0 0 (lgt_mem w) (Nat.pow_pos (by omega))
  have hpc : pc8 (ev (T 0 1) (lgt T) (v 5) 0 0).1 = (ev (T 0 1) (lgt T) (v 5) 0 0).2.2 := ev_pc (T 0 1) (lgt T) [] (v 5) (fun p hp => by have := lgt_mem w p hp; omega) (by decide) (by decide) (by rw [List.nil_append]; exact hrow.2.2.2.1)
  rw [if_neg (nI_ne0 hlpos (by omega)), if_neg (show ¬ nI (ta_lg (ta_all T (allp T))).length = 0 from nI_ne0 hpos (by show (lgt T).length < _; omega)), e1, kcv, klt, ez, kcv, klt, f1, kcv]
  have es1' : f_M_anEveningV n (nI k) (nI (ta_lg (ta_all T (allp T))).length) u = some (nI (ev (T 0 1) (lgt T) (v 5) 0 0).2.2, s) := es1
  rw [es1', kcl, klt, ← hpc]
  have hz34 : z.2 34 0 = lN (pk v) := by rw [hze.2]; exact hy3.1.1
  rw [show (k_sI z 34 1 (z.1 33 0)).2 34 0 = lN (pk v) from hz34]
  have e33 : (k_sI z 34 1 (z.1 33 0)).1 33 1 = nI (ev (T 0 1) (lgt T) (v 5) 0 0).1 := by rw [sI1, if_neg (by omega), hz1]
  rw [e33, fwithMore (hv.p8 w) (by omega) (by omega)]
  have e33b : (k_sL (k_sI z 34 1 (z.1 33 0)) 34 0 (lN (pk (vup v k (v k ||| (ev (T 0 1) (lgt T) (v 5) 0 0).1))))).1 33 1 = nI (ev (T 0 1) (lgt T) (v 5) 0 0).1 := by rw [sL1, e33]
  rw [e33b, bc8 _ (by omega)]
  have hpk : pk (vup v k (v k ||| (ev (T 0 1) (lgt T) (v 5) 0 0).1)) = pk (evn T v k) := by unfold pk evn evv vup; simp
  rw [hpk]
  have hv2 := hv.evn w hk
  refine Q3.ans (v := evn T v k) (K := kp K v) (I := I) ?_ ?_ ?_ ?_ _
  · intro o j q
    rw [sL1, sI1, if_neg (by omega), hze.1 o j (by omega), sI1, if_neg (by omega)]
    exact hy1 o j (by omega)
  · refine hy3.now hv2 (by rw [sL2, if_pos ⟨rfl, rfl⟩]) (by rw [sL1, sI1, if_pos ⟨rfl, rfl⟩, hz0, evn5]) (fun j hj => by rw [sL1, sI1, if_neg (by omega), hze.1 34 j (by omega), sI1, if_neg (by omega)]) (fun o j q => by rw [sL2, if_neg (by omega)]; show z.2 o j = _; rw [hze.2]; rfl)
  · intro o j q
    rw [hs1 o j (by omega), hu1 o j (by omega) (by omega)]
    exact ((th0 m).tr hmt.mk).k0 o j q
  · exact hu3.now hs3 (fun o j q => hs1 o j (by omega))
theorem e_seed {T : t_D} {v : nv} {K I : List nv} {x m : k_St} (h : RX T v K I x m) (x1 : Int32) : Q3 T (some (f_X_seed x1 x)) x (f_M_seed x1 m) m := by
  have hN := h.2.2.2.2.1
  have hMN := h.2.2.2.2.2.2
  have hv := hN.1.2.2.2
  unfold f_X_seed f_M_seed
  rw [klt (k_sI m 0 0 0), h.2.2.2.1, if_neg (show ¬ (1 : Int32) = 0 by decide)]
  rcases seed_or x1 with ⟨c, d⟩ | ⟨s, hs, rfl, c, d⟩
  · rw [if_neg (k_bne c), if_pos (k_beq d)]
    exact Q3.no hN (th0 m) hMN 2 (by decide)
  · rw [if_pos (k_beq c), if_neg (k_bne d), klt, kgi (by decide), klt]
    refine Q3.yes (v := vup v 5 s) (K := K) (I := I) (xk0.set x 34 1 _ (by omega)) ?_ ((th0 m).k0.tr (mk0.set _ 2 _ _ (by omega))) ?_
    · exact hN.now (hv.seed hs) (by rw [pk_seed]; exact hN.1.1) (by rw [sI1, if_pos ⟨rfl, rfl⟩]; unfold vup; rw [if_pos rfl]) (fun k hk => by rw [sI1, if_neg (by omega)]) (fun _ _ _ => rfl)
    · exact (hMN.mk (th0 m)).now (setV (hMN.mk (th0 m)).1) (fun o k q => by rw [sI1, if_neg (by omega)])
theorem funpack {T : t_D} (w : Tw T) {u : nv} (hu : nvok T u) (x : k_St) : f_No_unpack (lN (fl u)) x = k_sL (k_sI x 34 1 (nI (u 5))) 34 0 (lN (pk u)) := by
  have h1 := pkv_lt (hu.p8 w)
  have h2 := hu.2
  have h3 := fl_lt w hu
  unfold f_No_unpack
  rw [klt, klt, show (40 : Int32) = nI 40 from rfl, lNshr (by omega) (by omega), lN_i, show (1099511627775 : Int64) = lN 1099511627775 from rfl, lNand, show (1099511627775 : Nat) = 2 ^ 40 - 1 from rfl, Nat.and_two_pow_sub_one_eq_mod]
  have e1 : fl u / 2 ^ 40 = u 5 := by unfold fl; omega
  have e2 : fl u % 2 ^ 40 = pk u := by unfold fl; omega
  rw [e1, e2]
theorem fcopyV {n : Nat} {u : nv} {c : Nat} (hc : c < 16) {m : k_St} (g : Nat → Nat → Prop) : ∀ (f i : Nat) (t : k_St), i ≤ 6 → 6 - i < f → t.1 0 19 = nI c → (∀ k, k < 6 → t.1 4 (6 * c + k) = nI (u k)) → (∀ k, k < i → t.1 2 k = nI (u k)) → ∃ s, f_M_undo_38 n f (nI i) t = k_lt (f_M_granted s) (fun q_1 => some (q_1.1, q_1.2)) ∧ (∀ o k, o ≠ 2 → s.1 o k = t.1 o k) ∧ ∀ k, k < 6 → s.1 2 k = nI (u k) := by
  intro f
  induction f with
  | zero => intro i t _ h; omega
  | succ f ih =>
    intro i t hi hf h19 h4 h2
    rw [f_M_undo_38, h19]
    rcases Nat.lt_or_ge i 6 with hl | hl
    · rw [if_neg (by rw [l6]; exact nI_ge hl (by omega)), l6, pk_mul, nI_add, kgi (kin (by omega) (by decide)), kgi (kin hl (by decide)), klt, klt, nI_1, nI_clamp (by omega), nI_clamp (by omega), h4 i hl]
      obtain ⟨s, a, b, c⟩ := ih (i + 1) (k_sI t 2 i (nI (u i))) (by omega) (by omega) (by rw [sI1, if_neg (by omega)]; exact h19) (fun k hk => by rw [sI1, if_neg (by omega)]; exact h4 k hk) (fun k hk => by
        rw [sI1]
        by_cases q : k = i
        · rw [if_pos ⟨rfl, q⟩, q]
        · rw [if_neg (by omega)]; exact h2 k (by omega))
      exact ⟨s, a, fun o k ho => by rw [b o k ho, sI1, if_neg (by omega)], c⟩
    · have : i = 6 := by omega
      subst this
      rw [if_pos (by decide)]
      exact ⟨t, rfl, fun _ _ _ => rfl, h2⟩
theorem e_undo {T : t_D} {v : nv} {K I : List nv} {x m : k_St} (h : RX T v K I x m) {n : Nat} (hn : big n) : Q3 T (f_X_undo x) x (f_M_undo n m) m := by
  have w := h.1
  have hN := h.2.2.2.2.1
  have hMN := h.2.2.2.2.2.2
  have hMN0 := hMN.mk (th0 m)
  have hl := hN.2.1.2.1
  unfold f_X_undo f_M_undo f_No_undoLatest
  rw [klt (k_sI m 0 0 0), hN.2.1.1, hMN0.2.1.1]
  by_cases hK : K.length = 0
  · rw [if_neg (by rw [hK]; decide), kcl, if_pos (show k_b false = 0 by decide), if_pos (by rw [hK]; rfl)]
    exact Q3.no hN (th0 m) hMN 6 (by decide)
  · obtain ⟨c, hc⟩ : ∃ c, K.length = c + 1 := ⟨K.length - 1, by omega⟩
    obtain ⟨u, hu⟩ : ∃ u, K[c]? = some u := ⟨K[c], List.getElem?_eq_getElem (by omega)⟩
    have huok := hN.2.1.2.2.2 u (List.mem_of_getElem? hu)
    rw [if_pos (by rw [show (0 : Int32) = nI 0 from rfl]; exact nI_lt (by omega) (by omega)), klt, hc, nI_pred]
    have e2 : (k_sI x 34 2 (nI c)).1 34 2 = nI c := by rw [sI1, if_pos ⟨rfl, rfl⟩]
    have e35 : (k_sI x 34 2 (nI c)).2 35 c = lN (fl u) := hN.2.1.2.2.1 c u hu
    rw [e2, kgi (kin (by omega) (by decide)), nI_clamp (by omega), e35, klt, funpack w huok, kcl, if_neg (show ¬ k_b true = 0 by decide), if_neg (nI_ne0 (by omega) (by omega)), klt, klt]
    obtain ⟨s, a, b, d⟩ := fcopyV (n := n) (u := u) (c := c) (m := m) (by omega) (fun _ _ => True) n 0 (k_sI (k_sI m 0 0 0) 0 19 (nI c)) (by omega) (by omega) (by rw [sI1, if_pos ⟨rfl, rfl⟩]) (fun k hk => by rw [sI1, if_neg (by omega)]; exact hMN0.2.1.2 c u hu k hk) (fun k hk => by omega)
    have a' : f_M_undo_38 n n 0 (k_sI (k_sI m 0 0 0) 0 19 (nI c)) = _ := a
    rw [a']
    have hget : ∀ i w, (K.take c)[i]? = some w → K[i]? = some w ∧ i < c := by
      intro i w hw
      have hi : i < (K.take c).length := (List.getElem?_eq_some_iff.mp hw).1
      rw [List.length_take] at hi
      rw [List.getElem?_take] at hw
      split at hw
      · exact ⟨hw, by assumption⟩
      · cases hw
    have htl : (K.take c).length = c := by rw [List.length_take]; omega
    refine Q3.yes (v := u) (K := K.take c) (I := I) ?_ ?_ ?_ ?_
    · intro o j q
      rw [sL1, sI1, if_neg (by omega), sI1, if_neg (by omega)]
    · refine ⟨⟨by rw [sL2, if_pos ⟨rfl, rfl⟩], by rw [sL1, sI1, if_pos ⟨rfl, rfl⟩], by rw [sL1, sI1, if_neg (by omega), sI1, if_neg (by omega)]; exact hN.1.2.2.1, huok⟩, ⟨by rw [sL1, sI1, if_neg (by omega), sI1, if_pos ⟨rfl, rfl⟩, htl], by omega, fun i w hw => by rw [sL2, if_neg (by omega)]; exact hN.2.1.2.2.1 i w (hget i w hw).1, fun w hw => hN.2.1.2.2.2 w (List.mem_of_mem_take hw)⟩, ⟨by rw [sL1, sI1, if_neg (by omega), sI1, if_neg (by omega)]; exact hN.2.2.1, hN.2.2.2.1, fun i w hw => by rw [sL2, if_neg (by omega)]; exact hN.2.2.2.2.1 i w hw, hN.2.2.2.2.2⟩⟩
    · intro o j q
      rw [b o j (by omega), sI1, if_neg (by omega)]
      exact (th0 m).k0 o j q
    · refine ⟨d, ⟨by rw [b 0 19 (by omega), sI1, if_pos ⟨rfl, rfl⟩, htl], fun i w hw k hk => by rw [b 4 _ (by omega), sI1, if_neg (by omega)]; exact hMN0.2.1.2 i w (hget i w hw).1 k hk⟩, ⟨by rw [b 0 20 (by omega), sI1, if_neg (by omega)]; exact hMN0.2.2.1, fun i w hw k hk => by rw [b 5 _ (by omega), sI1, if_neg (by omega)]; exact hMN0.2.2.2 i w hw k hk⟩⟩
theorem e_image {T : t_D} {v : nv} {K I : List nv} {x m : k_St} (h : RX T v K I x m) {n : Nat} (hn : big n) : Q3 T (f_X_image x) x (f_M_image n m) m := by
  have w := h.1
  have hN := h.2.2.2.2.1
  have hMN := h.2.2.2.2.2.2
  have hMN0 := hMN.mk (th0 m)
  have hl := hN.2.2.2.1
  unfold f_X_image f_M_image f_No_takeImage
  rw [klt (k_sI m 0 0 0), h.2.2.2.1, if_neg (show ¬ (1 : Int32) = 0 by decide), hN.2.2.1, hMN0.2.2.1]
  by_cases hI : I.length = 3
  · rw [if_neg (by rw [hI]; decide), kcl, if_pos rfl, if_pos (by rw [hI]; rfl)]
    exact Q3.ref hN (th0 m) hMN 3 (by decide)
  · have e3 : (k_sI (k_sL x 36 I.length (lN (fl v))) 34 3 (nI (I.length + 1))).1 34 3 = nI (I.length + 1) := by rw [sI1, if_pos ⟨rfl, rfl⟩]
    have e0 : (k_sL x 36 I.length (lN (fl v))).1 34 3 = nI I.length := by rw [sL1]; exact hN.2.2.1
    rw [if_pos (by rw [l3]; exact nI_lt (by omega) (by omega)), kgi (kin (by omega) (by decide)), nI_clamp (by omega), fpacked w hN, klt, e0, nI_1, klt, e3, nI_pred, kcl, if_neg (nI_ne_m1 (by omega)), if_neg (neL 3 hI rfl (by omega) (by decide))]
    have key : ∀ (f i : Nat) (t : k_St), i ≤ 6 → 6 - i < f → (∀ k, k < 6 → t.1 2 k = nI (v k)) → t.1 0 20 = nI I.length → (∀ k, k < i → t.1 5 (6 * I.length + k) = nI (v k)) → ∃ u, f_M_image_34 n f (nI i) t = k_lt (f_M_good (nI I.length) u) (fun q_2 => some (q_2.1, q_2.2)) ∧ (∀ o k, o ≠ 5 → ¬ (o = 0 ∧ k = 20) → u.1 o k = t.1 o k) ∧ (∀ j, j < 6 * I.length → u.1 5 j = t.1 5 j) ∧ (∀ k, k < 6 → u.1 5 (6 * I.length + k) = nI (v k)) ∧ u.1 0 20 = nI (I.length + 1) := by
      intro f
      induction f with
      | zero => intro i t _ h; omega
      | succ f ih =>
        intro i t hi hf hv h20 h5
        rw [f_M_image_34, h20]
        rcases Nat.lt_or_ge i 6 with hl2 | hl2
        · rw [if_neg (by rw [l6]; exact nI_ge hl2 (by omega)), l6, pk_mul, nI_add, kgi (kin hl2 (by decide)), kgi (kin (by omega) (by decide)), klt, klt, nI_1, nI_clamp (by omega), nI_clamp (by omega), hv i hl2]
          obtain ⟨u, a, b, c1, d, e⟩ := ih (i + 1) (k_sI t 5 (6 * I.length + i) (nI (v i))) (by omega) (by omega) (fun k hk => by rw [sI1, if_neg (by omega)]; exact hv k hk) (by rw [sI1, if_neg (by omega)]; exact h20) (fun k hk => by
            rw [sI1]
            by_cases q : k = i
            · rw [if_pos ⟨rfl, by omega⟩, q]
            · rw [if_neg (by omega)]; exact h5 k (by omega))
          exact ⟨u, a, fun o k ho hk => by rw [b o k ho hk, sI1, if_neg (by omega)], fun j hj => by rw [c1 j hj, sI1, if_neg (by omega)], d, e⟩
        · have : i = 6 := by omega
          subst this
          rw [if_pos (by decide), klt, nI_1]
          have e9 : (k_sI t 0 20 (nI (I.length + 1))).1 0 20 = nI (I.length + 1) := by rw [sI1, if_pos ⟨rfl, rfl⟩]
          rw [e9, nI_pred]
          exact ⟨_, rfl, fun o k ho hk => by rw [sI1, if_neg (by omega)], fun j hj => by rw [sI1, if_neg (by omega)], fun k hk => by rw [sI1, if_neg (by omega)]; exact h5 k hk, e9⟩
    obtain ⟨u, a, b, c1, d, e⟩ := key n 0 (k_sI m 0 0 0) (by omega) (by omega) hMN0.1 hMN0.2.2.1 (fun k hk => by omega)
    have a' : f_M_image_34 n n 0 (k_sI m 0 0 0) = _ := a
    rw [a']
    have hget : ∀ i w, (I ++ [v])[i]? = some w → (i = I.length ∧ w = v) ∨ (i < I.length ∧ I[i]? = some w) := by
      intro i w hw
      have hi : i < (I ++ [v]).length := (List.getElem?_eq_some_iff.mp hw).1
      simp only [List.length_append, List.length_cons, List.length_nil] at hi
      rcases Nat.lt_or_ge i I.length with q | q
      · rw [List.getElem?_append_left q] at hw
        exact Or.inr ⟨q, hw⟩
      · have : i = I.length := by omega
        rw [List.getElem?_append_right (by omega), this, Nat.sub_self] at hw
        simp at hw
        exact Or.inl ⟨this, hw.symm⟩
    refine Q3.ans (v := v) (K := K) (I := I ++ [v]) ?_ ?_ ?_ ?_ _
    · intro o j q
      rw [sI1, if_neg (by omega), sL1]
    · refine ⟨⟨by rw [sI2, sL2, if_neg (by omega)]; exact hN.1.1, by rw [sI1, if_neg (by omega), sL1]; exact hN.1.2.1, by rw [sI1, if_neg (by omega), sL1]; exact hN.1.2.2.1, hN.1.2.2.2⟩, ⟨by rw [sI1, if_neg (by omega), sL1]; exact hN.2.1.1, hN.2.1.2.1, fun i w hw => by rw [sI2, sL2, if_neg (by omega)]; exact hN.2.1.2.2.1 i w hw, hN.2.1.2.2.2⟩, ⟨by rw [e3]; simp, by simp; omega, fun i w hw => ?_, fun w hw => ?_⟩⟩
      · rw [sI2, sL2]
        rcases hget i w hw with ⟨q1, q2⟩ | ⟨q1, q2⟩
        · rw [if_pos ⟨rfl, q1⟩, q2]
        · rw [if_neg (by omega)]; exact hN.2.2.2.2.1 i w q2
      · rcases List.mem_append.mp hw with q | q
        · exact hN.2.2.2.2.2 w q
        · rw [List.mem_singleton.mp q]; exact hN.1.2.2.2
    · intro o j q
      rw [b o j (by omega) (by omega)]
      exact (th0 m).k0 o j q
    · refine ⟨fun k hk => by rw [b 2 k (by omega) (by omega)]; exact hMN0.1 k hk, ⟨by rw [b 0 19 (by omega) (by omega)]; exact hMN0.2.1.1, fun i w hw k hk => by rw [b 4 _ (by omega) (by omega)]; exact hMN0.2.1.2 i w hw k hk⟩, ⟨by rw [e]; simp, fun i w hw k hk => ?_⟩⟩
      rcases hget i w hw with ⟨q1, q2⟩ | ⟨q1, q2⟩
      · rw [q1, q2]; exact d k hk
      · rw [c1 _ (by omega)]; exact hMN0.2.2.2 i w q2 k hk
theorem e_back {T : t_D} {v : nv} {K I : List nv} {x m : k_St} (h : RX T v K I x m) {n : Nat} (hn : big n) (x1 : Int32) : Q3 T (f_X_back x1 x) x (f_M_back n x1 m) m := by
  have w := h.1
  have hN := h.2.2.2.2.1
  have hMN := h.2.2.2.2.2.2
  have hMN0 := hMN.mk (th0 m)
  have hl := hN.2.2.2.1
  unfold f_X_back f_M_back f_No_goBack
  rw [klt (k_sI m 0 0 0), hN.2.2.1, hMN0.2.2.1]
  rcases pk_ix x1 (n := I.length) (by omega) with hx | hx | ⟨c, hc, rfl⟩
  · rw [if_pos hx, if_pos hx, kcl, if_pos (show k_b false = 0 by decide)]
    exact Q3.no hN (th0 m) hMN 1 (by decide)
  · have h0 : ¬ x1 < 0 := fun q => nI_pos (n := I.length) (by omega) (Int32.lt_of_le_of_lt hx q)
    rw [if_neg h0, if_neg h0, if_neg (Int32.not_lt.mpr hx), if_neg (Int32.not_lt.mpr hx), kcl, if_pos (show k_b false = 0 by decide)]
    exact Q3.no hN (th0 m) hMN 1 (by decide)
  · obtain ⟨u, hu⟩ : ∃ u, I[c]? = some u := ⟨I[c], List.getElem?_eq_getElem (by omega)⟩
    have huok := hN.2.2.2.2.2 u (List.mem_of_getElem? hu)
    rw [if_neg (nI_pos (by omega)), if_neg (nI_pos (by omega)), if_pos (nI_lt hc (by omega)), if_pos (nI_lt hc (by omega)), kgi (kin (by omega) (by decide)), nI_clamp (by omega), hN.2.2.2.2.1 c u hu, klt, funpack w huok, klt, kcl, if_neg (show ¬ k_b true = 0 by decide)]
    have key : ∀ (f i : Nat) (t : k_St), i ≤ 6 → 6 - i < f → (∀ k, k < 6 → t.1 5 (6 * c + k) = nI (u k)) → (∀ k, k < i → t.1 2 k = nI (u k)) → ∃ s, f_M_back_32 n f (nI c) (nI i) t = k_lt (f_M_granted (k_sI s 0 19 0)) (fun q_1 => some (q_1.1, q_1.2)) ∧ (∀ o k, o ≠ 2 → s.1 o k = t.1 o k) ∧ ∀ k, k < 6 → s.1 2 k = nI (u k) := by
      intro f
      induction f with
      | zero => intro i t _ h; omega
      | succ f ih =>
        intro i t hi hf h5 h2
        rw [f_M_back_32]
        rcases Nat.lt_or_ge i 6 with hl2 | hl2
        · rw [if_neg (by rw [l6]; exact nI_ge hl2 (by omega)), l6, pk_mul, nI_add, kgi (kin (by omega) (by decide)), kgi (kin hl2 (by decide)), klt, klt, nI_1, nI_clamp (by omega), nI_clamp (by omega), h5 i hl2]
          obtain ⟨s, a, b, d⟩ := ih (i + 1) (k_sI t 2 i (nI (u i))) (by omega) (by omega) (fun k hk => by rw [sI1, if_neg (by omega)]; exact h5 k hk) (fun k hk => by
            rw [sI1]
            by_cases q : k = i
            · rw [if_pos ⟨rfl, q⟩, q]
            · rw [if_neg (by omega)]; exact h2 k (by omega))
          exact ⟨s, a, fun o k ho => by rw [b o k ho, sI1, if_neg (by omega)], d⟩
        · have : i = 6 := by omega
          subst this
          rw [if_pos (by decide), klt]
          exact ⟨t, rfl, fun _ _ _ => rfl, h2⟩
    obtain ⟨s, a, b, d⟩ := key n 0 (k_sI m 0 0 0) (by omega) (by omega) (fun k hk => hMN0.2.2.2 c u hu k hk) (fun k hk => by omega)
    have a' : f_M_back_32 n n (nI c) 0 (k_sI m 0 0 0) = _ := a
    rw [a']
    refine Q3.yes (v := u) (K := []) (I := I) ?_ ?_ ?_ ?_
    · intro o j q
      rw [sI1, if_neg (by omega), sL1, sI1, if_neg (by omega)]
    · refine ⟨⟨by rw [sI2, sL2, if_pos ⟨rfl, rfl⟩], by rw [sI1, if_neg (by omega), sL1, sI1, if_pos ⟨rfl, rfl⟩], by rw [sI1, if_neg (by omega), sL1, sI1, if_neg (by omega)]; exact hN.1.2.2.1, huok⟩, ⟨by rw [sI1, if_pos ⟨rfl, rfl⟩]; rfl, by simp, fun i w hw => by simp at hw, fun w hw => by cases hw⟩, ⟨by rw [sI1, if_neg (by omega), sL1, sI1, if_neg (by omega)]; exact hN.2.2.1, hN.2.2.2.1, fun i w hw => by rw [sI2, sL2, if_neg (by omega)]; exact hN.2.2.2.2.1 i w hw, hN.2.2.2.2.2⟩⟩
    · intro o j q
      rw [sI1, if_neg (by omega), b o j (by omega)]
      exact (th0 m).k0 o j q
    · refine ⟨fun k hk => by rw [sI1, if_neg (by omega)]; exact d k hk, ⟨by rw [sI1, if_pos ⟨rfl, rfl⟩]; rfl, fun i w hw => by simp at hw⟩, ⟨by rw [sI1, if_neg (by omega), b 0 20 (by omega)]; exact hMN0.2.2.1, fun i w hw k hk => by rw [sI1, if_neg (by omega), b 5 _ (by omega)]; exact hMN0.2.2.2 i w hw k hk⟩⟩
