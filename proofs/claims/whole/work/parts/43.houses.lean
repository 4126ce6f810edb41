/-! ===== houses ===== -/
theorem cnt_le {T : t_D} (w : Tw T) (S : Nat) : (ta_all T S).length < 2 ^ 31 := by have := ta_all_len w S; omega
theorem wanted36 {T : t_D} {v : Nat → Nat} {x m : k_St} (h : XB T v x) {n : Nat} (hn : big n) {k : Nat} (hk : k < T 0 4) : ∀ (j f f2 i c : Nat) (b : Int32) (t : k_St), i + j = T 0 2 → j < f → j < f2 → c < 2 ^ 31 → mk m t → MB T v t → Q2 (f_X_wanted_36 n f (nI k) b (nI c) (nI i) x) x (f_M_wanted_36 n f2 (nI k) (nI c) b (nI i) t) m := by
  have w := h.1
  have hP := w.1.2
  have h256 := w.pow
  have h5 := w.2.2.2.2.1
  have hv := h.2.2.2.2.2.2.2.p8 w k (by omega)
  intro j
  induction j with
  | zero =>
    intro f f2 i c b t hi hf hf2 hc hm g
    obtain ⟨f, rfl⟩ : ∃ f', f = f' + 1 := ⟨f - 1, by omega⟩
    obtain ⟨f2, rfl⟩ : ∃ f', f2 = f' + 1 := ⟨f2 - 1, by omega⟩
    rw [f_X_wanted_36, f_M_wanted_36, h.2.1.1 2 (by omega), g.1.1 2 (by omega), if_pos (nI_le (by omega) (by omega)), if_pos (nI_le (by omega) (by omega))]
    exact Q2.ans (xk.rf x) hm _
  | succ j ih =>
    intro f f2 i c b t hi hf hf2 hc hm g
    obtain ⟨f, rfl⟩ : ∃ f', f = f' + 1 := ⟨f - 1, by omega⟩
    obtain ⟨f2, rfl⟩ : ∃ f', f2 = f' + 1 := ⟨f2 - 1, by omega⟩
    have hor : v k ||| 2 ^ i < 256 := or256 hv (by have : 2 ^ i < 2 ^ 8 := Nat.pow_lt_pow_right (by omega) (by omega); omega)
    rw [f_X_wanted_36, f_M_wanted_36, h.2.1.1 2 (by omega), g.1.1 2 (by omega), if_neg (nI_ge (by omega) (by omega)), if_neg (nI_ge (by omega) (by omega)), h.known (by omega), nI_shl i (by omega), nI_or, fcountOf h.2.2.1 h.rows (by omega) (by omega), kcp, ← h.all, kgi (kin (by omega) (by decide)), nI_clamp (by omega), g.2 k (by omega), nI_or]
    obtain ⟨u, e, hz⟩ := ftellsAll w (show v k ||| 2 ^ i < 2 ^ 31 by omega) hn g.1
    have hcl := cnt_le w (v k ||| 2 ^ i)
    rw [e, kcl]
    by_cases hlt : c < (ta_all T (v k ||| 2 ^ i)).length
    · rw [if_neg (nI_ge hlt hcl), if_pos (nI_lt hlt hcl), klt, klt, nI_1]
      exact ih f f2 (i + 1) _ _ u (by omega) (by omega) (by omega) hcl (hm.tr hz.mk) (g.mk hz.mk)
    · rw [if_pos (nI_le (by omega) hc), if_neg (nI_nlt (by omega) hc), klt, klt, nI_1]
      exact ih f f2 (i + 1) c b u (by omega) (by omega) (by omega) hc (hm.tr hz.mk) (g.mk hz.mk)
theorem e_wanted {T : t_D} {v : Nat → Nat} {x m : k_St} (h : XB T v x) (g : MB T v m) {n : Nat} (hn : big n) (x1 : Int32) : Q2 (f_X_wanted n x1 x) x (f_M_wanted n x1 m) m := by
  have w := h.1
  have g0 := g.mk (th0 m)
  have h256 := w.pow
  have hP := w.1.2
  have h5 := w.2.2.2.2.1
  unfold f_X_wanted f_M_wanted
  rw [klt (k_sI m 0 0 0)]
  rcases house_or w h.2.1 g0.1 x1 with ⟨a, b⟩ | ⟨k, hk, rfl, a, b⟩
  · rw [if_neg (k_bne a), if_pos (k_beq b)]
    exact Q2.ref (xk.rf x) (th0 m) 1 (by decide)
  · have hv := h.2.2.2.2.2.2.2.p8 w k (by omega)
    rw [if_pos (k_beq a), if_neg (k_bne b), h.known (by omega), fcountOf h.2.2.1 h.rows (by omega) (by omega), kcp, kgi (kin (by omega) (by decide)), nI_clamp (by omega), g0.2 k (by omega)]
    obtain ⟨u, e, hm⟩ := ftellsAll w (show v k < 2 ^ 31 by omega) hn g0.1
    rw [e, kcl, ← h.all]
    exact wanted36 h hn hk (T 0 2) n n 0 _ (-2) u (by omega) (by omega) (by omega) (cnt_le w _) ((th0 m).tr hm.mk) (g0.mk hm.mk)
theorem fisSilent {T : t_D} (w : Tw T) {x : k_St} (h : XT T x) {q : Nat} (hq : q < 32) : f_Te_isSilent x (nI q) = (T 0 6).testBit q := by
  have h6 := w.2.2.2.2.2.2.1
  have h5 := w.2.2.2.2.1
  have : 2 ^ T 0 4 ≤ 2 ^ 5 := Nat.pow_le_pow_right (by omega) h5
  unfold f_Te_isSilent
  rw [h.1 6 (by omega)]
  by_cases hb : (T 0 6).testBit q = true
  · rw [if_neg (fun e => by rw [nI_bit0 (by omega) hq] at e; rw [hb] at e; cases e), hb]
  · simp only [Bool.not_eq_true] at hb
    rw [if_pos ((nI_bit0 (by omega) hq).mpr hb), hb]
theorem fcanTell {T : t_D} (w : Tw T) {m : k_St} (h : MTT T m) {q : Nat} (hq : q < 32) : f_M_canTell m (nI q) = !(T 0 6).testBit q := by
  have h6 := w.2.2.2.2.2.2.1
  have h5 := w.2.2.2.2.1
  have : 2 ^ T 0 4 ≤ 2 ^ 5 := Nat.pow_le_pow_right (by omega) h5
  unfold f_M_canTell
  rw [h.1 6 (by omega), fMbit (by omega) hq]
  by_cases hb : (T 0 6).testBit q = true
  · rw [if_neg (k_bne hb), hb]; rfl
  · simp only [Bool.not_eq_true] at hb
    rw [if_pos (k_beq hb), hb]; rfl
theorem ask36 {T : t_D} {v : Nat → Nat} {x m : k_St} (h : XB T v x) {n : Nat} (hn : big n) {k : Nat} (hk : k < T 0 4) : ∀ (j f f2 i c : Nat) (b : Int32) (t : k_St), i + j = T 0 4 → j < f → j < f2 → c < 2 ^ 31 → (ta_all T (v k)).length ≤ c → mk m t → MB T v t → Q2 (f_X_ask_36 n f (nI k) b (nI c) (nI i) x) x (f_M_ask_36 n f2 (nI k) (nI c) b (nI i) t) m := by
  have w := h.1
  have h256 := w.pow
  have h5 := w.2.2.2.2.1
  have hv := h.2.2.2.2.2.2.2.p8 w
  intro j
  induction j with
  | zero =>
    intro f f2 i c b t hi hf hf2 hc hc0 hm g
    obtain ⟨f, rfl⟩ : ∃ f', f = f' + 1 := ⟨f - 1, by omega⟩
    obtain ⟨f2, rfl⟩ : ∃ f', f2 = f' + 1 := ⟨f2 - 1, by omega⟩
    rw [f_X_ask_36, f_M_ask_36, h.2.1.1 4 (by omega), g.1.1 4 (by omega), if_pos (nI_le (by omega) (by omega)), if_pos (nI_le (by omega) (by omega))]
    exact Q2.ans (xk.rf x) hm _
  | succ j ih =>
    intro f f2 i c b t hi hf hf2 hc hc0 hm g
    obtain ⟨f, rfl⟩ : ∃ f', f = f' + 1 := ⟨f - 1, by omega⟩
    obtain ⟨f2, rfl⟩ : ∃ f', f2 = f' + 1 := ⟨f2 - 1, by omega⟩
    have hor : v k ||| v i < 256 := or256 (hv k (by omega)) (hv i (by omega))
    rw [f_X_ask_36, f_M_ask_36, h.2.1.1 4 (by omega), g.1.1 4 (by omega), if_neg (nI_ge (by omega) (by omega)), if_neg (nI_ge (by omega) (by omega)), fisSilent w h.2.1 (by omega)]
    have nok : f_M_ask_84 n (f_M_ask_36 n f2) (nI k) (nI c) b (nI i) t = f_M_ask_36 n f2 (nI k) (nI c) b (nI (i + 1)) t := by
      unfold f_M_ask_84
      rw [if_neg (show ¬ nI c < (0 : Int32) from nI_pos hc), klt, nI_1]
    by_cases hs : (T 0 6).testBit i = true
    · have hX : f_X_ask_36 n f (nI k) b (nI c) (nI (i + 1)) x = f_X_ask_36 n f (nI k) b (nI c) (nI i + 1) x := by rw [nI_1]
      rw [if_neg (k_bne hs), if_pos (show (0 : Int32) ≤ nI c from nI_pos' hc), klt, nI_1]
      have hfin := ih f f2 (i + 1) c b t (by omega) (by omega) (by omega) hc hc0 hm g
      by_cases hik : i = k
      · rw [if_pos (by rw [hik]), nok]
        exact hfin
      · rw [if_neg (fun e => hik (nI_inj (by omega) (by omega) e)), fcanTell w g.1 (by omega), hs, if_pos (by decide), nok]
        exact hfin
    · simp only [Bool.not_eq_true] at hs
      rw [if_pos (k_beq hs), h.known (by omega), h.known (by omega), nI_or, fcountOf h.2.2.1 h.rows (by omega) (by omega), kcp, ← h.all]
      by_cases hik : i = k
      · subst hik
        rw [Nat.or_self, if_pos (nI_le hc0 hc), klt, nI_1, if_pos rfl, nok]
        exact ih f f2 (i + 1) c b t (by omega) (by omega) (by omega) hc hc0 hm g
      · rw [if_neg (fun e => hik (nI_inj (by omega) (by omega) e)), fcanTell w g.1 (by omega), hs, if_neg (show ¬ k_b (!false) = 0 by decide), kgi (kin (by omega) (by decide)), kgi (kin (by omega) (by decide)), nI_clamp (by omega), nI_clamp (by omega), g.2 k (by omega), g.2 i (by omega), nI_or]
        obtain ⟨u, e, hz⟩ := ftellsAll w (show v k ||| v i < 2 ^ 31 by omega) hn g.1
        have hcl := cnt_le w (v k ||| v i)
        rw [e, kcl]
        by_cases hlt : c < (ta_all T (v k ||| v i)).length
        · rw [if_neg (nI_ge hlt hcl), if_pos (nI_lt hlt hcl), klt, klt, nI_1]
          exact ih f f2 (i + 1) _ _ u (by omega) (by omega) (by omega) hcl (by omega) (hm.tr hz.mk) (g.mk hz.mk)
        · rw [if_pos (nI_le (by omega) hc), if_neg (nI_nlt (by omega) hc), klt, klt, nI_1]
          exact ih f f2 (i + 1) c b u (by omega) (by omega) (by omega) hc hc0 (hm.tr hz.mk) (g.mk hz.mk)
theorem e_ask {T : t_D} {v : Nat → Nat} {x m : k_St} (h : XB T v x) (g : MB T v m) {n : Nat} (hn : big n) (x1 : Int32) : Q2 (f_X_ask n x1 x) x (f_M_ask n x1 m) m := by
  have w := h.1
  have g0 := g.mk (th0 m)
  have h256 := w.pow
  have h5 := w.2.2.2.2.1
  unfold f_X_ask f_M_ask
  rw [klt (k_sI m 0 0 0)]
  rcases house_or w h.2.1 g0.1 x1 with ⟨a, b⟩ | ⟨k, hk, rfl, a, b⟩
  · rw [if_neg (k_bne a), if_pos (k_beq b)]
    exact Q2.ref (xk.rf x) (th0 m) 1 (by decide)
  · have hv := h.2.2.2.2.2.2.2.p8 w k (by omega)
    rw [if_pos (k_beq a), if_neg (k_bne b), h.known (by omega), fcountOf h.2.2.1 h.rows (by omega) (by omega), kcp, kgi (kin (by omega) (by decide)), nI_clamp (by omega), g0.2 k (by omega)]
    obtain ⟨u, e, hm⟩ := ftellsAll w (show v k < 2 ^ 31 by omega) hn g0.1
    rw [e, kcl, ← h.all]
    exact ask36 h hn hk (T 0 4) n n 0 _ (-2) u (by omega) (by omega) (by omega) (cnt_le w _) (Nat.le_refl _) ((th0 m).tr hm.mk) (g0.mk hm.mk)
/-- what the houses of a set KNOW, beside a -/
def ua (v : Nat → Nat) (s a : Nat) : Nat → Nat
  | 0 => a
  | k + 1 => if s.testBit k then ua v s a k ||| v k else ua v s a k
theorem ua_or (v : Nat → Nat) (s a : Nat) : ∀ k, ua v s a k = a ||| ua v s 0 k
  | 0 => by simp [ua]
  | k + 1 => by
    rw [ua, ua, ua_or v s a k]
    split
    · rw [Nat.or_assoc]
    · rfl
theorem ua_lt {v : Nat → Nat} {s a : Nat} (ha : a < 256) : ∀ k, (∀ h, h < k → v h < 256) → ua v s a k < 256
  | 0, _ => ha
  | k + 1, h => by
    rw [ua]
    split
    · exact or256 (ua_lt ha k (fun i hi => h i (by omega))) (h k (by omega))
    · exact ua_lt ha k (fun i hi => h i (by omega))
theorem fknownByAny {T : t_D} {v : Nat → Nat} {x : k_St} (h : XB T v x) {n s : Nat} (hn : 10 ≤ n) (hs : s < 2 ^ 31) : f_No_knownByAny n x (nI s) = some (nI (ua v s 0 (T 0 4))) := by
  have w := h.1
  have h5 := w.2.2.2.2.1
  have key : ∀ (j f i : Nat), i + j = T 0 4 → j < f → f_No_knownByAny_4 n x f (nI s) (nI (ua v s 0 i)) (nI i) = some (nI (ua v s 0 (T 0 4))) := by
    intro j
    induction j with
    | zero =>
      intro f i hi hf
      obtain ⟨f, rfl⟩ : ∃ f', f = f' + 1 := ⟨f - 1, by omega⟩
      rw [f_No_knownByAny_4, h.2.2.2.2.2.2.1, if_pos (nI_le (by omega) (by omega)), show i = T 0 4 by omega]
    | succ j ih =>
      intro f i hi hf
      obtain ⟨f, rfl⟩ : ∃ f', f = f' + 1 := ⟨f - 1, by omega⟩
      have := ih f (i + 1) (by omega) (by omega)
      rw [ua] at this
      rw [f_No_knownByAny_4, h.2.2.2.2.2.2.1, if_neg (nI_ge (by omega) (by omega))]
      by_cases hb : s.testBit i = true
      · rw [if_pos hb] at this
        rw [if_neg (fun e => by rw [nI_bit0 hs (by omega)] at e; rw [hb] at e; cases e), klt, klt, h.known (by omega), nI_or, nI_1]
        exact this
      · rw [if_neg hb] at this
        simp only [Bool.not_eq_true] at hb
        rw [if_pos ((nI_bit0 hs (by omega)).mpr hb), klt, nI_1]
        exact this
  exact key (T 0 4) n 0 (by omega) (by omega)
theorem faskAll88 {T : t_D} {v : Nat → Nat} (w : Tw T) {n s a k : Nat} {b : Int32} {rec24 : Int32 → Int32 → Int32 → k_St → Option (Int32 × k_St)} (hs : s < 2 ^ 31) : ∀ (j f i : Nat) (t : k_St), i + j = T 0 4 → j < f → MB T v t → f_M_askAll_88 n rec24 f (nI k) b (nI s) (nI (ua v s a i)) (nI i) t = k_cl (f_M_hasTale n (nI (ua v s a (T 0 4))) t) (fun r_2 t_1 => (if (k_b r_2) = 0 then rec24 (nI k) b (nI (s + 1)) t_1 else rec24 (nI k) (nI s) (nI (s + 1)) t_1)) := by
  have h5 := w.2.2.2.2.1
  intro j
  induction j with
  | zero =>
    intro f i t hi hf g
    obtain ⟨f, rfl⟩ : ∃ f', f = f' + 1 := ⟨f - 1, by omega⟩
    rw [f_M_askAll_88, g.1.1 4 (by omega), if_pos (nI_le (by omega) (by omega)), show i = T 0 4 by omega]
    simp only [klt, nI_1]
  | succ j ih =>
    intro f i t hi hf g
    obtain ⟨f, rfl⟩ : ∃ f', f = f' + 1 := ⟨f - 1, by omega⟩
    have := ih f (i + 1) t (by omega) (by omega) g
    rw [ua] at this
    rw [f_M_askAll_88, g.1.1 4 (by omega), if_neg (nI_ge (by omega) (by omega)), fMbit hs (by omega)]
    by_cases hb : s.testBit i = true
    · rw [if_pos hb] at this
      rw [if_neg (k_bne hb), kgi (kin (by omega) (by decide)), klt, klt, nI_clamp (by omega), g.2 i (by omega), nI_or, nI_1]
      exact this
    · rw [if_neg hb] at this
      simp only [Bool.not_eq_true] at hb
      rw [if_pos (k_beq hb), klt, klt, Int32.or_zero, nI_1]
      exact this
theorem and_or_zero (s a b : Nat) : s &&& (a ||| b) = 0 ↔ s &&& a = 0 ∧ s &&& b = 0 := by
  constructor
  · intro h
    constructor
    · apply Nat.eq_of_testBit_eq; intro i
      have := congrArg (fun z => z.testBit i) h
      simp only [Nat.testBit_and, Nat.testBit_or, Nat.zero_testBit] at this ⊢
      cases hs : s.testBit i <;> simp_all
    · apply Nat.eq_of_testBit_eq; intro i
      have := congrArg (fun z => z.testBit i) h
      simp only [Nat.testBit_and, Nat.testBit_or, Nat.zero_testBit] at this ⊢
      cases hs : s.testBit i <;> simp_all
  · rintro ⟨h1, h2⟩
    apply Nat.eq_of_testBit_eq; intro i
    have a1 := congrArg (fun z => z.testBit i) h1
    have a2 := congrArg (fun z => z.testBit i) h2
    simp only [Nat.testBit_and, Nat.testBit_or, Nat.zero_testBit] at a1 a2 ⊢
    cases hs : s.testBit i <;> simp_all
theorem and_pow_zero (s k : Nat) : s &&& 2 ^ k = 0 ↔ s.testBit k = false := by
  constructor
  · intro h
    have := congrArg (fun z => z.testBit k) h
    simpa using this
  · intro h
    apply Nat.eq_of_testBit_eq; intro i
    rw [Nat.testBit_and, Nat.testBit_two_pow, Nat.zero_testBit]
    by_cases e : k = i
    · subst e; rw [h]; rfl
    · simp [e]
theorem askAll24 {T : t_D} {v : Nat → Nat} {x m : k_St} (h : XB T v x) {n : Nat} (hn : big n) {k : Nat} (hk : k < T 0 4) : ∀ (j f f2 s : Nat) (b : Int32) (t : k_St), s + j = 2 ^ T 0 4 → j < f → j < f2 → (b = -2 ∨ ∃ z, z < 32 ∧ b = nI z) → mk m t → MB T v t → Q2 (f_X_askAll_32 n f (nI k) b (nI (T 0 6 ||| 2 ^ k)) (nI s) x) x (f_M_askAll_24 n f2 (nI k) b (nI s) t) m := by
  have w := h.1
  have h256 := w.pow
  have h5 := w.2.2.2.2.1
  have h6 := w.2.2.2.2.2.2.1
  have hv := h.2.2.2.2.2.2.2.p8 w
  have h32 : 2 ^ T 0 4 ≤ 2 ^ 5 := Nat.pow_le_pow_right (by omega) h5
  intro j
  induction j with
  | zero =>
    intro f f2 s b t hi hf hf2 hb hm g
    obtain ⟨f, rfl⟩ : ∃ f', f = f' + 1 := ⟨f - 1, by omega⟩
    obtain ⟨f2, rfl⟩ : ∃ f', f2 = f' + 1 := ⟨f2 - 1, by omega⟩
    rw [f_X_askAll_32, f_M_askAll_24, h.2.1.1 4 (by omega), g.1.1 4 (by omega), nI_shl _ (by omega), if_pos (nI_le (by omega) (by omega)), if_pos (nI_le (by omega) (by omega))]
    exact Q2.ans (xk.rf x) hm _
  | succ j ih =>
    intro f f2 s b t hi hf hf2 hb hm g
    obtain ⟨f, rfl⟩ : ∃ f', f = f' + 1 := ⟨f - 1, by omega⟩
    obtain ⟨f2, rfl⟩ : ∃ f', f2 = f' + 1 := ⟨f2 - 1, by omega⟩
    have skip := ih f f2 (s + 1) b t (by omega) (by omega) (by omega) hb hm g
    rw [f_X_askAll_32, f_M_askAll_24, h.2.1.1 4 (by omega), g.1.1 4 (by omega), g.1.1 6 (by omega), nI_shl _ (by omega), if_neg (nI_ge (by omega) (by omega)), if_neg (nI_ge (by omega) (by omega)), nI_and, fMbit (by omega) (by omega)]
    -- the class's second half
    have hX69 : ∀ z : Int32, f_X_askAll_69 n (f_X_askAll_32 n f) (nI k) b (nI (T 0 6 ||| 2 ^ k)) (nI s) z x = if (s &&& T 0 6 = 0 ∧ s.testBit k = false) then (if z = 0 then f_X_askAll_32 n f (nI k) b (nI (T 0 6 ||| 2 ^ k)) (nI (s + 1)) x else (if (ta_all T (ua v s (v k) (T 0 4))).isEmpty then f_X_askAll_32 n f (nI k) b (nI (T 0 6 ||| 2 ^ k)) (nI (s + 1)) x else f_X_askAll_32 n f (nI k) (nI s) (nI (T 0 6 ||| 2 ^ k)) (nI (s + 1)) x)) else f_X_askAll_32 n f (nI k) b (nI (T 0 6 ||| 2 ^ k)) (nI (s + 1)) x := by
      intro z
      have hlt : s &&& (T 0 6 ||| 2 ^ k) < 2 ^ 31 := Nat.lt_of_le_of_lt Nat.and_le_left (by omega)
      have hul := ua_lt (s := s) (hv k (by omega)) (T 0 4) (fun i hi => hv i (by omega))
      unfold f_X_askAll_69
      simp only [klt, nI_1, nI_and]
      by_cases hc : s &&& T 0 6 = 0 ∧ s.testBit k = false
      · rw [if_pos hc, if_pos (by rw [(and_or_zero s (T 0 6) (2 ^ k)).mpr ⟨hc.1, (and_pow_zero s k).mpr hc.2⟩]; rfl)]
        by_cases hz : z = 0
        · rw [if_pos hz, if_pos hz]
        · rw [if_neg hz, if_neg hz, fknownByAny h (by omega) (by omega), kcp, h.known (by omega), nI_or, ← ua_or, fmakeSense h.2.2.1 h.rows (by omega) (by omega), kcp, ← h.all]
          by_cases he : (ta_all T (ua v s (v k) (T 0 4))).isEmpty = true
          · rw [if_pos he, if_pos (k_beq (by rw [he]; rfl))]
          · rw [if_neg he, if_neg (k_bne (by simp only [Bool.not_eq_true] at he; rw [he]; rfl))]
      · rw [if_neg hc, if_neg]
        intro e
        have e' : s &&& (T 0 6 ||| 2 ^ k) = 0 := nI_inj hlt (by decide) (e.trans nI_0.symm)
        have := (and_or_zero s (T 0 6) (2 ^ k)).mp e'
        exact hc ⟨this.1, (and_pow_zero s k).mp this.2⟩
    -- the reference's second half
    have hul := ua_lt (s := s) (hv k (by omega)) (T 0 4) (fun i hi => hv i (by omega))
    obtain ⟨u, e, hz⟩ := fhasTale w (show ua v s (v k) (T 0 4) < 2 ^ 31 by omega) hn g.1
    have hM88 : f_M_askAll_88 n (f_M_askAll_24 n f2) n (nI k) b (nI s) (nI (v k)) 0 t = if (ta_all T (ua v s (v k) (T 0 4))).isEmpty then f_M_askAll_24 n f2 (nI k) b (nI (s + 1)) u else f_M_askAll_24 n f2 (nI k) (nI s) (nI (s + 1)) u := by
      have := faskAll88 (v := v) (n := n) (a := v k) (k := k) (b := b) (rec24 := f_M_askAll_24 n f2) w (show s < 2 ^ 31 by omega) (T 0 4) n 0 t (by omega) (by omega) g
      rw [show ua v s (v k) 0 = v k from rfl, nI_0, e, kcl] at this
      rw [this]
      by_cases he : (ta_all T (ua v s (v k) (T 0 4))).isEmpty = true
      · rw [if_pos he, if_pos (k_beq (by rw [he]; rfl))]
      · rw [if_neg he, if_neg (k_bne (by simp only [Bool.not_eq_true] at he; rw [he]; rfl))]
    have both : s &&& T 0 6 = 0 → s.testBit k = false → Q2 (f_X_askAll_69 n (f_X_askAll_32 n f) (nI k) b (nI (T 0 6 ||| 2 ^ k)) (nI s) 1 x) x (f_M_askAll_88 n (f_M_askAll_24 n f2) n (nI k) b (nI s) (nI (v k)) 0 t) m := by
      intro c1 c2
      rw [hX69, if_pos ⟨c1, c2⟩, if_neg (by decide), hM88]
      by_cases he : (ta_all T (ua v s (v k) (T 0 4))).isEmpty = true
      · rw [if_pos he, if_pos he]
        exact ih f f2 (s + 1) b u (by omega) (by omega) (by omega) hb (hm.tr hz.mk) (g.mk hz.mk)
      · rw [if_neg he, if_neg he]
        exact ih f f2 (s + 1) (nI s) u (by omega) (by omega) (by omega) (Or.inr ⟨s, by omega, rfl⟩) (hm.tr hz.mk) (g.mk hz.mk)
    have hand : s &&& T 0 6 < 2 ^ 31 := Nat.lt_of_le_of_lt Nat.and_le_left (by omega)
    by_cases c1 : s &&& T 0 6 = 0
    · rw [if_pos (show nI (s &&& T 0 6) = 0 by rw [c1]; rfl)]
      by_cases c2 : s.testBit k = true
      · rw [if_neg (k_bne c2), klt, nI_1]
        have hno : ¬ (s &&& T 0 6 = 0 ∧ s.testBit k = false) := fun q => by rw [c2] at q; cases q.2
        by_cases hb2 : b = -2
        · rw [if_pos hb2]
          unfold f_X_askAll_64
          rw [hX69, if_neg hno]; exact skip
        · rw [if_neg hb2]
          split
          · rw [hX69, if_neg hno]; exact skip
          · unfold f_X_askAll_64
            rw [hX69, if_neg hno]; exact skip
      · simp only [Bool.not_eq_true] at c2
        rw [if_pos (k_beq c2)]
        by_cases hb2 : b = -2
        · rw [if_pos hb2, if_pos hb2, kgi (kin (by omega) (by decide)), klt, nI_clamp (by omega), g.2 k (by omega)]
          exact both c1 c2
        · obtain ⟨z, hz32, rfl⟩ : ∃ z, z < 32 ∧ b = nI z := by
            rcases hb with e | e
            · exact absurd e hb2
            · exact e
          have hz1 := pc8_le z
          have hs1 := pc8_le s
          rw [if_neg hb2, if_neg hb2, fMbits (by omega) (by omega), kcp, fMbits (by omega) (by omega), kcp, bc8 z (by omega), bc8 s (by omega)]
          by_cases hlt : pc8 s < pc8 z
          · rw [if_neg (nI_ge hlt (by omega)), if_pos (nI_lt hlt (by omega)), kgi (kin (by omega) (by decide)), klt, nI_clamp (by omega), g.2 k (by omega)]
            exact both c1 c2
          · rw [if_pos (nI_le (by omega) (by omega)), if_neg (nI_nlt (by omega) (by omega)), klt, nI_1, hX69, if_pos ⟨c1, c2⟩, if_pos rfl]
            exact skip
    · rw [if_neg (neL 0 c1 rfl hand (by decide)), klt, nI_1]
      have hno : ¬ (s &&& T 0 6 = 0 ∧ s.testBit k = false) := fun q => c1 q.1
      by_cases hb2 : b = -2
      · rw [if_pos hb2]
        unfold f_X_askAll_64
        rw [hX69, if_neg hno]; exact skip
      · rw [if_neg hb2]
        split
        · rw [hX69, if_neg hno]; exact skip
        · unfold f_X_askAll_64
          rw [hX69, if_neg hno]; exact skip
theorem e_askAll {T : t_D} {v : Nat → Nat} {x m : k_St} (h : XB T v x) (g : MB T v m) {n : Nat} (hn : big n) (x1 : Int32) : Q2 (f_X_askAll n x1 x) x (f_M_askAll n x1 m) m := by
  have w := h.1
  have g0 := g.mk (th0 m)
  have h5 := w.2.2.2.2.1
  have h32 : 2 ^ T 0 4 ≤ 2 ^ 5 := Nat.pow_le_pow_right (by omega) h5
  unfold f_X_askAll f_M_askAll
  rw [klt (k_sI m 0 0 0)]
  rcases house_or w h.2.1 g0.1 x1 with ⟨a, b⟩ | ⟨k, hk, rfl, a, b⟩
  · rw [if_neg (k_bne a), if_pos (k_beq b)]
    exact Q2.ref (xk.rf x) (th0 m) 1 (by decide)
  · rw [if_pos (k_beq a), if_neg (k_bne b), klt, h.2.1.1 6 (by omega), nI_shl k (by omega), nI_or]
    exact askAll24 h hn hk (2 ^ T 0 4) n n 0 (-2) _ (by omega) (by omega) (by omega) (Or.inl rfl) (th0 m) g0
