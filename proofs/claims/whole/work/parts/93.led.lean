/-! ===== led: the reference ===== -/
/-- the x1-th house (from j on, a of them counted already) for which p holds -/
def ld (p : Nat → Bool) (x1 : Int32) : Nat → Nat → Nat → Option Nat
  | 0, _, _ => none
  | q + 1, j, a => if p j = true then (if nI a = x1 then some j else ld p x1 q (j + 1) (a + 1)) else ld p x1 q (j + 1) a
theorem ld_lt (p : Nat → Bool) (x1 : Int32) : ∀ q j a k, ld p x1 q j a = some k → k < j + q
  | 0, j, a, k, h => by simp [ld] at h
  | q + 1, j, a, k, h => by
    rw [ld] at h
    split at h
    · split at h
      · have : j = k := Option.some.inj h
        omega
      · have := ld_lt p x1 q (j + 1) (a + 1) k h
        omega
    · have := ld_lt p x1 q (j + 1) a k h
      omega
/-- houses without SENSE -/
def nse (T : t_D) (v : nv) (h : Nat) : Bool := (ta_all T (v h)).isEmpty
theorem fMled9 {T : t_D} {v : nv} (w : Tw T) (hv : pk8 v) {n : Nat} (hn : big n) (x1 : Int32) : ∀ (q f j a : Nat) (t : k_St), j + q = T 0 4 → q < f → MB T v t → ∃ u, mz t u ∧ (∀ k, ld (nse T v) x1 q j a = some k → f_M_led_9 n f x1 (nI a) (nI j) t = some (nI k, u)) ∧ (ld (nse T v) x1 q j a = none → f_M_led_9 n f x1 (nI a) (nI j) t = some (0, k_sI u 0 0 1)) := by
  have h5 := w.2.2.2.2.1
  intro q
  induction q with
  | zero =>
    intro f j a t hj hf g
    obtain ⟨f, rfl⟩ : ∃ f', f = f' + 1 := ⟨f - 1, by omega⟩
    refine ⟨t, mz.rf t, fun k h => by simp [ld] at h, fun _ => ?_⟩
    rw [f_M_led_9, g.1.1 4 (by omega), if_pos (nI_le (by omega) (by omega)), klt]
  | succ q ih =>
    intro f j a t hj hf g
    obtain ⟨f, rfl⟩ : ∃ f', f = f' + 1 := ⟨f - 1, by omega⟩
    have hvj := hv j (by omega)
    obtain ⟨u, e, hz⟩ := fhasTale w (show v j < 2 ^ 31 by omega) hn g.1
    have gu := g.mk hz.mk
    rw [f_M_led_9, g.1.1 4 (by omega), if_neg (nI_ge (by omega) (by omega)), kgi (kin (by omega) (by decide)), nI_clamp (by omega), g.2 j (by omega), e, kcl, ld]
    by_cases he : nse T v j = true
    · have he' : (ta_all T (v j)).isEmpty = true := he
      rw [if_pos (k_beq (by rw [he']; rfl)), if_pos he]
      by_cases ea : nI a = x1
      · rw [if_pos ea, if_pos ea]
        exact ⟨u, hz, fun k h => by rw [Option.some.inj h], fun h => by simp at h⟩
      · rw [if_neg ea, if_neg ea, klt, klt, nI_1, nI_1]
        obtain ⟨u2, z2, c1, c2⟩ := ih f (j + 1) (a + 1) u (by omega) (by omega) gu
        exact ⟨u2, hz.tr z2, c1, c2⟩
    · have he' : (ta_all T (v j)).isEmpty = false := by simpa [nse] using he
      rw [if_neg (k_bne (by rw [he']; rfl)), if_neg he, klt, nI_1]
      obtain ⟨u2, z2, c1, c2⟩ := ih f (j + 1) a u (by omega) (by omega) gu
      exact ⟨u2, hz.tr z2, c1, c2⟩
theorem CR.mz {x m u : k_St} (h : CR x m) (e : mz m u) : CR x u := by
  obtain ⟨h1, ⟨k, k1, k2, k3⟩, h3, h4, h5⟩ := h
  exact ⟨fun i hi => by rw [e.2 1 i (by omega) (by omega) (by omega)]; exact h1 i hi, ⟨k, k1, k2, by rw [e.2 0 6 (by omega) (by omega) (by omega)]; exact k3⟩, by rw [e.2 0 12 (by omega) (by omega) (by omega)]; exact h3, by rw [e.2 0 1 (by omega) (by omega) (by omega)]; exact h4, by rw [e.2 0 2 (by omega) (by omega) (by omega)]; exact h5⟩
theorem R1.mz {T : t_D} {v : nv} {K I : List nv} {x m u : k_St} (h : R1 T v K I x m) (e : mz m u) : R1 T v K I x u := by
  obtain ⟨⟨w, hX, hB, h10, hN, hM, hMN⟩, hS, hTI, hP, hC⟩ := h
  exact ⟨⟨w, hX, hB, h10, hN, hM.same (fun o k z1 z2 => e.2 o k (by omega) (by omega) (by omega)), hMN.mk e.mk⟩, hS, hTI, hP, hC.mz e⟩
theorem s_led {T : t_D} {v : nv} {K I : List nv} {x m : k_St} (h : R1 T v K I x m) {n : Nat} (hn : big n) (x1 : Int32) : ∃ u, R1 T v K I x u ∧ ((∃ k, k < 5 ∧ ld (nse T v) x1 (T 0 4) 0 0 = some k ∧ f_M_led n x1 m = some (nI k, u) ∧ u.1 0 0 = 0) ∨ (ld (nse T v) x1 (T 0 4) 0 0 = none ∧ f_M_led n x1 m = some (0, u) ∧ u.1 0 0 = 1)) := by
  have w := h.1.1
  have h5 := w.2.2.2.2.1
  have h0 := h.th 0
  obtain ⟨u, z, c1, c2⟩ := fMled9 w (h.1.XB.2.2.2.2.2.2.2.p8 w) hn x1 (T 0 4) n 0 0 (k_sI m 0 0 0) (by omega) (by omega) h0.1.MB
  have e0 : f_M_led n x1 m = f_M_led_9 n n x1 (nI 0) (nI 0) (k_sI m 0 0 0) := rfl
  have u0 : u.1 0 0 = 0 := by rw [z.2 0 0 (by omega) (by omega) (by omega), sI1, if_pos ⟨rfl, rfl⟩]
  cases hl : ld (nse T v) x1 (T 0 4) 0 0 with
  | some k =>
    have := ld_lt _ _ _ _ _ _ hl
    exact ⟨u, h0.mz z, Or.inl ⟨k, by omega, rfl, by rw [e0]; exact c1 k hl, u0⟩⟩
  | none =>
    exact ⟨k_sI u 0 0 1, (h0.mz z).th 1, Or.inr ⟨rfl, by rw [e0]; exact c2 hl, by rw [sI1, if_pos ⟨rfl, rfl⟩]⟩⟩
/-- what the class's loop meets: each house below the count has SENSE or not -/
def LH (n : Nat) (x : k_St) (c : Nat) (p : Nat → Bool) : Prop := c ≤ 5 ∧ x.1 2 4 = nI c ∧ ∀ k, k < c → f_X_hasSense n x (nI k) = some (!(p k))
theorem R1.lh {T : t_D} {v : nv} {K I : List nv} {x m : k_St} (h : R1 T v K I x m) {n : Nat} (hn : big n) : LH n x (T 0 4) (nse T v) := ⟨h.1.1.2.2.2.2.1, h.1.2.1.1 4 (by omega), fun k hk => fhasSense h.1.XB (by omega) (by have := h.1.1.2.2.2.2.1; omega)⟩
theorem R0.lh {x m : k_St} (h : R0 x m) (n : Nat) (p : Nat → Bool) : LH n x 0 p := ⟨by omega, h.2.1 4 (by omega), fun k hk => by omega⟩
