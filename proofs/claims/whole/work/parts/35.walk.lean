/-! ===== nextTale yields the TALES one behind the other ===== -/
def ms (T : t_D) : List Nat → Nat
  | [] => 0
  | q :: rp => ms T rp + (T 0 2 - q) * 10 ^ (8 - rp.length)
def mu (T : t_D) (rp : List Nat) (c : Nat) : Nat := ms T rp + (T 0 2 + 1 - c) * 10 ^ (8 - rp.length)
theorem ms_le {T : t_D} (w : Tw T) : ∀ rp, ok T rp → ms T rp + 10 * 10 ^ (8 - rp.length) ≤ 1000000000
  | [], _ => by simp [ms]
  | q :: rp, h => by
    have h1 := ms_le w rp h.2.2
    have hl := ok_len w h
    have hP := w.1.2
    rw [List.length_cons] at hl
    have e : 10 ^ (8 - rp.length) = 10 * 10 ^ (8 - (q :: rp).length) := by
      rw [List.length_cons, ← Nat.pow_succ']
      congr 1; omega
    rw [ms, e]
    rw [e] at h1
    generalize 10 ^ (8 - (q :: rp).length) = z at h1 ⊢
    have h2 : (T 0 2 - q) * (10 * z) ≤ 8 * (10 * z) := Nat.mul_le_mul_right _ (by omega)
    omega
theorem mu_le {T : t_D} (w : Tw T) {rp : List Nat} (h : ok T rp) (c : Nat) : mu T rp c ≤ 1000000000 := by
  have h1 := ms_le w rp h
  have hP := w.1.2
  have h2 : (T 0 2 + 1 - c) * 10 ^ (8 - rp.length) ≤ 10 * 10 ^ (8 - rp.length) := Nat.mul_le_mul_right _ (by omega)
  unfold mu
  omega
theorem mu_inc {T : t_D} {rp : List Nat} {c : Nat} (h : c < T 0 2) : mu T rp (c + 1) < mu T rp c := by
  unfold mu
  have hz : 0 < 10 ^ (8 - rp.length) := Nat.pow_pos (by omega)
  rw [show T 0 2 + 1 - c = (T 0 2 + 1 - (c + 1)) + 1 by omega, Nat.add_mul]
  omega
theorem mu_push {T : t_D} (w : Tw T) {rp : List Nat} {c : Nat} (h : c < T 0 2) (hl : rp.length ≤ 7) : mu T (c :: rp) 0 < mu T rp c := by
  have hP := w.1.2
  unfold mu
  have e : 10 ^ (8 - rp.length) = 10 * 10 ^ (8 - (c :: rp).length) := by
    rw [List.length_cons, ← Nat.pow_succ']
    congr 1; omega
  have hz : 0 < 10 ^ (8 - (c :: rp).length) := Nat.pow_pos (by omega)
  rw [ms, e, show T 0 2 + 1 - c = (T 0 2 - c) + 1 by omega, Nat.add_mul (T 0 2 - c) 1]
  generalize 10 ^ (8 - (c :: rp).length) = z at hz ⊢
  have h2 : (T 0 2 + 1 - 0) * z ≤ 9 * z := Nat.mul_le_mul_right _ (by omega)
  omega
theorem mu_back {T : t_D} {rp : List Nat} {q c : Nat} (hq : q < T 0 2) (hc : c ≤ T 0 2) : mu T rp (q + 1) < mu T (q :: rp) c := by
  unfold mu
  have hz : 0 < 10 ^ (8 - (q :: rp).length) := Nat.pow_pos (by omega)
  rw [ms, show T 0 2 + 1 - (q + 1) = T 0 2 - q by omega, show T 0 2 + 1 - c = (T 0 2 - c) + 1 by omega, Nat.add_mul (T 0 2 - c) 1]
  omega
theorem fnext11 {T : t_D} (w : Tw T) {S : Nat} (hS : S < 2 ^ 31) {n : Nat} : ∀ (k : Nat) (rp : List Nat) (c : Nat) (t : k_St), Ps T S t rp c → c ≤ T 0 2 → mu T rp c < k →
    (ta_rem T S rp c = [] → ∃ u, f_M_nextTale_11 n k t = some (false, u) ∧ mw t u) ∧ (∀ r R, ta_rem T S rp c = r :: R → ∃ u q rp', f_M_nextTale_11 n k t = some (true, u) ∧ Ps T S u (q :: rp') 0 ∧ r = (q :: rp').reverse ∧ whp T (q :: rp') = true ∧ ta_rem T S rp' (q + 1) = R ∧ mw t u) := by
  have hP := w.1.2
  intro k
  induction k with
  | zero => intro rp c t _ _ h; omega
  | succ k ih =>
    intro rp c t h hc hk
    have hl := ok_len w h.2.2.2.2.2.2.2
    have h22 := h.2.2.1
    have hc0 := h.2.2.2.2.2.2.1
    -- the round's body
    have body : (c < T 0 2 ∨ rp ≠ []) → (ta_rem T S rp c = [] → ∃ u, f_M_nextTale_34 n (f_M_nextTale_11 n k) t = some (false, u) ∧ mw t u) ∧ (∀ r R, ta_rem T S rp c = r :: R → ∃ u q rp', f_M_nextTale_34 n (f_M_nextTale_11 n k) t = some (true, u) ∧ Ps T S u (q :: rp') 0 ∧ r = (q :: rp').reverse ∧ whp T (q :: rp') = true ∧ ta_rem T S rp' (q + 1) = R ∧ mw t u) := by
      intro hor
      unfold f_M_nextTale_34
      rw [h22, kgi (kin (by omega) (by decide)), klt, nI_clamp (by omega), hc0, h.1.1 2 (by omega)]
      by_cases hcp : c < T 0 2
      · rw [if_pos (nI_lt hcp (by omega)), ffitsOn w hS h hcp, kcp, ta_rem_step hcp]
        have hkd := (w.2.2.2.2.2.2.2.2.1 c hcp).1
        by_cases hf : fitp T S rp c = true
        · have hus := fitp_us hf
          have hok2 : ok T (c :: rp) := ⟨hcp, hus, h.2.2.2.2.2.2.2⟩
          have hl2 := ok_len w hok2
          rw [List.length_cons] at hl2
          have husl := (ok_pc w rp h.2.2.2.2.2.2.2).1
          rw [if_neg (k_bne hf), klt, nI_shl c (by omega), h.2.2.2.1, nI_or, kgi (kin (by omega) (by decide)), nI_clamp (by omega)]
          have m1 := mw.set0 t 23 (nI (us rp ||| 2 ^ c)) (by omega)
          have hM1 := h.1.mw m1
          rw [(hM1.2.1 c hcp).1]
          -- both ways make such a state
          have fin : ∀ u : k_St, Ps T S u (c :: rp) 0 → mw t u → ((ta_gp T S rp c ++ ta_rem T S rp (c + 1) = [] → ∃ u', k_cp (f_M_isWhole u) (fun r_18 => (if (k_b r_18) = 0 then f_M_nextTale_11 n k u else some (true, u))) = some (false, u') ∧ mw t u') ∧ (∀ r R, ta_gp T S rp c ++ ta_rem T S rp (c + 1) = r :: R → ∃ u' q rp', k_cp (f_M_isWhole u) (fun r_18 => (if (k_b r_18) = 0 then f_M_nextTale_11 n k u else some (true, u))) = some (true, u') ∧ Ps T S u' (q :: rp') 0 ∧ r = (q :: rp').reverse ∧ whp T (q :: rp') = true ∧ ta_rem T S rp' (q + 1) = R ∧ mw t u')) := by
            intro u hu mu1
            rw [fisWhole w hu, kcp]
            by_cases hwh : whp T (c :: rp) = true
            · rw [if_neg (k_bne hwh)]
              match rp, hf, hwh with
              | [], _, hwh => simp [whp] at hwh
              | q :: r0, hf, hwh =>
                have h3 : T 1 c = 3 := by simpa [whp] using hwh
                rw [ta_gp_end hf h3]
                refine ⟨(fun e => by cases e), fun r R e => ?_⟩
                cases e
                exact ⟨u, c, q :: r0, rfl, hu, rfl, hwh, rfl, mu1⟩
            · simp only [Bool.not_eq_true] at hwh
              rw [if_pos (k_beq hwh)]
              have h3 : rp = [] ∨ T 1 c ≠ 3 := by
                match rp, hwh with
                | [], _ => exact Or.inl rfl
                | q :: r0, hwh => exact Or.inr (by simpa [whp] using hwh)
              have e : ta_gp T S rp c ++ ta_rem T S rp (c + 1) = ta_rem T S (c :: rp) 0 := by
                rw [ta_gp_on w hcp h.2.2.2.2.2.2.2 hf h3, ta_rem, Nat.sub_zero]
              rw [e]
              obtain ⟨i1, i2⟩ := ih (c :: rp) 0 u hu (by omega) (by have := mu_push w hcp (rp := rp) (by omega); omega)
              refine ⟨fun e0 => ?_, fun r R e0 => ?_⟩
              · obtain ⟨u', a, b⟩ := i1 e0
                exact ⟨u', a, mu1.tr b⟩
              · obtain ⟨u', q, rp', a, b1, b2, b3, b4, b5⟩ := i2 r R e0
                exact ⟨u', q, rp', a, b1, b2, b3, b4, mu1.tr b5⟩
          by_cases h2 : T 1 c = 2
          · rw [if_pos (by rw [h2]; rfl), klt, klt]
            generalize hu1 : k_sI (k_sI t 0 23 (nI (us rp ||| 2 ^ c))) 0 24 ((k_sI t 0 23 (nI (us rp ||| 2 ^ c))).1 0 24 + 1) = u1
            have m2 : mw t u1 := by rw [← hu1]; exact m1.tr (mw.set0 _ _ _ (by omega))
            have a22 : u1.1 0 22 = nI rp.length := by rw [← hu1, sI1, if_neg (by omega), sI1, if_neg (by omega), h22]
            have a23 : u1.1 0 23 = nI (us rp ||| 2 ^ c) := by rw [← hu1, sI1, if_neg (by omega), sI1, if_pos ⟨rfl, rfl⟩]
            have a24 : u1.1 0 24 = nI (kg T rp + 1) := by rw [← hu1, sI1, if_pos ⟨rfl, rfl⟩, sI1, if_neg (by omega), h.2.2.2.2.1, nI_1]
            have a6 : ∀ i, u1.1 6 i = t.1 6 i := fun i => by rw [← hu1, sI1, if_neg (by omega), sI1, if_neg (by omega)]
            have b22 : (k_sI u1 0 22 (u1.1 0 22 + 1)).1 0 22 = nI (rp.length + 1) := by rw [sI1, if_pos ⟨rfl, rfl⟩, a22, nI_1]
            rw [b22, kgi (kin (by omega) (by decide)), klt, nI_clamp (by omega)]
            have mf : mw t (k_sI (k_sI u1 0 22 (u1.1 0 22 + 1)) 6 (rp.length + 1) 0) := (m2.tr (mw.set0 _ _ _ (by omega))).tr (mw.set6 _ _ _)
            refine fin _ (h.push hcp hus mf ?_ ?_ ?_ ?_ ?_) mf
            · rw [sI1, if_neg (by omega), b22]
            · rw [sI1, if_neg (by omega), sI1, if_neg (by omega), a23]
            · rw [sI1, if_neg (by omega), sI1, if_neg (by omega), a24, if_pos h2]
            · intro i hi
              rw [sI1, if_neg (by omega), sI1, if_neg (by omega), a6]
            · rw [sI1, if_pos ⟨rfl, rfl⟩]; rfl
          · rw [if_neg (neL 2 h2 rfl (by omega) (by decide)), klt, klt]
            generalize hu1 : k_sI (k_sI t 0 23 (nI (us rp ||| 2 ^ c))) 0 24 ((k_sI t 0 23 (nI (us rp ||| 2 ^ c))).1 0 24 + 0) = u1
            have m2 : mw t u1 := by rw [← hu1]; exact m1.tr (mw.set0 _ _ _ (by omega))
            have a22 : u1.1 0 22 = nI rp.length := by rw [← hu1, sI1, if_neg (by omega), sI1, if_neg (by omega), h22]
            have a23 : u1.1 0 23 = nI (us rp ||| 2 ^ c) := by rw [← hu1, sI1, if_neg (by omega), sI1, if_pos ⟨rfl, rfl⟩]
            have a24 : u1.1 0 24 = nI (kg T rp) := by rw [← hu1, sI1, if_pos ⟨rfl, rfl⟩, sI1, if_neg (by omega), h.2.2.2.2.1, Int32.add_zero]
            have a6 : ∀ i, u1.1 6 i = t.1 6 i := fun i => by rw [← hu1, sI1, if_neg (by omega), sI1, if_neg (by omega)]
            have b22 : (k_sI u1 0 22 (u1.1 0 22 + 1)).1 0 22 = nI (rp.length + 1) := by rw [sI1, if_pos ⟨rfl, rfl⟩, a22, nI_1]
            rw [b22, kgi (kin (by omega) (by decide)), klt, nI_clamp (by omega)]
            have mf : mw t (k_sI (k_sI u1 0 22 (u1.1 0 22 + 1)) 6 (rp.length + 1) 0) := (m2.tr (mw.set0 _ _ _ (by omega))).tr (mw.set6 _ _ _)
            refine fin _ (h.push hcp hus mf ?_ ?_ ?_ ?_ ?_) mf
            · rw [sI1, if_neg (by omega), b22]
            · rw [sI1, if_neg (by omega), sI1, if_neg (by omega), a23]
            · rw [sI1, if_neg (by omega), sI1, if_neg (by omega), a24, if_neg h2]
            · intro i hi
              rw [sI1, if_neg (by omega), sI1, if_neg (by omega), a6]
            · rw [sI1, if_pos ⟨rfl, rfl⟩]; rfl
        · simp only [Bool.not_eq_true] at hf
          rw [if_pos (k_beq hf), kgi (kin (by omega) (by decide)), kgi (kin (by omega) (by decide)), klt, nI_1, ta_gp_no hf, List.nil_append]
          obtain ⟨i1, i2⟩ := ih rp (c + 1) _ (h.inc (c + 1)) (by omega) (by have := mu_inc (rp := rp) hcp; omega)
          refine ⟨fun e0 => ?_, fun r R e0 => ?_⟩
          · obtain ⟨u', a, b⟩ := i1 e0
            exact ⟨u', a, (mw.set6 _ _ _).tr b⟩
          · obtain ⟨u', q, rp', a, b1, b2, b3, b4, b5⟩ := i2 r R e0
            exact ⟨u', q, rp', a, b1, b2, b3, b4, (mw.set6 _ _ _).tr b5⟩
      · rw [if_neg (nI_nlt (by omega) (by omega))]
        match rp, hor, h, hk with
        | [], hor, _, _ => rcases hor with e | e
                           · omega
                           · exact absurd rfl e
        | q :: r0, _, h, hk =>
          obtain ⟨u, e1, e2, e3⟩ := ftakesBack w h
          have hq := h.2.2.2.2.2.2.2.1
          rw [e1, kcv, ta_rem_end (by omega)]
          obtain ⟨i1, i2⟩ := ih r0 (q + 1) u e2 (by omega) (by have := mu_back (rp := r0) hq hc; omega)
          refine ⟨fun e0 => ?_, fun r R e0 => ?_⟩
          · obtain ⟨u', a, b⟩ := i1 e0
            exact ⟨u', a, e3.tr b⟩
          · obtain ⟨u', q, rp', a, b1, b2, b3, b4, b5⟩ := i2 r R e0
            exact ⟨u', q, rp', a, b1, b2, b3, b4, e3.tr b5⟩
    rw [f_M_nextTale_11]
    match hrp : rp, h22 with
    | [], h22 =>
      have h22 : t.1 0 22 = nI 0 := h22
      rw [h22, if_neg (by decide), kgi (by decide)]
      have hr0 : t.1 6 ((0 : Int32).toNatClampNeg) = nI c := hc0
      rw [hr0, h.1.1 2 (by omega)]
      by_cases hcp : c < T 0 2
      · rw [if_neg (nI_ge hcp (by omega))]
        exact body (Or.inl hcp)
      · rw [if_pos (nI_le (by omega) (by omega)), ta_rem_end0 (by omega)]
        exact ⟨fun _ => ⟨t, rfl, mw.rf t⟩, fun r R e => by cases e⟩
    | q :: r0, h22 =>
      rw [h22, if_pos (by rw [show (0 : Int32) = nI 0 from rfl]; exact nI_lt (by simp) (by simp at hl ⊢; omega))]
      exact body (Or.inr (by simp))
