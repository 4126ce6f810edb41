/-! ===== what has been told: both ===== -/
/-- the numbers told so far -/
def Tp (T : t_D) : Prop := T 0 2 ≤ 8 ∧ T 0 0 ≤ 4 ∧ T 0 1 ≤ 100 ∧ T 0 3 ≤ 14 ∧ T 0 4 ≤ 5 ∧ T 0 5 ≤ 14 ∧ T 0 6 < 2 ^ T 0 4 ∧ T 0 7 ≤ 6 ∧ (∀ p, p < T 0 2 → T 1 p < 4 ∧ T 2 p < 2 ^ T 0 2 ∧ (T 2 p).testBit p = false) ∧ (∀ h, h < T 0 4 → T 3 h ≤ 99 ∧ T 4 h ≤ T 5 h ∧ T 5 h ≤ 23 ∧ T 6 h < 2 ^ T 0 2) ∧ (∀ i, i < T 0 7 → T 7 i < T 0 2) ∧ ((List.range (T 0 2)).map (fun p => pc8 (T 2 p))).sum = T 0 3 ∧ (∀ p, T 0 2 ≤ p → T 2 p = 0) ∧ ∀ h, T 0 4 ≤ h → T 6 h = 0
theorem Tp.tw {T : t_D} (h : Tp T) (h1 : 1 ≤ T 0 2) : Tw T := ⟨⟨h1, h.1⟩, h.2.1, h.2.2.1, h.2.2.2.1, h.2.2.2.2.1, h.2.2.2.2.2.1, h.2.2.2.2.2.2.1, h.2.2.2.2.2.2.2.1, h.2.2.2.2.2.2.2.2.1, h.2.2.2.2.2.2.2.2.2.1, h.2.2.2.2.2.2.2.2.2.2.1, h.2.2.2.2.2.2.2.2.2.2.2.1⟩
def SX (T : t_D) (g : Bool) (x : k_St) : Prop := (∀ i, 2 ≤ i → i < 8 → x.1 10 i = nI (T 0 i)) ∧ (g = true → x.1 10 0 = nI (T 0 0) ∧ x.1 10 1 = nI (T 0 1)) ∧ (∀ p, p < 8 → x.1 12 p = nI (T 2 p)) ∧ (∀ p, p < T 0 2 → x.1 11 p = nI (T 1 p)) ∧ (∀ h, h < 5 → x.1 16 h = nI (T 6 h)) ∧ (∀ h, h < T 0 4 → x.1 13 h = nI (T 3 h) ∧ x.1 14 h = nI (T 4 h) ∧ x.1 15 h = nI (T 5 h)) ∧ ∀ i, i < T 0 7 → x.1 17 i = nI (T 7 i)
def SM (T : t_D) (g : Bool) (m : k_St) : Prop := (∀ i, 2 ≤ i → i < 8 → m.1 18 i = nI (T 0 i)) ∧ (m.1 18 0 = if g then nI (T 0 0) else -1) ∧ (g = true → m.1 18 1 = nI (T 0 1)) ∧ (∀ p, p < 8 → m.1 20 p = nI (T 2 p)) ∧ (∀ p, p < T 0 2 → m.1 19 p = nI (T 1 p)) ∧ (∀ h, h < 5 → m.1 24 h = nI (T 6 h)) ∧ (∀ h, h < T 0 4 → m.1 21 h = nI (T 3 h) ∧ m.1 22 h = nI (T 4 h) ∧ m.1 23 h = nI (T 5 h)) ∧ ∀ i, i < T 0 7 → m.1 25 i = nI (T 7 i)
theorem SX.sm {T : t_D} {g : Bool} {x y : k_St} (h : SX T g x) (e : ∀ o k, 10 ≤ o → o ≤ 17 → y.1 o k = x.1 o k) : SX T g y :=
  ⟨fun i a b => by rw [e 10 i (by omega) (by omega)]; exact h.1 i a b, fun q => by rw [e 10 0 (by omega) (by omega), e 10 1 (by omega) (by omega)]; exact h.2.1 q, fun p hp => by rw [e 12 p (by omega) (by omega)]; exact h.2.2.1 p hp, fun p hp => by rw [e 11 p (by omega) (by omega)]; exact h.2.2.2.1 p hp, fun k hk => by rw [e 16 k (by omega) (by omega)]; exact h.2.2.2.2.1 k hk, fun k hk => by rw [e 13 k (by omega) (by omega), e 14 k (by omega) (by omega), e 15 k (by omega) (by omega)]; exact h.2.2.2.2.2.1 k hk, fun i hi => by rw [e 17 i (by omega) (by omega)]; exact h.2.2.2.2.2.2 i hi⟩
theorem SM.sm {T : t_D} {g : Bool} {m u : k_St} (h : SM T g m) (e : ∀ o k, 18 ≤ o → o ≤ 25 → u.1 o k = m.1 o k) : SM T g u :=
  ⟨fun i a b => by rw [e 18 i (by omega) (by omega)]; exact h.1 i a b, by rw [e 18 0 (by omega) (by omega)]; exact h.2.1, fun q => by rw [e 18 1 (by omega) (by omega)]; exact h.2.2.1 q, fun p hp => by rw [e 20 p (by omega) (by omega)]; exact h.2.2.2.1 p hp, fun p hp => by rw [e 19 p (by omega) (by omega)]; exact h.2.2.2.2.1 p hp, fun k hk => by rw [e 24 k (by omega) (by omega)]; exact h.2.2.2.2.2.1 k hk, fun k hk => by rw [e 21 k (by omega) (by omega), e 22 k (by omega) (by omega), e 23 k (by omega) (by omega)]; exact h.2.2.2.2.2.2.1 k hk, fun i hi => by rw [e 25 i (by omega) (by omega)]; exact h.2.2.2.2.2.2.2 i hi⟩
theorem SX.xr {T : t_D} {g : Bool} {x y : k_St} (h : SX T g x) (e : xr x y) : SX T g y := h.sm (fun o k _ _ => e.1 o k (by omega))
theorem SM.mo {T : t_D} {g : Bool} {m u : k_St} (h : SM T g m) (e : mo m u) : SM T g u := h.sm (fun o k _ _ => e.1 o k (by omega))
theorem NX.xr {NP NH : List Nat} {x y : k_St} (h : NX NP NH x) (e : xr x y) : NX NP NH y := ⟨fun i w hi => by rw [e.2 19 i (by omega)]; exact h.1 i w hi, fun i w hi => by rw [e.2 20 i (by omega)]; exact h.2 i w hi⟩
theorem NMm.mo {NM : List (Nat × Nat × Nat)} {m u : k_St} (h : NMm NM m) (e : mo m u) : NMm NM u := ⟨by rw [e.1 18 8 (by omega)]; exact h.1, fun k d hk => by rw [e.2 26 k (by omega), e.1 27 k (by omega), e.1 28 k (by omega)]; exact h.2 k d hk⟩
theorem SM.ns {T : t_D} {g : Bool} {m x : k_St} (hT : Tp T) (h : SM T g m) (hx : x.1 18 8 = if g then 1 else 0) : NS g x m := by
  refine ⟨hx, ?_⟩
  rw [h.2.1]
  cases g with
  | false => simp
  | true =>
    have := hT.2.1
    rw [if_pos rfl]
    exact ⟨fun q => absurd q (nI_ne_m1 (by omega)), fun q => by simp at q⟩
