/-! ===== both objects between two calls ===== -/
def CR (x m : k_St) : Prop := (∀ i, i < 900 → x.1 1 i = m.1 1 i ∧ ∃ c, c < 256 ∧ x.1 1 i = bv c) ∧ (∃ k, k ≤ 900 ∧ x.1 0 11 = nI k ∧ m.1 0 6 = nI k) ∧ m.1 0 12 = x.1 18 0 ∧ m.1 0 1 = x.1 0 12 ∧ m.1 0 2 = if x.1 0 12 = 4 then x.1 18 1 else -1
def R1 (T : t_D) (v : nv) (K I : List nv) (x m : k_St) : Prop := RX T v K I x m ∧ SL T x ∧ TI T x ∧ PK T x ∧ CR x m
def R0 (x m : k_St) : Prop := x.1 0 10 = 0 ∧ (∀ i, i < 8 → x.1 2 i = 0) ∧ x.1 34 1 = 0 ∧ x.1 34 2 = 0 ∧ x.1 34 3 = 0 ∧ CR x m
def S1 {α : Type} (fX fM : Option (α × k_St)) : Prop := ∃ r y u, fX = some (r, y) ∧ fM = some (r, u) ∧ ∃ T v K I, R1 T v K I y u
def S0 {α : Type} (fX fM : Option (α × k_St)) : Prop := ∃ r y u, fX = some (r, y) ∧ fM = some (r, u) ∧ R0 y u
theorem slX.same {Ls : List (List Nat)} {s : slS} {x y : k_St} (h : slX Ls s x) (e : ∀ k, y.1 31 k = x.1 31 k) : slX Ls s y := by
  match s, h with
  | none, h => exact ⟨by rw [e]; exact h.1, by rw [e]; exact h.2.1, by rw [e]; exact h.2.2⟩
  | some (b, r, k), h =>
    obtain ⟨h1, h2, ⟨j, h3, h4⟩, h5⟩ := h
    exact ⟨h1, by rw [e]; exact h2, ⟨j, by rw [e]; exact h3, h4⟩, by rw [e]; exact h5⟩
theorem SL.same {T : t_D} {x y : k_St} (h : SL T x) (e : ∀ k, y.1 31 k = x.1 31 k) : SL T y := fun z => (h z).same e
theorem tX.same {s : tS} {x y : k_St} (h : tX s x) (e : ∀ o k, 27 ≤ o → o ≤ 30 → y.1 o k = x.1 o k) : tX s y := by
  match s, h with
  | none, h => exact ⟨by rw [e 27 0 (by omega) (by omega)]; exact h.1, by rw [e 27 1 (by omega) (by omega)]; exact h.2⟩
  | some (k, w, r), h => exact ⟨h.1, h.2.1, by rw [e 27 0 (by omega) (by omega)]; exact h.2.2.1, by rw [e 27 1 (by omega) (by omega)]; exact h.2.2.2.1, fun i z hz => by rw [e 28 i (by omega) (by omega)]; exact h.2.2.2.2 i z hz⟩
theorem TI.same {T : t_D} {x y : k_St} (h : TI T x) (e : ∀ o k, 27 ≤ o → o ≤ 30 → y.1 o k = x.1 o k) : TI T y := ⟨h.1.same e, fun k v r a z hz => by rw [e 29 z (by omega) (by omega)]; exact h.2 k v r a z hz⟩
theorem CR.go {x m y u : k_St} (h : CR x m) (hx : ∀ o k, (o = 0 ∧ k ≠ 12) ∨ o = 1 ∨ o = 18 → y.1 o k = x.1 o k) (hm : ∀ o k, (o = 0 ∧ (k = 6 ∨ k = 12)) ∨ o = 1 → u.1 o k = m.1 o k) {τ : Int32} (a : y.1 0 12 = τ) (b : u.1 0 1 = τ) (c : u.1 0 2 = -1) (d : τ ≠ 4) : CR y u := by
  obtain ⟨h1, ⟨k, k1, k2, k3⟩, h3, h4, h5⟩ := h
  refine ⟨fun i hi => ?_, ⟨k, k1, by rw [hx 0 11 (by omega)]; exact k2, by rw [hm 0 6 (by omega)]; exact k3⟩, by rw [hm 0 12 (by omega), hx 18 0 (by omega)]; exact h3, by rw [a, b], by rw [a, if_neg d, c]⟩
  rw [hx 1 i (by omega), hm 1 i (by omega)]
  exact h1 i hi
theorem R1.q2 {α : Type} {T : t_D} {v : nv} {K I : List nv} {x m : k_St} (h : R1 T v K I x m) {fX fM : Option (α × k_St)} (q : Q2 fX x fM m) : S1 fX fM := by
  obtain ⟨r, τ, ⟨y, a1, a2, a3⟩, ⟨u, b1, b2, b3, b4⟩, c⟩ := q
  obtain ⟨⟨w, hX, hB, h10, hN, hM, hMN⟩, hS, hTI, hP, hC⟩ := h
  exact ⟨r, y, u, a1, b1, T, v, K, I, ⟨w, hX.same (fun o k z1 z2 => a2.1 o k (by omega)), hB.same (fun o k z1 z2 => a2.1 o k (by omega)), by rw [a2.1 0 10 (by omega)]; exact h10, hN.xk a2, hM.same (fun o k z1 z2 => b2 o k (by omega)), hMN.mk b2⟩, hS.same (fun k => a2.1 31 k (by omega)), hTI.same (fun o k z1 z2 => a2.1 o k (by omega)), hP.same (fun o k z => a2.1 o k (by omega)), hC.go (fun o k z => a2.1 o k (by omega)) (fun o k z => b2 o k (by omega)) a3 b3 b4 c⟩
theorem R1.q3 {α : Type} {T : t_D} {v : nv} {K I : List nv} {x m : k_St} (h : R1 T v K I x m) {fX fM : Option (α × k_St)} (q : Q3 T fX x fM m) : S1 fX fM := by
  obtain ⟨r, τ, v', K', I', y, u, a1, a2, a3, a4, b1, b2, b3, b4, b5, c⟩ := q
  obtain ⟨⟨w, hX, hB, h10, hN, hM, hMN⟩, hS, hTI, hP, hC⟩ := h
  exact ⟨r, y, u, a1, b1, T, v', K', I', ⟨w, hX.same (fun o k z1 z2 => a2 o k (by omega)), hB.same (fun o k z1 z2 => a2 o k (by omega)), by rw [a2 0 10 (by omega)]; exact h10, a4, hM.same (fun o k z1 z2 => b2 o k (by omega)), b5⟩, hS.same (fun k => a2 31 k (by omega)), hTI.same (fun o k z1 z2 => a2 o k (by omega)), hP.same (fun o k z => a2 o k (by omega)), hC.go (fun o k z => a2 o k (by omega)) (fun o k z => b2 o k (by omega)) a3 b3 b4 c⟩
/-! nothing but 'thrown' changes -/
theorem CR.th {x m : k_St} (h : CR x m) (a : Int32) : CR x (k_sI m 0 0 a) := by
  obtain ⟨h1, ⟨k, k1, k2, k3⟩, h3, h4, h5⟩ := h
  exact ⟨fun i hi => by rw [sI1, if_neg (by omega)]; exact h1 i hi, ⟨k, k1, k2, by rw [sI1, if_neg (by omega)]; exact k3⟩, by rw [sI1, if_neg (by omega)]; exact h3, by rw [sI1, if_neg (by omega)]; exact h4, by rw [sI1, if_neg (by omega)]; exact h5⟩
theorem R1.th {T : t_D} {v : nv} {K I : List nv} {x m : k_St} (h : R1 T v K I x m) (a : Int32) : R1 T v K I x (k_sI m 0 0 a) := by
  obtain ⟨⟨w, hX, hB, h10, hN, hM, hMN⟩, hS, hTI, hP, hC⟩ := h
  exact ⟨⟨w, hX, hB, h10, hN, hM.same (fun o k z1 z2 => by rw [sI1, if_neg (by omega)]), hMN.mk (mk.set m 0 0 a (by omega))⟩, hS, hTI, hP, hC.th a⟩
theorem R0.th {x m : k_St} (h : R0 x m) (a : Int32) : R0 x (k_sI m 0 0 a) := ⟨h.1, h.2.1, h.2.2.1, h.2.2.2.1, h.2.2.2.2.1, h.2.2.2.2.2.th a⟩
theorem S1.th {α : Type} {T : t_D} {v : nv} {K I : List nv} {x m : k_St} (h : R1 T v K I x m) (r : α) : S1 (some (r, x)) (some (r, k_sI m 0 0 0)) := ⟨r, _, _, rfl, rfl, T, v, K, I, h.th 0⟩
theorem S0.th {α : Type} {x m : k_St} (h : R0 x m) (r : α) : S0 (some (r, x)) (some (r, k_sI m 0 0 0)) := ⟨r, _, _, rfl, rfl, h.th 0⟩
section
variable {T : t_D} {v : nv} {K I : List nv} {x m : k_St}
theorem CR.fault (h : CR x m) : f_M_fault m = (f_X_fault x, k_sI m 0 0 0) := by
  unfold f_M_fault f_X_fault
  rw [klt, sI1, if_neg (by omega), h.2.2.1]
theorem CR.where (h : CR x m) : f_M_where m = (f_X_where x, k_sI m 0 0 0) := by
  unfold f_M_where f_X_where
  rw [klt, sI1, if_neg (by omega), h.2.2.2.2]
theorem CR.trouble (h : CR x m) : f_M_trouble m = (f_X_trouble x, k_sI m 0 0 0) := by
  unfold f_M_trouble f_X_trouble
  rw [klt, sI1, if_neg (by omega), h.2.2.2.1]
theorem s_fault (h : R1 T v K I x m) : S1 (some (f_X_fault x, x)) (some (f_M_fault m)) := by rw [h.2.2.2.2.fault]; exact S1.th h _
theorem s_where (h : R1 T v K I x m) : S1 (some (f_X_where x, x)) (some (f_M_where m)) := by rw [h.2.2.2.2.where]; exact S1.th h _
theorem s_trouble (h : R1 T v K I x m) : S1 (some (f_X_trouble x, x)) (some (f_M_trouble m)) := by rw [h.2.2.2.2.trouble]; exact S1.th h _
theorem z_fault (h : R0 x m) : S0 (some (f_X_fault x, x)) (some (f_M_fault_N m)) := by
  have e : f_M_fault_N m = f_M_fault m := rfl
  rw [e, h.2.2.2.2.2.fault]; exact S0.th h _
theorem z_where (h : R0 x m) : S0 (some (f_X_where x, x)) (some (f_M_where_N m)) := by
  have e : f_M_where_N m = f_M_where m := rfl
  rw [e, h.2.2.2.2.2.where]; exact S0.th h _
theorem z_trouble (h : R0 x m) : S0 (some (f_X_trouble x, x)) (some (f_M_trouble_N m)) := by
  have e : f_M_trouble_N m = f_M_trouble m := rfl
  rw [e, h.2.2.2.2.2.trouble]; exact S0.th h _
theorem i_cases (x1 : Int32) : (∃ i, i < 12 ∧ x1 = nI i) ∨ (∀ i, i < 12 → x1 ≠ nI i) := by
  by_cases h : ∃ i, i < 12 ∧ x1 = nI i
  · exact Or.inl h
  · exact Or.inr (fun i hi e => h ⟨i, hi, e⟩)
theorem in_no {x1 : Int32} {b : Nat} (hb : b < 12) (h : ∀ i, i < 12 → x1 ≠ nI i) : f_M_in x1 0 (nI b) = false := by
  unfold f_M_in
  by_cases e : x1 < 0
  · rw [if_pos e]
  · rw [if_neg e]
    obtain ⟨i, hi, rfl⟩ := wb_of32 x1
    rcases Nat.lt_or_ge i (2 ^ 31) with l | l
    · rcases Nat.lt_or_ge b i with q | q
      · rw [if_pos (nI_lt q l)]
      · exact absurd rfl (h i (by omega))
    · exfalso
      apply e
      rw [Int32.lt_iff_toInt_lt]
      have : (nI i).toInt = (i : Int) - 2 ^ 32 := by
        show (BitVec.ofNat 32 i).toInt = _
        rw [BitVec.toInt_eq_toNat_cond, BitVec.toNat_ofNat, Nat.mod_eq_of_lt hi]
        split
        · omega
        · rfl
      rw [this, show (0 : Int32).toInt = 0 from rfl]
      omega
end
