/-! ===== terrace: the three ends ===== -/
theorem CR.mix {x m u : k_St} (h : CR x u) : CR x (mix m u) := by
  obtain ⟨h1, ⟨k, k1, k2, k3⟩, h3, h4, h5⟩ := h
  exact ⟨fun i hi => by rw [mix_l _ _ (by omega)]; exact h1 i hi, ⟨k, k1, k2, by rw [mix_l _ _ (by omega)]; exact k3⟩, by rw [mix_l _ _ (by omega)]; exact h3, by rw [mix_l _ _ (by omega)]; exact h4, by rw [mix_l _ _ (by omega)]; exact h5⟩
/-- a faulty text, or a refusal: what both keep -/
def Kp (x y m u : k_St) : Prop := (∀ o k, (o < 10 ∨ 20 < o) → ¬ (o = 0 ∧ (k = 11 ∨ k = 12)) → y.1 o k = x.1 o k) ∧ (∀ o k, 20 < o → y.2 o k = x.2 o k) ∧ (∀ o k, o < 18 → ¬ (o = 0 ∧ k ≤ 14) → u.1 o k = m.1 o k) ∧ CR y u
theorem R1.kp {T : t_D} {v : nv} {K I : List nv} {x y m u : k_St} (h : R1 T v K I x m) (q : Kp x y m u) : R1 T v K I y (mix m u) := by
  obtain ⟨a, b, c, d⟩ := q
  obtain ⟨⟨w, hX, hB, h10, hN, hM, hMN⟩, hS, hTI, hP, hC⟩ := h
  refine ⟨⟨w, hX.same (fun o k z1 z2 => a o k (by omega) (by omega)), hB.same (fun o k z1 z2 => a o k (by omega) (by omega)), by rw [a 0 10 (by omega) (by omega)]; exact h10, ?_, hM.same (fun o k z1 z2 => mix_h _ _ (by omega) k), ?_⟩, hS.same (fun k => a 31 k (by omega) (by omega)), hTI.same (fun o k z1 z2 => a o k (by omega) (by omega)), hP.same (fun o k z => a o k (by omega) (by omega)), d.mix⟩
  · exact ⟨⟨by rw [b 34 0 (by omega)]; exact hN.1.1, by rw [a 34 1 (by omega) (by omega)]; exact hN.1.2.1, by rw [a 34 4 (by omega) (by omega)]; exact hN.1.2.2.1, hN.1.2.2.2⟩, ⟨by rw [a 34 2 (by omega) (by omega)]; exact hN.2.1.1, hN.2.1.2.1, fun i u hu => by rw [b 35 i (by omega)]; exact hN.2.1.2.2.1 i u hu, hN.2.1.2.2.2⟩, ⟨by rw [a 34 3 (by omega) (by omega)]; exact hN.2.2.1, hN.2.2.2.1, fun i u hu => by rw [b 36 i (by omega)]; exact hN.2.2.2.2.1 i u hu, hN.2.2.2.2.2⟩⟩
  · exact ⟨fun k hk => by rw [mix_l _ _ (by omega), c 2 k (by omega) (by omega)]; exact hMN.1 k hk, ⟨by rw [mix_l _ _ (by omega), c 0 19 (by omega) (by omega)]; exact hMN.2.1.1, fun i u hu k hk => by rw [mix_l _ _ (by omega), c 4 _ (by omega) (by omega)]; exact hMN.2.1.2 i u hu k hk⟩, ⟨by rw [mix_l _ _ (by omega), c 0 20 (by omega) (by omega)]; exact hMN.2.2.1, fun i u hu k hk => by rw [mix_l _ _ (by omega), c 5 _ (by omega) (by omega)]; exact hMN.2.2.2 i u hu k hk⟩⟩
theorem R0.kp {x y m u : k_St} (h : R0 x m) (q : Kp x y m u) : R0 y u := by
  obtain ⟨a, b, c, d⟩ := q
  exact ⟨by rw [a 0 10 (by omega) (by omega)]; exact h.1, fun i hi => by rw [a 2 i (by omega) (by omega)]; exact h.2.1 i hi, by rw [a 34 1 (by omega) (by omega)]; exact h.2.2.1, by rw [a 34 2 (by omega) (by omega)]; exact h.2.2.2.1, by rw [a 34 3 (by omega) (by omega)]; exact h.2.2.2.2.1, d⟩
def txb (x' : k_St) : k_St := k_sI x' 0 12 4
def tmb (m' : k_St) : k_St := k_sI (k_sI m' 0 1 4) 0 2 (m'.1 0 13)
theorem terr_no {x m : k_St} (h : CR x m) : Kp x (k_sI x 0 12 2) m (k_sI (k_sI (k_sI m 0 0 0) 0 1 2) 0 2 (-1)) := by
  refine ⟨fun o k z1 z2 => by rw [sI1, if_neg (by omega)], fun _ _ _ => rfl, fun o k z1 z2 => by rw [sI1, if_neg (by omega), sI1, if_neg (by omega), sI1, if_neg (by omega)], ?_⟩
  exact h.go (τ := 2) (fun o k z => by rw [sI1, if_neg (by omega)]) (fun o k z => by rw [sI1, if_neg (by omega), sI1, if_neg (by omega), sI1, if_neg (by omega)]) (by rw [sI1, if_pos ⟨rfl, rfl⟩]) (by rw [sI1, if_neg (by omega), sI1, if_pos ⟨rfl, rfl⟩]) (by rw [sI1, if_pos ⟨rfl, rfl⟩]) (by decide)
theorem terr_cases {x m : k_St} (h : CR x m) {n : Nat} (hn : big n) (x1 : Int32) :
    ((x1 < 0 ∨ x.1 0 11 < x1) ∧ (x1 < 0 ∨ m.1 0 6 < x1)) ∨
    (¬ x1 < 0 ∧ ¬ x.1 0 11 < x1 ∧ ¬ m.1 0 6 < x1 ∧
      ((∃ x' t3 m', f_Re_reads n x1 x = some (false, x') ∧ f_M_goesOn_R n (tm2 x1 m) = some t3 ∧ f_M_readAll_R n t3 = some m' ∧ 0 < m'.1 0 12 ∧ Kp x (txb x') m (tmb m')) ∨
       ∃ x' t3 m' t3' t4 t5 t6 t7 T u, f_Re_reads n x1 x = some (true, x') ∧ f_M_goesOn_R n (tm2 x1 m) = some t3 ∧ f_M_readAll_R n t3 = some m' ∧ m'.1 0 12 = 0 ∧ f_Ta_gather n (k_sI (swp x') 0 10 1) = some t3' ∧ f_Pa_open n t3' = some t4 ∧ f_Ti_make n t4 = some t5 ∧ f_Sl_compare n t5 = some t6 ∧ f_No_begin n t6 = some t7 ∧ f_Mt_L1 n n 0 m' = some (t7.1 2 2, u) ∧ R1 T (hv T) [] [] (k_sI t7 0 12 0) u)) := by
  obtain ⟨k, k1, k2, k3⟩ := h.2.1
  rw [k2, k3]
  by_cases c1 : x1 < 0
  · exact Or.inl ⟨Or.inl c1, Or.inl c1⟩
  by_cases c2 : nI k < x1
  · exact Or.inl ⟨Or.inr c2, Or.inr c2⟩
  right
  refine ⟨c1, c2, c2, ?_⟩
  obtain ⟨j, hj, rfl⟩ : ∃ j, j ≤ k ∧ x1 = nI j := by
    obtain ⟨i, hi, rfl⟩ := wb_of32 x1
    rcases Nat.lt_or_ge i (2 ^ 31) with l | l
    · exact ⟨i, Nat.le_of_not_lt (fun q => c2 (nI_lt q l)), rfl⟩
    · exfalso
      apply c1
      rw [Int32.lt_iff_toInt_lt]
      have : (nI i).toInt = (i : Int) - 2 ^ 32 := by
        show (BitVec.ofNat 32 i).toInt = _
        rw [BitVec.toInt_eq_toNat_cond, BitVec.toNat_ofNat, Nat.mod_eq_of_lt hi]
        split
        · omega
        · rfl
      rw [this, show (0 : Int32).toInt = 0 from rfl]
      omega
  obtain ⟨x0, t3, a1, a0, a2, a3, a4⟩ := terr_read h hn hj k1
  rcases a4 with ⟨T, x', m', e1, e2, w, sx, sm, fx, fm⟩ | ⟨c, P, x', m', hc, e1, e2, d1, d2, d3, d4, fx, fm⟩
  · right
    have x18 : x'.1 18 0 = 0 := (fx 18 0 (by omega)).1.trans a2
    have m12 : m'.1 0 12 = 0 := (fm 0 12 (by omega)).1
    obtain ⟨t3', t4, t5, t6, t7, b1, b2, b3, b4, b5, X7, B7, N7, S7, I7, P7, z10, z0, z1, z18⟩ := x_made w sx hn
    obtain ⟨u, g1, g2, g3, g4, g5, g6, g7⟩ := fL1 w (n := n) (by omega) 6 n 0 m' rfl (by omega) (MTT.sd w sm) (fun k hk => by omega)
    refine ⟨x', t3, m', t3', t4, t5, t6, t7, T, u, e1, a3, e2, m12, b1, b2, b3, b4, b5, ?_, ⟨w, X7.same (fun o k z1 z2 => by rw [sI1, if_neg (by omega)]), B7.same (fun o k z1 z2 => by rw [sI1, if_neg (by omega)]), by rw [sI1, if_neg (by omega)]; exact z10, N7.xk (xk.t12 t7 0), (MTT.sd w sm).same (fun o k q1 q2 => g7 o k (by omega) (by omega)), ⟨g2, ⟨g3, fun i u h => by simp at h⟩, ⟨g4, fun i u h => by simp at h⟩⟩⟩, S7.same (fun k => by rw [sI1, if_neg (by omega)]), I7.same (fun o k z1 z2 => by rw [sI1, if_neg (by omega)]), P7.same (fun o k z => by rw [sI1, if_neg (by omega)]), ?_⟩
    · rw [X7.1 2 (by omega)]
      exact g1
    · refine ⟨fun i hi => ?_, ⟨0, by omega, ?_, ?_⟩, ?_, ?_, ?_⟩
      · rw [sI1, if_neg (by omega), z1 i, (fx 1 i (by omega)).1, (a1 1 i (by omega) (by omega)).1, g7 1 i (by omega) (by omega), (fm 1 i (by omega)).1, tm2_o _ _ (by omega) (by omega)]
        exact h.1 i hi
      · rw [sI1, if_neg (by omega), z0 11 (by omega), (fx 0 11 (by omega)).1, a0]
        rfl
      · rw [g7 0 6 (by omega) (by omega), (fm 0 6 (by omega)).1]
        rfl
      · rw [g7 0 12 (by omega) (by omega), m12, sI1, if_neg (by omega), z18 0]
        exact x18.symm
      · rw [g5, sI1, if_pos ⟨rfl, rfl⟩]
      · have e4 : (k_sI t7 0 12 0).1 0 12 = 0 := by rw [sI1, if_pos ⟨rfl, rfl⟩]
        rw [g6, e4, if_neg (by decide)]
  · left
    refine ⟨x', t3, m', e1, a3, e2, by rw [d3]; exact hc, fun o k z1 z2 => ?_, fun o k z => ?_, fun o k z1 z2 => ?_, ?_⟩
    · unfold txb
      rw [sI1, if_neg (by omega), (fx o k (by omega)).1, (a1 o k (by omega) (by omega)).1]
    · show x'.2 o k = x.2 o k
      rw [(fx o k (by omega)).2, (a1 o k (by omega) (by omega)).2]
    · unfold tmb
      rw [sI1, if_neg (by omega), sI1, if_neg (by omega), (fm o k (by omega)).1, tm2_o _ _ (by omega) (by omega)]
    · refine ⟨fun i hi => ?_, ⟨0, by omega, ?_, ?_⟩, ?_, ?_, ?_⟩
      · have e1 : (txb x').1 1 i = x.1 1 i := by
          unfold txb
          rw [sI1, if_neg (by omega), (fx 1 i (by omega)).1, (a1 1 i (by omega) (by omega)).1]
        have e2 : (tmb m').1 1 i = m.1 1 i := by
          unfold tmb
          rw [sI1, if_neg (by omega), sI1, if_neg (by omega), (fm 1 i (by omega)).1, tm2_o _ _ (by omega) (by omega)]
        rw [e1, e2]
        exact h.1 i hi
      · unfold txb
        rw [sI1, if_neg (by omega), (fx 0 11 (by omega)).1, a0]
        rfl
      · unfold tmb
        rw [sI1, if_neg (by omega), sI1, if_neg (by omega), (fm 0 6 (by omega)).1]
        rfl
      · unfold tmb txb
        rw [sI1, if_neg (by omega), sI1, if_neg (by omega), d3, sI1, if_neg (by omega), d1]
      · unfold tmb txb
        rw [sI1, if_neg (by omega), sI1, if_pos ⟨rfl, rfl⟩, sI1, if_pos ⟨rfl, rfl⟩]
      · have e3 : (tmb m').1 0 2 = P := by
          unfold tmb
          rw [sI1, if_pos ⟨rfl, rfl⟩, d4]
        have e4 : (txb x').1 0 12 = 4 := by
          unfold txb
          rw [sI1, if_pos ⟨rfl, rfl⟩]
        have e5 : (txb x').1 18 1 = P := by
          unfold txb
          rw [sI1, if_neg (by omega)]
          exact d2
        rw [e3, e4, if_pos rfl, e5]
