/-! ===== terrace: both ===== -/
/-- what the houses heard -/
def hv (T : t_D) : nv := fun h => if h < T 0 4 then T 6 h else 0
def hvj (T : t_D) (j : Nat) : nv := fun h => if h < j then T 6 h else 0
theorem Tw.h256 {T : t_D} (w : Tw T) {h : Nat} (hh : h < T 0 4) : T 6 h < 2 ^ T 0 2 ∧ T 6 h < 256 := by
  have := (w.2.2.2.2.2.2.2.2.2.1 h hh).2.2.2
  have := w.pow
  exact ⟨by assumption, by omega⟩
theorem hv_ok {T : t_D} (w : Tw T) : nvok T (hv T) := by
  have h5 := w.2.2.2.2.1
  refine ⟨fun h hh => ⟨?_, fun z => if_neg (by omega)⟩, ?_⟩
  · unfold hv
    split
    · rename_i z
      exact (w.h256 z).1
    · exact Nat.pos_of_ne_zero (by simp)
  · show (if 5 < T 0 4 then T 6 5 else 0) < 65537
    rw [if_neg (by omega)]
    omega
theorem fbegin15 {T : t_D} (w : Tw T) {n : Nat} : ∀ (q f j : Nat) (t : k_St), j + q = T 0 4 → q < f → XT T t → t.1 34 4 = nI (T 0 4) → t.2 34 0 = lN (pk (hvj T j)) → ∃ u, f_No_begin_15 n f (nI j) t = some u ∧ u.2 34 0 = lN (pk (hv T)) ∧ u.1 34 1 = 0 ∧ u.1 34 2 = 0 ∧ u.1 34 3 = 0 ∧ ∀ o k, ¬ (o = 34 ∧ (k = 1 ∨ k = 2 ∨ k = 3)) → u.1 o k = t.1 o k := by
  have h5 := w.2.2.2.2.1
  intro q
  induction q with
  | zero =>
    intro f j t hj hf hX h4 h0
    obtain ⟨f, rfl⟩ : ∃ f', f = f' + 1 := ⟨f - 1, by omega⟩
    rw [f_No_begin_15, h4, if_pos (nI_le (by omega) (by omega)), klt, klt, klt]
    refine ⟨_, rfl, ?_, ?_, ?_, ?_, fun o k z => by rw [sI1, if_neg (by omega), sI1, if_neg (by omega), sI1, if_neg (by omega)]⟩
    · rw [sI2, sI2, sI2, h0]
      congr 2
      rw [show j = T 0 4 by omega]
      rfl
    · rw [sI1, if_neg (by omega), sI1, if_neg (by omega), sI1, if_pos ⟨rfl, rfl⟩]
    · rw [sI1, if_neg (by omega), sI1, if_pos ⟨rfl, rfl⟩]
    · rw [sI1, if_pos ⟨rfl, rfl⟩]
  | succ q ih =>
    intro f j t hj hf hX h4 h0
    obtain ⟨f, rfl⟩ : ∃ f', f = f' + 1 := ⟨f - 1, by omega⟩
    have p8 : pk8 (hvj T j) := fun h hh => by
      unfold hvj
      split
      · exact (w.h256 (by omega)).2
      · omega
    rw [f_No_begin_15, h4, if_neg (nI_ge (by omega) (by omega)), kgi (kin (by omega) (by decide)), klt, klt, nI_clamp (n := j) (by omega), (hX.2.2.1 j (by omega)).2.2.2, h0, fwithMore p8 (by omega) (w.h256 (by omega)).2, nI_1]
    have ev : vup (hvj T j) j (hvj T j j ||| T 6 j) = hvj T (j + 1) := by
      funext k
      unfold vup hvj
      by_cases e : k = j
      · rw [if_pos e, if_neg (by omega), if_pos (by omega), e]
        simp
      · rw [if_neg e]
        by_cases l : k < j
        · rw [if_pos l, if_pos (by omega)]
        · rw [if_neg l, if_neg (by omega)]
    rw [ev]
    obtain ⟨u, a, b, c, d, e, g⟩ := ih f (j + 1) (k_sL t 34 0 (lN (pk (hvj T (j + 1))))) (by omega) (by omega) hX h4 (by rw [sL2, if_pos ⟨rfl, rfl⟩])
    exact ⟨u, a, b, c, d, e, fun o k z => g o k z⟩
theorem fbegin {T : t_D} (w : Tw T) {n : Nat} (hn : 200 ≤ n) {t : k_St} (hX : XT T t) : ∃ u, f_No_begin n t = some u ∧ XN T (hv T) [] [] u ∧ ∀ o k, o ≠ 34 → u.1 o k = t.1 o k := by
  have h5 := w.2.2.2.2.1
  unfold f_No_begin
  rw [klt, klt, hX.1 4 (by omega)]
  have hX' : XT T (k_sL (k_sI t 34 4 (nI (T 0 4))) 34 0 0) := hX.same (fun o k z1 z2 => by rw [sL1, sI1, if_neg (by omega)])
  obtain ⟨u, a, b, c, d, e, g⟩ := fbegin15 w (n := n) (T 0 4) n 0 (k_sL (k_sI t 34 4 (nI (T 0 4))) 34 0 0) (by omega) (by omega) hX' (by rw [sL1, sI1, if_pos ⟨rfl, rfl⟩]) (by rw [sL2, if_pos ⟨rfl, rfl⟩]; rfl)
  refine ⟨u, a, ⟨⟨b, ?_, ?_, hv_ok w⟩, ⟨d, by decide, fun i u h => by simp at h, fun u h => by simp at h⟩, ⟨e, by decide, fun i u h => by simp at h, fun u h => by simp at h⟩⟩, fun o k z => by rw [g o k (by omega), sL1, sI1, if_neg (by omega)]⟩
  · rw [c]
    show (0 : Int32) = nI (if 5 < T 0 4 then T 6 5 else 0)
    rw [if_neg (by omega)]
    rfl
  · rw [g 34 4 (by omega), sL1, sI1, if_pos ⟨rfl, rfl⟩]
theorem XT.sd {T : t_D} (w : Tw T) {x : k_St} (s : Sd 10 (dm T true) T x) : XT T (swp x) := by
  have h8 := w.1.2
  have h5 := w.2.2.2.2.1
  refine ⟨fun i hi => ?_, fun p hp => ⟨s 1 p (Or.inr (Or.inr (Or.inr (Or.inl ⟨rfl, hp⟩)))), s 2 p (Or.inr (Or.inr (Or.inl ⟨rfl, by omega⟩)))⟩, fun h hh => ⟨s 3 h (Or.inr (Or.inr (Or.inr (Or.inr (Or.inr (Or.inl ⟨Or.inl rfl, hh⟩)))))), s 4 h (Or.inr (Or.inr (Or.inr (Or.inr (Or.inr (Or.inl ⟨Or.inr (Or.inl rfl), hh⟩)))))), s 5 h (Or.inr (Or.inr (Or.inr (Or.inr (Or.inr (Or.inl ⟨Or.inr (Or.inr rfl), hh⟩)))))), s 6 h (Or.inr (Or.inr (Or.inr (Or.inr (Or.inl ⟨rfl, by omega⟩)))))⟩, fun i hi => s 7 i (Or.inr (Or.inr (Or.inr (Or.inr (Or.inr (Or.inr ⟨rfl, hi⟩))))))⟩
  by_cases z : i < 2
  · exact s 0 i (Or.inr (Or.inl ⟨rfl, z, rfl⟩))
  · exact s 0 i (Or.inl ⟨rfl, by omega, hi⟩)
theorem MTT.sd {T : t_D} (w : Tw T) {m : k_St} (s : Sd 18 (dm T true) T m) : MTT T m := by
  have h8 := w.1.2
  have h5 := w.2.2.2.2.1
  refine ⟨fun i hi => ?_, fun p hp => ⟨s 1 p (Or.inr (Or.inr (Or.inr (Or.inl ⟨rfl, hp⟩)))), s 2 p (Or.inr (Or.inr (Or.inl ⟨rfl, by omega⟩)))⟩, fun h hh => ⟨s 3 h (Or.inr (Or.inr (Or.inr (Or.inr (Or.inr (Or.inl ⟨Or.inl rfl, hh⟩)))))), s 4 h (Or.inr (Or.inr (Or.inr (Or.inr (Or.inr (Or.inl ⟨Or.inr (Or.inl rfl), hh⟩)))))), s 5 h (Or.inr (Or.inr (Or.inr (Or.inr (Or.inr (Or.inl ⟨Or.inr (Or.inr rfl), hh⟩)))))), s 6 h (Or.inr (Or.inr (Or.inr (Or.inr (Or.inl ⟨rfl, by omega⟩)))))⟩, fun i hi => s 7 i (Or.inr (Or.inr (Or.inr (Or.inr (Or.inr (Or.inr ⟨rfl, hi⟩))))))⟩
  by_cases z : i < 2
  · exact s 0 i (Or.inr (Or.inl ⟨rfl, z, rfl⟩))
  · exact s 0 i (Or.inl ⟨rfl, by omega, hi⟩)
theorem x_made {T : t_D} (w : Tw T) {x : k_St} (s : Sd 10 (dm T true) T x) {n : Nat} (hn : big n) : ∃ t3 t4 t5 t6 t7, f_Ta_gather n (k_sI (swp x) 0 10 1) = some t3 ∧ f_Pa_open n t3 = some t4 ∧ f_Ti_make n t4 = some t5 ∧ f_Sl_compare n t5 = some t6 ∧ f_No_begin n t6 = some t7 ∧ XT T t7 ∧ TB t7 (ta_all T (allp T)) ∧ XN T (hv T) [] [] t7 ∧ SL T t7 ∧ TI T t7 ∧ PK T t7 ∧ t7.1 0 10 = 1 ∧ (∀ k, k ≠ 10 → t7.1 0 k = x.1 0 k) ∧ (∀ k, t7.1 1 k = x.1 1 k) ∧ ∀ k, t7.1 18 k = x.1 18 k := by
  have hX0 := XT.sd w s
  have hX1 : XT T (k_sI (swp x) 0 10 1) := hX0.same (fun o k z1 z2 => by rw [sI1, if_neg (by omega)])
  have hl := ta_all_len w (allp T)
  have e3 := fgather w (allp_bit T) (n := n) (by omega) _ hX1 hl
  generalize hz : ta_put (k_sI (k_sI (swp x) 0 10 1) 21 0 0) ((ta_all T (allp T)).map ta_enc) = t3 at e3
  have b3 : TB t3 (ta_all T (allp T)) := by rw [← hz]; exact ta_put_TB (by rw [sI1, if_pos ⟨rfl, rfl⟩]) hl
  have o3 : ∀ o k, ¬ (21 ≤ o ∧ o ≤ 23) → t3.1 o k = (k_sI (swp x) 0 10 1).1 o k := fun o k z => by
    rw [← hz, ta_put_o _ _ _ _ (by omega), sI1, if_neg (by omega)]
  have X3 : XT T t3 := hX1.same (fun o k z1 z2 => o3 o k (by omega))
  obtain ⟨t4, e4, o4, -, p4⟩ := fPopen w (n := n) (by omega) X3
  have X4 : XT T t4 := X3.same (fun o k z1 z2 => o4 o k (by omega) (by omega))
  have b4 : TB t4 (ta_all T (allp T)) := b3.same (fun o k z1 z2 => o4 o k (by omega) (by omega))
  obtain ⟨t5, e5, o5, i5⟩ := fTmake w (n := n) (by omega) X4
  have X5 : XT T t5 := X4.xt o5
  have b5 : TB t5 (ta_all T (allp T)) := b4.same (fun o k z1 z2 => o5.1 o k (by omega) (by omega) (by omega) (by omega))
  have p5 : PK T t5 := p4.same (fun o k z => o5.1 o k (by omega) (by omega) (by omega) (by omega))
  obtain ⟨t6, e6, o6, l6⟩ := fcompare w (n := n) (by omega) X5 b5
  have X6 : XT T t6 := X5.same (fun o k z1 z2 => o6.1 o k (by omega) (by omega))
  obtain ⟨t7, e7, n7, o7⟩ := fbegin w (n := n) (by omega) X6
  have oo : ∀ k o, (o < 2 ∨ o = 18) → t7.1 o k = (k_sI (swp x) 0 10 1).1 o k := fun k o z => by
    rw [o7 o k (by omega), o6.1 o k (by omega) (by omega), o5.1 o k (by omega) (by omega) (by omega) (by omega), o4 o k (by omega) (by omega), o3 o k (by omega)]
  refine ⟨t3, t4, t5, t6, t7, e3, e4, e5, e6, e7, X6.same (fun o k z1 z2 => o7 o k (by omega)), b5.same (fun o k z1 z2 => by rw [o7 o k (by omega), o6.1 o k (by omega) (by omega)]), n7, l6.same (fun k => o7 31 k (by omega)), i5.same (fun o k z1 z2 => by rw [o7 o k (by omega), o6.1 o k (by omega) (by omega)]), p5.same (fun o k z => by rw [o7 o k (by omega), o6.1 o k (by omega) (by omega)]), ?_, fun k hk => ?_, fun k => ?_, fun k => ?_⟩
  · rw [oo 10 0 (by omega), sI1, if_pos ⟨rfl, rfl⟩]
  · rw [oo k 0 (by omega), sI1, if_neg (by omega)]
    rfl
  · rw [oo k 1 (by omega), sI1, if_neg (by omega)]
    rfl
  · rw [oo k 18 (by omega), sI1, if_neg (by omega)]
    rfl
/-! the reference behind the reading -/
theorem fL2 {T : t_D} (w : Tw T) {n : Nat} : ∀ (q f j : Nat) (t : k_St), j + q = T 0 4 → q < f → MTT T t → (∀ k, k < 6 → t.1 2 k = nI (hvj T j k)) → ∃ u, f_Mt_L2 n f (nI j) t = some (nI (T 0 2), u) ∧ (∀ k, k < 6 → u.1 2 k = nI (hv T k)) ∧ u.1 0 19 = 0 ∧ u.1 0 20 = 0 ∧ u.1 0 1 = 0 ∧ u.1 0 2 = -1 ∧ ∀ o k, ¬ (o = 0 ∧ (k = 19 ∨ k = 20 ∨ k = 1 ∨ k = 2)) → o ≠ 2 → u.1 o k = t.1 o k := by
  have h5 := w.2.2.2.2.1
  intro q
  induction q with
  | zero =>
    intro f j t hj hf hM h2
    obtain ⟨f, rfl⟩ : ∃ f', f = f' + 1 := ⟨f - 1, by omega⟩
    have e2 : (k_sI (k_sI t 0 19 0) 0 20 0).1 18 2 = nI (T 0 2) := by rw [sI1, if_neg (by omega), sI1, if_neg (by omega)]; exact hM.1 2 (by omega)
    unfold f_Mt_L2 f_M_good
    rw [hM.1 4 (by omega), if_pos (nI_le (by omega) (by omega)), klt, klt, klt, klt, klt, e2]
    refine ⟨_, rfl, fun k hk => ?_, ?_, ?_, ?_, ?_, fun o k z z2 => ?_⟩
    · rw [sI1, if_neg (by omega), sI1, if_neg (by omega), sI1, if_neg (by omega), sI1, if_neg (by omega), h2 k hk, show j = T 0 4 by omega]
      rfl
    · rw [sI1, if_neg (by omega), sI1, if_neg (by omega), sI1, if_neg (by omega), sI1, if_pos ⟨rfl, rfl⟩]
    · rw [sI1, if_neg (by omega), sI1, if_neg (by omega), sI1, if_pos ⟨rfl, rfl⟩]
    · rw [sI1, if_neg (by omega), sI1, if_pos ⟨rfl, rfl⟩]
    · rw [sI1, if_pos ⟨rfl, rfl⟩]
    · rw [sI1, if_neg (by omega), sI1, if_neg (by omega), sI1, if_neg (by omega), sI1, if_neg (by omega)]
  | succ q ih =>
    intro f j t hj hf hM h2
    obtain ⟨f, rfl⟩ : ∃ f', f = f' + 1 := ⟨f - 1, by omega⟩
    rw [f_Mt_L2, hM.1 4 (by omega), if_neg (nI_ge (by omega) (by omega)), kgi (kin (by omega) (by decide)), kgi (kin (by omega) (by decide)), klt, klt, nI_clamp (n := j) (by omega), (hM.2.2.1 j (by omega)).2.2.2, nI_1]
    obtain ⟨u, a, b, c, d, e, g, hh⟩ := ih f (j + 1) (k_sI t 2 j (nI (T 6 j))) (by omega) (by omega) (hM.same (fun o k z1 z2 => by rw [sI1, if_neg (by omega)])) (fun k hk => by
      rw [sI1]
      unfold hvj
      by_cases z : k = j
      · rw [if_pos ⟨rfl, z⟩, if_pos (by omega), z]
      · rw [if_neg (fun q => z q.2), h2 k hk]
        unfold hvj
        by_cases l : k < j
        · rw [if_pos l, if_pos (by omega)]
        · rw [if_neg l, if_neg (by omega)])
    exact ⟨u, a, b, c, d, e, g, fun o k z z2 => by rw [hh o k z z2, sI1, if_neg (by omega)]⟩
theorem fL1 {T : t_D} (w : Tw T) {n : Nat} (hn : 200 ≤ n) : ∀ (q f j : Nat) (t : k_St), j + q = 6 → q < f → MTT T t → (∀ k, k < j → t.1 2 k = 0) → ∃ u, f_Mt_L1 n f (nI j) t = some (nI (T 0 2), u) ∧ (∀ k, k < 6 → u.1 2 k = nI (hv T k)) ∧ u.1 0 19 = 0 ∧ u.1 0 20 = 0 ∧ u.1 0 1 = 0 ∧ u.1 0 2 = -1 ∧ ∀ o k, ¬ (o = 0 ∧ (k = 19 ∨ k = 20 ∨ k = 1 ∨ k = 2)) → o ≠ 2 → u.1 o k = t.1 o k := by
  have h5 := w.2.2.2.2.1
  intro q
  induction q with
  | zero =>
    intro f j t hj hf hM h2
    obtain ⟨f, rfl⟩ : ∃ f', f = f' + 1 := ⟨f - 1, by omega⟩
    rw [f_Mt_L1, if_pos (show (6 : Int32) ≤ nI j from nI_le (a := 6) (by omega) (by omega))]
    exact fL2 w (T 0 4) n 0 t (by omega) (by omega) hM (fun k hk => by
      rw [h2 k (by omega)]
      unfold hvj
      rw [if_neg (by omega)]
      rfl)
  | succ q ih =>
    intro f j t hj hf hM h2
    obtain ⟨f, rfl⟩ : ∃ f', f = f' + 1 := ⟨f - 1, by omega⟩
    rw [f_Mt_L1, if_neg (show ¬ (6 : Int32) ≤ nI j from nI_ge (b := 6) (by omega) (by omega)), kgi (kin (by omega) (by decide)), klt, klt, nI_clamp (n := j) (by omega), nI_1]
    obtain ⟨u, a, b, c, d, e, g, hh⟩ := ih f (j + 1) (k_sI t 2 j 0) (by omega) (by omega) (hM.same (fun o k z1 z2 => by rw [sI1, if_neg (by omega)])) (fun k hk => by
      rw [sI1]
      by_cases z : k = j
      · rw [if_pos ⟨rfl, z⟩]
      · rw [if_neg (fun q => z q.2)]
        exact h2 k (by omega))
    exact ⟨u, a, b, c, d, e, g, fun o k z z2 => by rw [hh o k z z2, sI1, if_neg (by omega)]⟩
/-- the reference's base out of u, its terrace out of m -/
def mix (m u : k_St) : k_St := (fun o k => if 18 ≤ o then m.1 o k else u.1 o k, fun o k => if 18 ≤ o then m.2 o k else u.2 o k)
theorem mix_l (m u : k_St) {o : Nat} (h : o < 18) (k : Nat) : (mix m u).1 o k = u.1 o k := if_neg (by omega)
theorem mix_h (m u : k_St) {o : Nat} (h : 18 ≤ o) (k : Nat) : (mix m u).1 o k = m.1 o k := if_pos h
theorem k_WT_mix (cy : Nat → ClassId) (a : Nat → Nat) (rv : Value) (m u : k_St) : k_WT cy a rv (mix m u) = k_WB cy a (.ref (a 18)) rv u ++ k_WO cy a m := rfl
theorem mk_bs (P : Nat → Nat → Prop) : ∀ n, (∀ i, i < n → ∃ c, P i c) → ∃ bs : List Nat, bs.length = n ∧ ∀ i c, bs[i]? = some c → P i c
  | 0, _ => ⟨[], rfl, fun i c h => by simp at h⟩
  | n + 1, h => by
    obtain ⟨bs, l, p⟩ := mk_bs P n (fun i hi => h i (by omega))
    obtain ⟨c, hc⟩ := h n (by omega)
    refine ⟨bs ++ [c], by simp [l], fun i d hi => ?_⟩
    rcases get_app hi with z | ⟨z1, z2⟩
    · exact p i d z
    · rw [z1, l, z2]
      exact hc
theorem frs_l (t : k_St) {o : Nat} (h : o < 18) (k : Nat) : (frs t).1 o k = t.1 o k := if_neg (by omega)
theorem frs_h (t : k_St) {o k : Nat} (h : 18 ≤ o) (h2 : ¬ (o = 18 ∧ k = 0)) : (frs t).1 o k = 0 := by
  have e : (frs t).1 o k = if 18 ≤ o then (if o = 18 ∧ k = 0 then -1 else 0) else t.1 o k := rfl
  rw [e, if_pos h, if_neg h2]
/-- the tape behind a text is as it was, and empty -/
theorem terr_read {x m : k_St} (h : CR x m) {n : Nat} (hn : big n) {k j : Nat} (hj : j ≤ k) (hk : k ≤ 900) : ∃ x0 t3, (∀ o k, ¬ (o = 0 ∧ k = 11) → (o < 10 ∨ 20 < o) → x0.1 o k = x.1 o k ∧ x0.2 o k = x.2 o k) ∧ x0.1 0 11 = 0 ∧ x0.1 18 0 = 0 ∧ f_M_goesOn_R n (tm2 (nI j) m) = some t3 ∧ RO x0 (tm2 (nI j) m) (f_Re_reads n (nI j) x) (f_M_readAll_R n t3) := by
  obtain ⟨bs, bl, bp⟩ := mk_bs (fun i c => x.1 1 i = bv c ∧ c < 256) j (fun i hi => by
    obtain ⟨c, c1, c2⟩ := (h.1 i (by omega)).2
    exact ⟨c, c2, c1⟩)
  have o1 : ∀ i, (tm2 (nI j) m).1 1 i = m.1 1 i := fun i => by
    unfold tm2 tm1
    rw [sI1, if_neg (by omega)]
    rw [frs_l _ (by omega), sI1, if_neg (by omega), sI1, if_neg (by omega), sI1, if_neg (by omega), sI1, if_neg (by omega), sI1, if_neg (by omega)]
  have hi : ∀ i c, bs[i]? = some c → x.1 1 i = bv c ∧ (tm2 (nI j) m).1 1 i = bv c ∧ c < 256 := fun i c z => by
    have zl := (List.getElem?_eq_some_iff.mp z).1
    obtain ⟨b1, b2⟩ := bp i c z
    refine ⟨b1, ?_, b2⟩
    rw [o1, ← (h.1 i (by omega)).1]
    exact b1
  obtain ⟨x0, a1, a0, a2, a3⟩ := bothRead (n := n) (x := x) (m := tm2 (nI j) m) (by omega) (by omega) hi (by rw [bl]; rfl) rfl rfl ⟨rfl, fun k z1 z2 => by
    unfold tm2
    rw [sI1, if_neg (by omega)]
    exact frs_h _ (by omega) (by omega), fun k z => by
    unfold tm2
    rw [sI1, if_neg (by omega)]
    exact frs_h _ (by omega) (by omega), fun k z => by
    unfold tm2
    rw [sI1, if_neg (by omega)]
    exact frs_h _ (by omega) (by omega)⟩
  rw [bl] at a3
  cases hg : f_M_goesOn_R n (tm2 (nI j) m) with
  | none =>
    rw [hg] at a3
    rcases a3 with ⟨T, x', m', -, z, -⟩ | ⟨c, P, x', m', -, -, z, -⟩
    · cases z
    · cases z
  | some t3 =>
    rw [hg, kcv] at a3
    exact ⟨x0, t3, a1, a0, a2, rfl, a3⟩
theorem tm2_o (x1 : Int32) (m : k_St) {o k : Nat} (h : ¬ (o = 0 ∧ (k = 0 ∨ k = 6 ∨ k = 7 ∨ k = 8 ∨ k = 9 ∨ k = 12))) (h18 : o < 18) : (tm2 x1 m).1 o k = m.1 o k := by
  unfold tm2 tm1
  rw [sI1, if_neg (by omega)]
  rw [frs_l _ h18, sI1, if_neg (by omega), sI1, if_neg (by omega), sI1, if_neg (by omega), sI1, if_neg (by omega), sI1, if_neg (by omega)]
