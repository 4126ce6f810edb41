/-! ===== the reference's ways to pair ===== -/
def mq (t u : k_St) : Prop := (∀ o k, ¬ (o = 0 ∧ k = 31) → o ≠ 8 → o ≠ 9 → u.1 o k = t.1 o k) ∧ u.2 = t.2
theorem mq.rf (t : k_St) : mq t t := ⟨fun _ _ _ _ _ => rfl, rfl⟩
theorem mq.tr {t u v : k_St} (h : mq t u) (g : mq u v) : mq t v := ⟨fun o k a b c => (g.1 o k a b c).trans (h.1 o k a b c), g.2.trans h.2⟩
def BM (N : Nat) (t : k_St) (L : List Nat) : Prop := t.1 0 31 = nI L.length ∧ ∀ r c, L[r]? = some c → ∀ h, h < N → t.1 8 (5 * r + h) = nI (dgt N c h)
theorem fisWay {n N c : Nat} (hn : 200 ≤ n) (hN : N ≤ 5) {t : k_St} (h4 : t.1 18 4 = nI N) (h9 : ∀ h, h < N → t.1 9 h = nI (dgt N c h)) : f_M_isWay n t = some (isw N c) := by
  have key : ∀ (f h : Nat), h ≤ N → N - h < f → f_M_isWay_2 n t f (nI h) = some ((List.range' h (N - h)).all (fun h => decide (dgt N c h ≠ h) && (decide (N ≤ dgt N c h) || decide (dgt N c (dgt N c h) = h)))) := by
    intro f
    induction f with
    | zero => intro h _ q; omega
    | succ f ih =>
      intro h hh hf
      rw [f_M_isWay_2, h4]
      rcases Nat.lt_or_ge h N with hl | hl
      · have hd := dgt_le N c h
        have i := ih (h + 1) (by omega) (by omega)
        rw [show N - h = (N - (h + 1)) + 1 by omega, List.range'_succ, List.all_cons, if_neg (nI_ge hl (by omega)), kgi (kin (by omega) (by decide)), nI_clamp (n := h) (by omega), h9 h hl]
        by_cases e : dgt N c h = h
        · rw [if_pos (by rw [e]), show decide (dgt N c h ≠ h) = false from decide_eq_false (by simpa using e)]
          rfl
        · rw [if_neg (fun q => e (nI_inj (by omega) (by omega) q)), kgi (kin (by omega) (by decide)), klt, nI_1, show decide (dgt N c h ≠ h) = true from decide_eq_true e, Bool.true_and]
          by_cases e2 : N ≤ dgt N c h
          · rw [if_pos (nI_le e2 (by omega)), decide_eq_true e2, Bool.true_or, Bool.true_and]
            exact i
          · have hd2 := dgt_le N c (dgt N c h)
            rw [if_neg (nI_ge (by omega) (by omega)), kgi (kin (by omega) (by decide)), kgi (kin (by omega) (by decide)), nI_clamp (n := dgt N c h) (by omega), h9 _ (by omega), decide_eq_false e2, Bool.false_or]
            by_cases e3 : dgt N c (dgt N c h) = h
            · rw [if_pos (by rw [e3]), decide_eq_true e3, Bool.true_and]
              exact i
            · rw [if_neg (fun q => e3 (nI_inj (by omega) (by omega) q)), decide_eq_false e3]
              rfl
      · rw [if_pos (nI_le hl (by omega)), show N - h = 0 by omega]
        rfl
  have := key n 0 (by omega) (by omega)
  rw [Nat.sub_zero, ← List.range_eq_range'] at this
  exact this
theorem fw94 {n N c : Nat} (hN : N ≤ 5) {rec36 : Int32 → Int32 → Int32 → k_St → Option k_St} (x2 : Int32) (x3 : Nat) {L : List Nat} (hL : L.length < 26) : ∀ (f h : Nat) (t : k_St), h ≤ N → N - h < f → BM N t L → (∀ k, k < N → t.1 9 k = nI (dgt N c k)) → (∀ k, k < h → t.1 8 (5 * L.length + k) = nI (dgt N c k)) → ∃ u, f_M_waysAll_94 n rec36 f (nI N) x2 (nI x3) (nI h) t = rec36 (nI N) x2 (nI (x3 + 1)) u ∧ mq t u ∧ BM N u (L ++ [c]) := by
  intro f
  induction f with
  | zero => intro h t _ q; omega
  | succ f ih =>
    intro h t hh hf hB h9 h8
    rw [f_M_waysAll_94, hB.1]
    rcases Nat.lt_or_ge h N with hl | hl
    · rw [if_neg (nI_ge hl (by omega)), kgi (kin (by omega) (by decide)), l5, pk_mul, nI_add, kgi (kin (by omega) (by decide)), klt, klt, nI_1, nI_clamp (n := h) (by omega), nI_clamp (n := 5 * L.length + h) (by omega), h9 h hl]
      obtain ⟨u, a, b, c'⟩ := ih (h + 1) (k_sI t 8 (5 * L.length + h) (nI (dgt N c h))) (by omega) (by omega) ⟨by rw [sI1, if_neg (by omega)]; exact hB.1, fun r q hr k hk => by
          have := (List.getElem?_eq_some_iff.mp hr).1
          rw [sI1, if_neg (by omega)]; exact hB.2 r q hr k hk⟩ (fun k hk => by rw [sI1, if_neg (by omega)]; exact h9 k hk) (fun k hk => by
        rw [sI1]
        by_cases e : k = h
        · rw [if_pos ⟨rfl, by omega⟩, e]
        · rw [if_neg (by omega)]; exact h8 k (by omega))
      exact ⟨u, a, mq.tr (u := k_sI t 8 (5 * L.length + h) (nI (dgt N c h))) ⟨fun o k p q r => by rw [sI1, if_neg (by omega)], rfl⟩ b, c'⟩
    · rw [if_pos (nI_le hl (by omega)), klt, klt, nI_1, nI_1]
      refine ⟨_, rfl, ⟨fun o k p q r => by rw [sI1, if_neg (by omega)], rfl⟩, by rw [sI1, if_pos ⟨rfl, rfl⟩, List.length_append]; rfl, fun r q hr k hk => ?_⟩
      rw [sI1, if_neg (by omega)]
      by_cases e : r = L.length
      · rw [e, List.getElem?_append_right (by omega)] at hr
        simp at hr
        rw [e, ← hr]
        exact h8 k (by omega)
      · have h4 := (List.getElem?_eq_some_iff.mp hr).1
        rw [List.length_append] at h4
        simp at h4
        rw [List.getElem?_append_left (by omega)] at hr
        exact hB.2 r q hr k hk
theorem BM.sm {N : Nat} {t u : k_St} {L : List Nat} (h : BM N t L) (e : ∀ o k, (o = 0 ∧ k = 31) ∨ o = 8 → u.1 o k = t.1 o k) : BM N u L := ⟨by rw [e 0 31 (by omega)]; exact h.1, fun r c hr k hk => by rw [e 8 _ (by omega)]; exact h.2 r c hr k hk⟩
theorem fw49 {n N c : Nat} (hn : 200 ≤ n) (hN : N ≤ 5) (hc : c < 2 ^ 31) {rec36 : Int32 → Int32 → Int32 → k_St → Option k_St} (x2 : Int32) {L : List Nat} (hL : isw N c = true → L.length < 26) : ∀ (j f : Nat) (t : k_St), j ≤ N → j < f → t.1 18 4 = nI N → BM N t L → (∀ k, j ≤ k → k < N → t.1 9 k = nI (dgt N c k)) → ∃ u, f_M_waysAll_49 n rec36 f (nI N) x2 (nI c) (nI (c / (N + 1) ^ (N - j))) (nI j - 1) t = rec36 (nI N) x2 (nI (c + 1)) u ∧ mq t u ∧ BM N u (L ++ (if isw N c then [c] else [])) := by
  intro j
  induction j with
  | zero =>
    intro f t _ hf h4 hB h9
    obtain ⟨f, rfl⟩ : ∃ f', f = f' + 1 := ⟨f - 1, by omega⟩
    rw [f_M_waysAll_49, if_pos (show nI 0 - 1 < 0 by decide), fisWay hn hN h4 (fun h hh => h9 h (by omega) hh), kcp]
    by_cases e : isw N c = true
    · rw [if_neg (k_bne e), if_pos e]
      exact fw94 hN x2 c (hL e) n 0 t (by omega) (by omega) hB (fun k hk => h9 k (by omega) hk) (fun k hk => by omega)
    · rw [if_pos (k_beq (by simpa using e)), if_neg e, List.append_nil, klt, nI_1]
      exact ⟨t, rfl, mq.rf t, hB⟩
  | succ j ih =>
    intro f t hj hf h4 hB h9
    obtain ⟨f, rfl⟩ : ∃ f', f = f' + 1 := ⟨f - 1, by omega⟩
    have hdl : c / (N + 1) ^ (N - (j + 1)) < 2 ^ 31 := Nat.lt_of_le_of_lt (Nat.div_le_self _ _) hc
    have e1 : c / (N + 1) ^ (N - (j + 1)) % (N + 1) = dgt N c j := by unfold dgt; rw [show N - 1 - j = N - (j + 1) by omega]
    have e2 : c / (N + 1) ^ (N - (j + 1)) / (N + 1) = c / (N + 1) ^ (N - j) := by rw [Nat.div_div_eq_div_mul, ← Nat.pow_succ, show (N - (j + 1)).succ = N - j by omega]
    have ne : ¬ nI (N + 1) = 0 := neL (b := 0) 0 (by omega) rfl (by omega) (by omega)
    rw [f_M_waysAll_49, nI_pred, if_neg (nI_pos (by omega)), nI_1, kgd ne, kgi (kin (by omega) (by decide)), klt, kgd ne, klt, klt, pk_rem hdl (by omega) (by omega), pk_div hdl (by omega) (by omega), e1, e2, nI_clamp (n := j) (by omega), ← Int32.sub_eq_add_neg]
    obtain ⟨u, a, b, c'⟩ := ih f (k_sI t 9 j (nI (dgt N c j))) (by omega) (by omega) (by rw [sI1, if_neg (by omega)]; exact h4) (hB.sm (fun o k q => by rw [sI1, if_neg (by omega)])) (fun k h1 h2 => by
      rw [sI1]
      by_cases e : k = j
      · rw [if_pos ⟨rfl, e⟩, e]
      · rw [if_neg (by omega)]; exact h9 k (by omega) h2)
    exact ⟨u, a, mq.tr (u := k_sI t 9 j (nI (dgt N c j))) ⟨fun o k p q r => by rw [sI1, if_neg (by omega)], rfl⟩ b, c'⟩
theorem wy_pre {N c : Nat} (h : c ≤ (N + 1) ^ N) : ((List.range c).filter (isw N)).length ≤ (wy N).length := by
  obtain ⟨k, hk⟩ : ∃ k, (N + 1) ^ N = c + k := ⟨(N + 1) ^ N - c, by omega⟩
  unfold wy
  rw [hk, List.range_add, List.filter_append, List.length_append]
  omega
theorem pow_N : ∀ N, N ≤ 5 → (N + 1) ^ N ≤ 7776 := by decide
theorem fw36 {n N : Nat} (hn : 200 ≤ n) (hN : N ≤ 5) : ∀ (f c : Nat) (t : k_St), c ≤ (N + 1) ^ N → (N + 1) ^ N - c < f → t.1 18 4 = nI N → BM N t ((List.range c).filter (isw N)) → ∃ u, f_M_waysAll_36 n f (nI N) (nI ((N + 1) ^ N)) (nI c) t = some u ∧ mq t u ∧ BM N u (wy N) := by
  have hp := pow_N N hN
  have hw := (wy_pf N hN).2.1
  intro f
  induction f with
  | zero => intro c t _ q; omega
  | succ f ih =>
    intro c t hc hf h4 hB
    rw [f_M_waysAll_36]
    rcases Nat.lt_or_ge c ((N + 1) ^ N) with hl | hl
    · have e1 : (List.range (c + 1)).filter (isw N) = (List.range c).filter (isw N) ++ (if isw N c then [c] else []) := by
        rw [List.range_succ, List.filter_append]
        by_cases e : isw N c = true
        · simp [e]
        · simp [e]
      have hpre := wy_pre (N := N) (c := c + 1) (by omega)
      obtain ⟨u, a, b, c'⟩ := fw49 (n := n) (N := N) (c := c) (rec36 := f_M_waysAll_36 n f) hn hN (by omega) (nI ((N + 1) ^ N)) (L := (List.range c).filter (isw N)) (fun e => by
        rw [e1, if_pos e, List.length_append] at hpre
        simp at hpre ⊢
        omega) N n t (by omega) (by omega) h4 hB (fun k h1 h2 => by omega)
      rw [Nat.sub_self, Nat.pow_zero, Nat.div_one] at a
      rw [if_neg (nI_ge hl (by omega)), klt, a]
      rw [← e1] at c'
      obtain ⟨y, a2, b2, c2⟩ := ih (c + 1) u (by omega) (by omega) (by rw [b.1 18 4 (by omega) (by omega) (by omega)]; exact h4) c'
      exact ⟨y, a2, b.tr b2, c2⟩
    · rw [if_pos (nI_le hl (by omega))]
      rw [show c = (N + 1) ^ N by omega] at hB
      exact ⟨t, rfl, mq.rf t, hB⟩
theorem fwaysAll {T : t_D} (w : Tw T) {n : Nat} (hn : big n) {t : k_St} (hM : MTT T t) : ∃ u, f_M_waysAll n t = some u ∧ mq t u ∧ BM (T 0 4) u (wy (T 0 4)) := by
  have h5 := w.2.2.2.2.1
  have hp := pow_N (T 0 4) h5
  unfold f_M_waysAll
  rw [klt (k_sI t 0 31 0), sI1, if_neg (by omega), hM.1 4 (by omega), klt]
  have tz : mq t (k_sI t 0 31 0) := ⟨fun o k a b c => by rw [sI1, if_neg (by omega)], rfl⟩
  have key : ∀ (f i : Nat), i ≤ T 0 4 → T 0 4 - i < f → f_M_waysAll_17 n f (nI (T 0 4)) (nI ((T 0 4 + 1) ^ i)) (nI i) (k_sI t 0 31 0) = f_M_waysAll_36 n n (nI (T 0 4)) (nI ((T 0 4 + 1) ^ T 0 4)) (nI 0) (k_sI t 0 31 0) := by
    intro f
    induction f with
    | zero => intro i _ q; omega
    | succ f ih =>
      intro i hi hf
      rw [f_M_waysAll_17]
      rcases Nat.lt_or_ge i (T 0 4) with hl | hl
      · rw [if_neg (nI_ge hl (by omega)), klt, klt, nI_1, nI_1, pk_mul, ← Nat.pow_succ]
        exact ih (i + 1) (by omega) (by omega)
      · rw [if_pos (nI_le hl (by omega)), show i = T 0 4 by omega]
        rfl
  have k0 := key n 0 (by omega) (by omega)
  rw [Nat.pow_zero] at k0
  obtain ⟨u, a, b, c⟩ := fw36 (n := n) (N := T 0 4) (by omega) h5 n 0 (k_sI t 0 31 0) (by omega) (by omega) (by rw [sI1, if_neg (by omega)]; exact hM.1 4 (by omega)) ⟨by rw [sI1, if_pos ⟨rfl, rfl⟩]; rfl, fun r c hr => by simp at hr⟩
  exact ⟨u, (show f_M_waysAll_17 n n (nI (T 0 4)) 1 0 (k_sI t 0 31 0) = _ from k0).trans a, tz.tr b, c⟩
