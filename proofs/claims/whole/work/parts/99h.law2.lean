/-! ===== the law: calls 17 to 32 ===== -/
section LCS
variable {cells slots : Nat} {p : Program} {l : Launch} {e : Env} {s : State} {m : MethodId} {args : Array Value} {below : List Frame} {meth : Method} {c : Code} {Q : State → Prop} {G : k_G} {A : Nat → Prop} {w : va_W} {b L j ax dm oo n : Nat} {xs : Nat → Int32}
theorem lc_wanted (h : l_C p s m args meth c G A b L xs j) (hn : big n) (hcs : cells ≤ 601024 ∧ slots ≤ 7293034) (hw : l_W G ax dm oo w) (kk : ∀ w2, l_W G ax dm oo w2 → k_GoA p l e room_1 s m args below meth c Q 7 G A cells slots w2 1695 (l_lv b ax dm oo j) []) : k_GoA p l e room_1 s m args below meth c Q 7 G A cells slots w 753 (l_lv b ax dm oo j) [] := by
  have hA := h.1
  obtain ⟨a, d, rv, f, x, mm, rfl, rfl, hcase⟩ := hw
  rcases hcase with ⟨h0, rfl⟩ | ⟨T, v, K, I, h0, rfl⟩
  · obtain ⟨r, y, u, e1, e2, h2⟩ := z_wanted (n := n) h0 (xs (6 * j + 1))
    refine ka_aload_n (i := 1) hA dL_law_753 rfl 1 rfl ?_
    refine l_arg h (Nat.le_of_ble_eq_true rfl) ll_754 ?_
    refine ka_callVi (w1 := k_WN G.2.1 d rv mm) (As := [.int (xs (6 * j + 1))]) (rest := []) hA (m_X_wanted l G a (.ref (a 10)) n (xs (6 * j + 1)) x e1) cd_X10_wanted wd_884 (hc_X_0 G.2.1 a (.ref (a 10)) x) rfl rfl ⟨(Nat.le_of_ble_eq_true rfl), (Nat.le_of_ble_eq_true rfl)⟩ hcs rfl rfl (Nat.le_of_ble_eq_true rfl) dL_law_760 ?_
    refine ka_aload_n (i := 2) hA dL_law_763 rfl 2 rfl ?_
    refine l_arg h (Nat.le_of_ble_eq_true rfl) ll_764 ?_
    refine kb_callVi (As := [.int (xs (6 * j + 1))]) (rest := [.int r]) hA (m_M_wanted_N l G d rv n (xs (6 * j + 1)) mm e2) cd_X12_wanted wd_1724 (hc_MN_0 G.2.1 d rv mm) rfl rfl ⟨(Nat.le_of_ble_eq_true rfl), (Nat.le_of_ble_eq_true rfl)⟩ hcs rfl rfl (Nat.le_of_ble_eq_true rfl) dL_law_770 ?_
    exact ka_icmp_eq (tgt := 1695) hA dL_law_773 rfl (fun _ => kk _ ⟨a, d, rv, f, y, u, rfl, rfl, Or.inl ⟨h2, rfl⟩⟩) (fun hc => absurd rfl hc)
  · obtain ⟨r, y, u, e1, e2, T2, v2, K2, I2, h2⟩ := s_wanted h0 hn (xs (6 * j + 1))
    refine ka_aload_n (i := 1) hA dL_law_753 rfl 1 rfl ?_
    refine l_arg h (Nat.le_of_ble_eq_true rfl) ll_754 ?_
    refine ka_callVi (w1 := k_WT G.2.1 d rv mm) (As := [.int (xs (6 * j + 1))]) (rest := []) hA (m_X_wanted l G a (.ref (a 10)) n (xs (6 * j + 1)) x e1) cd_X10_wanted wd_884 (hc_X_0 G.2.1 a (.ref (a 10)) x) rfl rfl ⟨(Nat.le_of_ble_eq_true rfl), (Nat.le_of_ble_eq_true rfl)⟩ hcs rfl rfl (Nat.le_of_ble_eq_true rfl) dL_law_760 ?_
    refine ka_aload_n (i := 2) hA dL_law_763 rfl 2 rfl ?_
    refine l_arg h (Nat.le_of_ble_eq_true rfl) ll_764 ?_
    refine kb_callVi (As := [.int (xs (6 * j + 1))]) (rest := [.int r]) hA (m_M_wanted l G d rv n (xs (6 * j + 1)) mm e2) cd_X12_wanted wd_1724 (hc_MT_0 G.2.1 d rv mm) rfl rfl ⟨(Nat.le_of_ble_eq_true rfl), (Nat.le_of_ble_eq_true rfl)⟩ hcs rfl rfl (Nat.le_of_ble_eq_true rfl) dL_law_770 ?_
    exact ka_icmp_eq (tgt := 1695) hA dL_law_773 rfl (fun _ => kk _ ⟨a, d, rv, f, y, u, rfl, rfl, Or.inr ⟨T2, v2, K2, I2, h2, rfl⟩⟩) (fun hc => absurd rfl hc)
theorem lc_ask (h : l_C p s m args meth c G A b L xs j) (hn : big n) (hcs : cells ≤ 601024 ∧ slots ≤ 7293034) (hw : l_W G ax dm oo w) (kk : ∀ w2, l_W G ax dm oo w2 → k_GoA p l e room_1 s m args below meth c Q 7 G A cells slots w2 1695 (l_lv b ax dm oo j) []) : k_GoA p l e room_1 s m args below meth c Q 7 G A cells slots w 778 (l_lv b ax dm oo j) [] := by
  have hA := h.1
  obtain ⟨a, d, rv, f, x, mm, rfl, rfl, hcase⟩ := hw
  rcases hcase with ⟨h0, rfl⟩ | ⟨T, v, K, I, h0, rfl⟩
  · obtain ⟨r, y, u, e1, e2, h2⟩ := z_ask (n := n) h0 (xs (6 * j + 1))
    refine ka_aload_n (i := 1) hA dL_law_778 rfl 1 rfl ?_
    refine l_arg h (Nat.le_of_ble_eq_true rfl) ll_779 ?_
    refine ka_callVi (w1 := k_WN G.2.1 d rv mm) (As := [.int (xs (6 * j + 1))]) (rest := []) hA (m_X_ask l G a (.ref (a 10)) n (xs (6 * j + 1)) x e1) cd_X10_ask wd_888 (hc_X_0 G.2.1 a (.ref (a 10)) x) rfl rfl ⟨(Nat.le_of_ble_eq_true rfl), (Nat.le_of_ble_eq_true rfl)⟩ hcs rfl rfl (Nat.le_of_ble_eq_true rfl) dL_law_785 ?_
    refine ka_aload_n (i := 2) hA dL_law_788 rfl 2 rfl ?_
    refine l_arg h (Nat.le_of_ble_eq_true rfl) ll_789 ?_
    refine kb_callVi (As := [.int (xs (6 * j + 1))]) (rest := [.int r]) hA (m_M_ask_N l G d rv n (xs (6 * j + 1)) mm e2) cd_X12_ask wd_1728 (hc_MN_0 G.2.1 d rv mm) rfl rfl ⟨(Nat.le_of_ble_eq_true rfl), (Nat.le_of_ble_eq_true rfl)⟩ hcs rfl rfl (Nat.le_of_ble_eq_true rfl) dL_law_795 ?_
    exact ka_icmp_eq (tgt := 1695) hA dL_law_798 rfl (fun _ => kk _ ⟨a, d, rv, f, y, u, rfl, rfl, Or.inl ⟨h2, rfl⟩⟩) (fun hc => absurd rfl hc)
  · obtain ⟨r, y, u, e1, e2, T2, v2, K2, I2, h2⟩ := s_ask h0 hn (xs (6 * j + 1))
    refine ka_aload_n (i := 1) hA dL_law_778 rfl 1 rfl ?_
    refine l_arg h (Nat.le_of_ble_eq_true rfl) ll_779 ?_
    refine ka_callVi (w1 := k_WT G.2.1 d rv mm) (As := [.int (xs (6 * j + 1))]) (rest := []) hA (m_X_ask l G a (.ref (a 10)) n (xs (6 * j + 1)) x e1) cd_X10_ask wd_888 (hc_X_0 G.2.1 a (.ref (a 10)) x) rfl rfl ⟨(Nat.le_of_ble_eq_true rfl), (Nat.le_of_ble_eq_true rfl)⟩ hcs rfl rfl (Nat.le_of_ble_eq_true rfl) dL_law_785 ?_
    refine ka_aload_n (i := 2) hA dL_law_788 rfl 2 rfl ?_
    refine l_arg h (Nat.le_of_ble_eq_true rfl) ll_789 ?_
    refine kb_callVi (As := [.int (xs (6 * j + 1))]) (rest := [.int r]) hA (m_M_ask l G d rv n (xs (6 * j + 1)) mm e2) cd_X12_ask wd_1728 (hc_MT_0 G.2.1 d rv mm) rfl rfl ⟨(Nat.le_of_ble_eq_true rfl), (Nat.le_of_ble_eq_true rfl)⟩ hcs rfl rfl (Nat.le_of_ble_eq_true rfl) dL_law_795 ?_
    exact ka_icmp_eq (tgt := 1695) hA dL_law_798 rfl (fun _ => kk _ ⟨a, d, rv, f, y, u, rfl, rfl, Or.inr ⟨T2, v2, K2, I2, h2, rfl⟩⟩) (fun hc => absurd rfl hc)
theorem lc_askAll (h : l_C p s m args meth c G A b L xs j) (hn : big n) (hcs : cells ≤ 601024 ∧ slots ≤ 7293034) (hw : l_W G ax dm oo w) (kk : ∀ w2, l_W G ax dm oo w2 → k_GoA p l e room_1 s m args below meth c Q 7 G A cells slots w2 1695 (l_lv b ax dm oo j) []) : k_GoA p l e room_1 s m args below meth c Q 7 G A cells slots w 803 (l_lv b ax dm oo j) [] := by
  have hA := h.1
  obtain ⟨a, d, rv, f, x, mm, rfl, rfl, hcase⟩ := hw
  rcases hcase with ⟨h0, rfl⟩ | ⟨T, v, K, I, h0, rfl⟩
  · obtain ⟨r, y, u, e1, e2, h2⟩ := z_askAll (n := n) h0 (xs (6 * j + 1))
    refine ka_aload_n (i := 1) hA dL_law_803 rfl 1 rfl ?_
    refine l_arg h (Nat.le_of_ble_eq_true rfl) ll_804 ?_
    refine ka_callVi (w1 := k_WN G.2.1 d rv mm) (As := [.int (xs (6 * j + 1))]) (rest := []) hA (m_X_askAll l G a (.ref (a 10)) n (xs (6 * j + 1)) x e1) cd_X10_askAll wd_893 (hc_X_0 G.2.1 a (.ref (a 10)) x) rfl rfl ⟨(Nat.le_of_ble_eq_true rfl), (Nat.le_of_ble_eq_true rfl)⟩ hcs rfl rfl (Nat.le_of_ble_eq_true rfl) dL_law_810 ?_
    refine ka_aload_n (i := 2) hA dL_law_813 rfl 2 rfl ?_
    refine l_arg h (Nat.le_of_ble_eq_true rfl) ll_814 ?_
    refine kb_callVi (As := [.int (xs (6 * j + 1))]) (rest := [.int r]) hA (m_M_askAll_N l G d rv (xs (6 * j + 1)) mm e2) cd_X12_askAll wd_1736 (hc_MN_0 G.2.1 d rv mm) rfl rfl ⟨(Nat.le_of_ble_eq_true rfl), (Nat.le_of_ble_eq_true rfl)⟩ hcs rfl rfl (Nat.le_of_ble_eq_true rfl) dL_law_820 ?_
    exact ka_icmp_eq (tgt := 1695) hA dL_law_823 rfl (fun _ => kk _ ⟨a, d, rv, f, y, u, rfl, rfl, Or.inl ⟨h2, rfl⟩⟩) (fun hc => absurd rfl hc)
  · obtain ⟨r, y, u, e1, e2, T2, v2, K2, I2, h2⟩ := s_askAll h0 hn (xs (6 * j + 1))
    refine ka_aload_n (i := 1) hA dL_law_803 rfl 1 rfl ?_
    refine l_arg h (Nat.le_of_ble_eq_true rfl) ll_804 ?_
    refine ka_callVi (w1 := k_WT G.2.1 d rv mm) (As := [.int (xs (6 * j + 1))]) (rest := []) hA (m_X_askAll l G a (.ref (a 10)) n (xs (6 * j + 1)) x e1) cd_X10_askAll wd_893 (hc_X_0 G.2.1 a (.ref (a 10)) x) rfl rfl ⟨(Nat.le_of_ble_eq_true rfl), (Nat.le_of_ble_eq_true rfl)⟩ hcs rfl rfl (Nat.le_of_ble_eq_true rfl) dL_law_810 ?_
    refine ka_aload_n (i := 2) hA dL_law_813 rfl 2 rfl ?_
    refine l_arg h (Nat.le_of_ble_eq_true rfl) ll_814 ?_
    refine kb_callVi (As := [.int (xs (6 * j + 1))]) (rest := [.int r]) hA (m_M_askAll l G d rv n (xs (6 * j + 1)) mm e2) cd_X12_askAll wd_1736 (hc_MT_0 G.2.1 d rv mm) rfl rfl ⟨(Nat.le_of_ble_eq_true rfl), (Nat.le_of_ble_eq_true rfl)⟩ hcs rfl rfl (Nat.le_of_ble_eq_true rfl) dL_law_820 ?_
    exact ka_icmp_eq (tgt := 1695) hA dL_law_823 rfl (fun _ => kk _ ⟨a, d, rv, f, y, u, rfl, rfl, Or.inr ⟨T2, v2, K2, I2, h2, rfl⟩⟩) (fun hc => absurd rfl hc)
theorem lc_sense (h : l_C p s m args meth c G A b L xs j) (hn : big n) (hcs : cells ≤ 601024 ∧ slots ≤ 7293034) (hw : l_W G ax dm oo w) (kk : ∀ w2, l_W G ax dm oo w2 → k_GoA p l e room_1 s m args below meth c Q 7 G A cells slots w2 1695 (l_lv b ax dm oo j) []) : k_GoA p l e room_1 s m args below meth c Q 7 G A cells slots w 828 (l_lv b ax dm oo j) [] := by
  have hA := h.1
  obtain ⟨a, d, rv, f, x, mm, rfl, rfl, hcase⟩ := hw
  rcases hcase with ⟨h0, rfl⟩ | ⟨T, v, K, I, h0, rfl⟩
  · obtain ⟨r, y, u, e1, e2, h2⟩ := z_sense (n := n) h0
    refine ka_aload_n (i := 1) hA dL_law_828 rfl 1 rfl ?_
    refine ka_callVi (w1 := k_WN G.2.1 d rv mm) (As := []) (rest := []) hA (m_X_sense l G a (.ref (a 10)) n x e1) cd_X10_sense wd_901 (hc_X_0 G.2.1 a (.ref (a 10)) x) rfl rfl ⟨(Nat.le_of_ble_eq_true rfl), (Nat.le_of_ble_eq_true rfl)⟩ hcs rfl rfl (Nat.le_of_ble_eq_true rfl) dL_law_829 ?_
    refine ka_aload_n (i := 2) hA dL_law_832 rfl 2 rfl ?_
    refine kb_callVi (As := []) (rest := [.int r]) hA (m_M_sense_N l G d rv mm (Option.some.inj e2)) cd_X12_sense wd_1740 (hc_MN_0 G.2.1 d rv mm) rfl rfl ⟨(Nat.le_of_ble_eq_true rfl), (Nat.le_of_ble_eq_true rfl)⟩ hcs rfl rfl (Nat.le_of_ble_eq_true rfl) dL_law_833 ?_
    exact ka_icmp_eq (tgt := 1695) hA dL_law_836 rfl (fun _ => kk _ ⟨a, d, rv, f, y, u, rfl, rfl, Or.inl ⟨h2, rfl⟩⟩) (fun hc => absurd rfl hc)
  · obtain ⟨r, y, u, e1, e2, T2, v2, K2, I2, h2⟩ := s_sense h0 hn
    refine ka_aload_n (i := 1) hA dL_law_828 rfl 1 rfl ?_
    refine ka_callVi (w1 := k_WT G.2.1 d rv mm) (As := []) (rest := []) hA (m_X_sense l G a (.ref (a 10)) n x e1) cd_X10_sense wd_901 (hc_X_0 G.2.1 a (.ref (a 10)) x) rfl rfl ⟨(Nat.le_of_ble_eq_true rfl), (Nat.le_of_ble_eq_true rfl)⟩ hcs rfl rfl (Nat.le_of_ble_eq_true rfl) dL_law_829 ?_
    refine ka_aload_n (i := 2) hA dL_law_832 rfl 2 rfl ?_
    refine kb_callVi (As := []) (rest := [.int r]) hA (m_M_sense l G d rv n mm e2) cd_X12_sense wd_1740 (hc_MT_0 G.2.1 d rv mm) rfl rfl ⟨(Nat.le_of_ble_eq_true rfl), (Nat.le_of_ble_eq_true rfl)⟩ hcs rfl rfl (Nat.le_of_ble_eq_true rfl) dL_law_833 ?_
    exact ka_icmp_eq (tgt := 1695) hA dL_law_836 rfl (fun _ => kk _ ⟨a, d, rv, f, y, u, rfl, rfl, Or.inr ⟨T2, v2, K2, I2, h2, rfl⟩⟩) (fun hc => absurd rfl hc)
theorem lc_wisest (h : l_C p s m args meth c G A b L xs j) (hn : big n) (hcs : cells ≤ 601024 ∧ slots ≤ 7293034) (hw : l_W G ax dm oo w) (kk : ∀ w2, l_W G ax dm oo w2 → k_GoA p l e room_1 s m args below meth c Q 7 G A cells slots w2 1695 (l_lv b ax dm oo j) []) : k_GoA p l e room_1 s m args below meth c Q 7 G A cells slots w 841 (l_lv b ax dm oo j) [] := by
  have hA := h.1
  obtain ⟨a, d, rv, f, x, mm, rfl, rfl, hcase⟩ := hw
  rcases hcase with ⟨h0, rfl⟩ | ⟨T, v, K, I, h0, rfl⟩
  · obtain ⟨r, y, u, e1, e2, h2⟩ := z_wisest (n := n) h0
    refine ka_aload_n (i := 1) hA dL_law_841 rfl 1 rfl ?_
    refine ka_callVi (w1 := k_WN G.2.1 d rv mm) (As := []) (rest := []) hA (m_X_wisest l G a (.ref (a 10)) n x e1) cd_X10_wisest wd_905 (hc_X_0 G.2.1 a (.ref (a 10)) x) rfl rfl ⟨(Nat.le_of_ble_eq_true rfl), (Nat.le_of_ble_eq_true rfl)⟩ hcs rfl rfl (Nat.le_of_ble_eq_true rfl) dL_law_842 ?_
    refine ka_aload_n (i := 2) hA dL_law_845 rfl 2 rfl ?_
    refine kb_callVi (As := []) (rest := [.int r]) hA (m_M_wisest_N l G d rv mm (Option.some.inj e2)) cd_X12_wisest wd_1748 (hc_MN_0 G.2.1 d rv mm) rfl rfl ⟨(Nat.le_of_ble_eq_true rfl), (Nat.le_of_ble_eq_true rfl)⟩ hcs rfl rfl (Nat.le_of_ble_eq_true rfl) dL_law_846 ?_
    exact ka_icmp_eq (tgt := 1695) hA dL_law_849 rfl (fun _ => kk _ ⟨a, d, rv, f, y, u, rfl, rfl, Or.inl ⟨h2, rfl⟩⟩) (fun hc => absurd rfl hc)
  · obtain ⟨r, y, u, e1, e2, T2, v2, K2, I2, h2⟩ := s_wisest h0 hn
    refine ka_aload_n (i := 1) hA dL_law_841 rfl 1 rfl ?_
    refine ka_callVi (w1 := k_WT G.2.1 d rv mm) (As := []) (rest := []) hA (m_X_wisest l G a (.ref (a 10)) n x e1) cd_X10_wisest wd_905 (hc_X_0 G.2.1 a (.ref (a 10)) x) rfl rfl ⟨(Nat.le_of_ble_eq_true rfl), (Nat.le_of_ble_eq_true rfl)⟩ hcs rfl rfl (Nat.le_of_ble_eq_true rfl) dL_law_842 ?_
    refine ka_aload_n (i := 2) hA dL_law_845 rfl 2 rfl ?_
    refine kb_callVi (As := []) (rest := [.int r]) hA (m_M_wisest l G d rv n mm e2) cd_X12_wisest wd_1748 (hc_MT_0 G.2.1 d rv mm) rfl rfl ⟨(Nat.le_of_ble_eq_true rfl), (Nat.le_of_ble_eq_true rfl)⟩ hcs rfl rfl (Nat.le_of_ble_eq_true rfl) dL_law_846 ?_
    exact ka_icmp_eq (tgt := 1695) hA dL_law_849 rfl (fun _ => kk _ ⟨a, d, rv, f, y, u, rfl, rfl, Or.inr ⟨T2, v2, K2, I2, h2, rfl⟩⟩) (fun hc => absurd rfl hc)
theorem lc_soonest (h : l_C p s m args meth c G A b L xs j) (hn : big n) (hcs : cells ≤ 601024 ∧ slots ≤ 7293034) (hw : l_W G ax dm oo w) (kk : ∀ w2, l_W G ax dm oo w2 → k_GoA p l e room_1 s m args below meth c Q 7 G A cells slots w2 1695 (l_lv b ax dm oo j) []) : k_GoA p l e room_1 s m args below meth c Q 7 G A cells slots w 854 (l_lv b ax dm oo j) [] := by
  have hA := h.1
  obtain ⟨a, d, rv, f, x, mm, rfl, rfl, hcase⟩ := hw
  rcases hcase with ⟨h0, rfl⟩ | ⟨T, v, K, I, h0, rfl⟩
  · obtain ⟨r, y, u, e1, e2, h2⟩ := z_soonest (n := n) h0
    refine ka_aload_n (i := 1) hA dL_law_854 rfl 1 rfl ?_
    refine ka_callVi (w1 := k_WN G.2.1 d rv mm) (As := []) (rest := []) hA (m_X_soonest l G a (.ref (a 10)) n x e1) cd_X10_soonest wd_909 (hc_X_0 G.2.1 a (.ref (a 10)) x) rfl rfl ⟨(Nat.le_of_ble_eq_true rfl), (Nat.le_of_ble_eq_true rfl)⟩ hcs rfl rfl (Nat.le_of_ble_eq_true rfl) dL_law_855 ?_
    refine ka_aload_n (i := 2) hA dL_law_858 rfl 2 rfl ?_
    refine kb_callVi (As := []) (rest := [.int r]) hA (m_M_soonest_N l G d rv mm (Option.some.inj e2)) cd_X12_soonest wd_1752 (hc_MN_0 G.2.1 d rv mm) rfl rfl ⟨(Nat.le_of_ble_eq_true rfl), (Nat.le_of_ble_eq_true rfl)⟩ hcs rfl rfl (Nat.le_of_ble_eq_true rfl) dL_law_859 ?_
    exact ka_icmp_eq (tgt := 1695) hA dL_law_862 rfl (fun _ => kk _ ⟨a, d, rv, f, y, u, rfl, rfl, Or.inl ⟨h2, rfl⟩⟩) (fun hc => absurd rfl hc)
  · obtain ⟨r, y, u, e1, e2, T2, v2, K2, I2, h2⟩ := s_soonest h0 hn
    refine ka_aload_n (i := 1) hA dL_law_854 rfl 1 rfl ?_
    refine ka_callVi (w1 := k_WT G.2.1 d rv mm) (As := []) (rest := []) hA (m_X_soonest l G a (.ref (a 10)) n x e1) cd_X10_soonest wd_909 (hc_X_0 G.2.1 a (.ref (a 10)) x) rfl rfl ⟨(Nat.le_of_ble_eq_true rfl), (Nat.le_of_ble_eq_true rfl)⟩ hcs rfl rfl (Nat.le_of_ble_eq_true rfl) dL_law_855 ?_
    refine ka_aload_n (i := 2) hA dL_law_858 rfl 2 rfl ?_
    refine kb_callVi (As := []) (rest := [.int r]) hA (m_M_soonest l G d rv n mm e2) cd_X12_soonest wd_1752 (hc_MT_0 G.2.1 d rv mm) rfl rfl ⟨(Nat.le_of_ble_eq_true rfl), (Nat.le_of_ble_eq_true rfl)⟩ hcs rfl rfl (Nat.le_of_ble_eq_true rfl) dL_law_859 ?_
    exact ka_icmp_eq (tgt := 1695) hA dL_law_862 rfl (fun _ => kk _ ⟨a, d, rv, f, y, u, rfl, rfl, Or.inr ⟨T2, v2, K2, I2, h2, rfl⟩⟩) (fun hc => absurd rfl hc)
theorem lc_meets (h : l_C p s m args meth c G A b L xs j) (hn : big n) (hcs : cells ≤ 601024 ∧ slots ≤ 7293034) (hw : l_W G ax dm oo w) (kk : ∀ w2, l_W G ax dm oo w2 → k_GoA p l e room_1 s m args below meth c Q 7 G A cells slots w2 1695 (l_lv b ax dm oo j) []) : k_GoA p l e room_1 s m args below meth c Q 7 G A cells slots w 867 (l_lv b ax dm oo j) [] := by
  have hA := h.1
  obtain ⟨a, d, rv, f, x, mm, rfl, rfl, hcase⟩ := hw
  rcases hcase with ⟨h0, rfl⟩ | ⟨T, v, K, I, h0, rfl⟩
  · obtain ⟨r, y, u, e1, e2, h2⟩ := z_meets (n := n) h0 (xs (6 * j + 1)) (xs (6 * j + 2))
    refine ka_aload_n (i := 1) hA dL_law_867 rfl 1 rfl ?_
    refine l_arg h (Nat.le_of_ble_eq_true rfl) ll_868 ?_
    refine l_arg h (Nat.le_of_ble_eq_true rfl) ll_874 ?_
    refine ka_callVi (w1 := k_WN G.2.1 d rv mm) (As := [.int (xs (6 * j + 1)), .int (xs (6 * j + 2))]) (rest := []) hA (m_X_meets l G a (.ref (a 10)) n (xs (6 * j + 1)) (xs (6 * j + 2)) x e1) cd_X10_meets wd_940 (hc_X_0 G.2.1 a (.ref (a 10)) x) rfl rfl ⟨(Nat.le_of_ble_eq_true rfl), (Nat.le_of_ble_eq_true rfl)⟩ hcs rfl rfl (Nat.le_of_ble_eq_true rfl) dL_law_880 ?_
    refine ka_aload_n (i := 2) hA dL_law_883 rfl 2 rfl ?_
    refine l_arg h (Nat.le_of_ble_eq_true rfl) ll_884 ?_
    refine l_arg h (Nat.le_of_ble_eq_true rfl) ll_890 ?_
    refine kb_callVi (As := [.int (xs (6 * j + 1)), .int (xs (6 * j + 2))]) (rest := [.int r]) hA (m_M_meets_N l G d rv n (xs (6 * j + 1)) (xs (6 * j + 2)) mm e2) cd_X12_meets wd_1784 (hc_MN_0 G.2.1 d rv mm) rfl rfl ⟨(Nat.le_of_ble_eq_true rfl), (Nat.le_of_ble_eq_true rfl)⟩ hcs rfl rfl (Nat.le_of_ble_eq_true rfl) dL_law_896 ?_
    exact ka_icmp_eq (tgt := 1695) hA dL_law_899 rfl (fun _ => kk _ ⟨a, d, rv, f, y, u, rfl, rfl, Or.inl ⟨h2, rfl⟩⟩) (fun hc => absurd rfl hc)
  · obtain ⟨r, y, u, e1, e2, T2, v2, K2, I2, h2⟩ := s_meets h0 hn (xs (6 * j + 1)) (xs (6 * j + 2))
    refine ka_aload_n (i := 1) hA dL_law_867 rfl 1 rfl ?_
    refine l_arg h (Nat.le_of_ble_eq_true rfl) ll_868 ?_
    refine l_arg h (Nat.le_of_ble_eq_true rfl) ll_874 ?_
    refine ka_callVi (w1 := k_WT G.2.1 d rv mm) (As := [.int (xs (6 * j + 1)), .int (xs (6 * j + 2))]) (rest := []) hA (m_X_meets l G a (.ref (a 10)) n (xs (6 * j + 1)) (xs (6 * j + 2)) x e1) cd_X10_meets wd_940 (hc_X_0 G.2.1 a (.ref (a 10)) x) rfl rfl ⟨(Nat.le_of_ble_eq_true rfl), (Nat.le_of_ble_eq_true rfl)⟩ hcs rfl rfl (Nat.le_of_ble_eq_true rfl) dL_law_880 ?_
    refine ka_aload_n (i := 2) hA dL_law_883 rfl 2 rfl ?_
    refine l_arg h (Nat.le_of_ble_eq_true rfl) ll_884 ?_
    refine l_arg h (Nat.le_of_ble_eq_true rfl) ll_890 ?_
    refine kb_callVi (As := [.int (xs (6 * j + 1)), .int (xs (6 * j + 2))]) (rest := [.int r]) hA (m_M_meets l G d rv n (xs (6 * j + 1)) (xs (6 * j + 2)) mm e2) cd_X12_meets wd_1784 (hc_MT_0 G.2.1 d rv mm) rfl rfl ⟨(Nat.le_of_ble_eq_true rfl), (Nat.le_of_ble_eq_true rfl)⟩ hcs rfl rfl (Nat.le_of_ble_eq_true rfl) dL_law_896 ?_
    exact ka_icmp_eq (tgt := 1695) hA dL_law_899 rfl (fun _ => kk _ ⟨a, d, rv, f, y, u, rfl, rfl, Or.inr ⟨T2, v2, K2, I2, h2, rfl⟩⟩) (fun hc => absurd rfl hc)
theorem lc_mostBehind (h : l_C p s m args meth c G A b L xs j) (hn : big n) (hcs : cells ≤ 601024 ∧ slots ≤ 7293034) (hw : l_W G ax dm oo w) (kk : ∀ w2, l_W G ax dm oo w2 → k_GoA p l e room_1 s m args below meth c Q 7 G A cells slots w2 1695 (l_lv b ax dm oo j) []) : k_GoA p l e room_1 s m args below meth c Q 7 G A cells slots w 904 (l_lv b ax dm oo j) [] := by
  have hA := h.1
  obtain ⟨a, d, rv, f, x, mm, rfl, rfl, hcase⟩ := hw
  rcases hcase with ⟨h0, rfl⟩ | ⟨T, v, K, I, h0, rfl⟩
  · obtain ⟨r, y, u, e1, e2, h2⟩ := z_mostBehind (n := n) h0 (xs (6 * j + 1))
    refine ka_aload_n (i := 1) hA dL_law_904 rfl 1 rfl ?_
    refine l_arg h (Nat.le_of_ble_eq_true rfl) ll_905 ?_
    refine ka_callVi (w1 := k_WN G.2.1 d rv mm) (As := [.int (xs (6 * j + 1))]) (rest := []) hA (m_X_mostBehind l G a (.ref (a 10)) n (xs (6 * j + 1)) x e1) cd_X10_mostBehind wd_948 (hc_X_0 G.2.1 a (.ref (a 10)) x) rfl rfl ⟨(Nat.le_of_ble_eq_true rfl), (Nat.le_of_ble_eq_true rfl)⟩ hcs rfl rfl (Nat.le_of_ble_eq_true rfl) dL_law_911 ?_
    refine ka_aload_n (i := 2) hA dL_law_914 rfl 2 rfl ?_
    refine l_arg h (Nat.le_of_ble_eq_true rfl) ll_915 ?_
    refine kb_callVi (As := [.int (xs (6 * j + 1))]) (rest := [.int r]) hA (m_M_mostBehind_N l G d rv (xs (6 * j + 1)) mm (Option.some.inj e2)) cd_X12_mostBehind wd_1788 (hc_MN_0 G.2.1 d rv mm) rfl rfl ⟨(Nat.le_of_ble_eq_true rfl), (Nat.le_of_ble_eq_true rfl)⟩ hcs rfl rfl (Nat.le_of_ble_eq_true rfl) dL_law_921 ?_
    exact ka_icmp_eq (tgt := 1695) hA dL_law_924 rfl (fun _ => kk _ ⟨a, d, rv, f, y, u, rfl, rfl, Or.inl ⟨h2, rfl⟩⟩) (fun hc => absurd rfl hc)
  · obtain ⟨r, y, u, e1, e2, T2, v2, K2, I2, h2⟩ := s_mostBehind h0 hn (xs (6 * j + 1))
    refine ka_aload_n (i := 1) hA dL_law_904 rfl 1 rfl ?_
    refine l_arg h (Nat.le_of_ble_eq_true rfl) ll_905 ?_
    refine ka_callVi (w1 := k_WT G.2.1 d rv mm) (As := [.int (xs (6 * j + 1))]) (rest := []) hA (m_X_mostBehind l G a (.ref (a 10)) n (xs (6 * j + 1)) x e1) cd_X10_mostBehind wd_948 (hc_X_0 G.2.1 a (.ref (a 10)) x) rfl rfl ⟨(Nat.le_of_ble_eq_true rfl), (Nat.le_of_ble_eq_true rfl)⟩ hcs rfl rfl (Nat.le_of_ble_eq_true rfl) dL_law_911 ?_
    refine ka_aload_n (i := 2) hA dL_law_914 rfl 2 rfl ?_
    refine l_arg h (Nat.le_of_ble_eq_true rfl) ll_915 ?_
    refine kb_callVi (As := [.int (xs (6 * j + 1))]) (rest := [.int r]) hA (m_M_mostBehind l G d rv n (xs (6 * j + 1)) mm e2) cd_X12_mostBehind wd_1788 (hc_MT_0 G.2.1 d rv mm) rfl rfl ⟨(Nat.le_of_ble_eq_true rfl), (Nat.le_of_ble_eq_true rfl)⟩ hcs rfl rfl (Nat.le_of_ble_eq_true rfl) dL_law_921 ?_
    exact ka_icmp_eq (tgt := 1695) hA dL_law_924 rfl (fun _ => kk _ ⟨a, d, rv, f, y, u, rfl, rfl, Or.inr ⟨T2, v2, K2, I2, h2, rfl⟩⟩) (fun hc => absurd rfl hc)
theorem lc_walks (h : l_C p s m args meth c G A b L xs j) (hn : big n) (hcs : cells ≤ 601024 ∧ slots ≤ 7293034) (hw : l_W G ax dm oo w) (kk : ∀ w2, l_W G ax dm oo w2 → k_GoA p l e room_1 s m args below meth c Q 7 G A cells slots w2 1695 (l_lv b ax dm oo j) []) : k_GoA p l e room_1 s m args below meth c Q 7 G A cells slots w 929 (l_lv b ax dm oo j) [] := by
  have hA := h.1
  obtain ⟨a, d, rv, f, x, mm, rfl, rfl, hcase⟩ := hw
  rcases hcase with ⟨h0, rfl⟩ | ⟨T, v, K, I, h0, rfl⟩
  · obtain ⟨r, y, u, e1, e2, h2⟩ := z_walks (n := n) h0
    refine ka_aload_n (i := 1) hA dL_law_929 rfl 1 rfl ?_
    refine ka_callVi (w1 := k_WN G.2.1 d rv mm) (As := []) (rest := []) hA (m_X_walks l G a (.ref (a 10)) x (Option.some.inj e1)) cd_X10_walks wd_961 (hc_X_0 G.2.1 a (.ref (a 10)) x) rfl rfl ⟨(Nat.le_of_ble_eq_true rfl), (Nat.le_of_ble_eq_true rfl)⟩ hcs rfl rfl (Nat.le_of_ble_eq_true rfl) dL_law_930 ?_
    refine ka_aload_n (i := 2) hA dL_law_933 rfl 2 rfl ?_
    refine kb_callVi (As := []) (rest := [.int r]) hA (m_M_walks_N l G d rv n mm e2) cd_X12_walks wd_1792 (hc_MN_0 G.2.1 d rv mm) rfl rfl ⟨(Nat.le_of_ble_eq_true rfl), (Nat.le_of_ble_eq_true rfl)⟩ hcs rfl rfl (Nat.le_of_ble_eq_true rfl) dL_law_934 ?_
    exact ka_icmp_eq (tgt := 1695) hA dL_law_937 rfl (fun _ => kk _ ⟨a, d, rv, f, y, u, rfl, rfl, Or.inl ⟨h2, rfl⟩⟩) (fun hc => absurd rfl hc)
  · obtain ⟨r, y, u, e1, e2, T2, v2, K2, I2, h2⟩ := s_walks h0 hn
    refine ka_aload_n (i := 1) hA dL_law_929 rfl 1 rfl ?_
    refine ka_callVi (w1 := k_WT G.2.1 d rv mm) (As := []) (rest := []) hA (m_X_walks l G a (.ref (a 10)) x (Option.some.inj e1)) cd_X10_walks wd_961 (hc_X_0 G.2.1 a (.ref (a 10)) x) rfl rfl ⟨(Nat.le_of_ble_eq_true rfl), (Nat.le_of_ble_eq_true rfl)⟩ hcs rfl rfl (Nat.le_of_ble_eq_true rfl) dL_law_930 ?_
    refine ka_aload_n (i := 2) hA dL_law_933 rfl 2 rfl ?_
    refine kb_callVi (As := []) (rest := [.int r]) hA (m_M_walks l G d rv n mm e2) cd_X12_walks wd_1792 (hc_MT_0 G.2.1 d rv mm) rfl rfl ⟨(Nat.le_of_ble_eq_true rfl), (Nat.le_of_ble_eq_true rfl)⟩ hcs rfl rfl (Nat.le_of_ble_eq_true rfl) dL_law_934 ?_
    exact ka_icmp_eq (tgt := 1695) hA dL_law_937 rfl (fun _ => kk _ ⟨a, d, rv, f, y, u, rfl, rfl, Or.inr ⟨T2, v2, K2, I2, h2, rfl⟩⟩) (fun hc => absurd rfl hc)
theorem lc_visit (h : l_C p s m args meth c G A b L xs j) (hn : big n) (hcs : cells ≤ 601024 ∧ slots ≤ 7293034) (hw : l_W G ax dm oo w) (kk : ∀ w2, l_W G ax dm oo w2 → k_GoA p l e room_1 s m args below meth c Q 7 G A cells slots w2 1695 (l_lv b ax dm oo j) []) : k_GoA p l e room_1 s m args below meth c Q 7 G A cells slots w 942 (l_lv b ax dm oo j) [] := by
  have hA := h.1
  obtain ⟨a, d, rv, f, x, mm, rfl, rfl, hcase⟩ := hw
  rcases hcase with ⟨h0, rfl⟩ | ⟨T, v, K, I, h0, rfl⟩
  · obtain ⟨r, y, u, e1, e2, h2⟩ := z_visit (n := n) h0 (xs (6 * j + 1))
    refine ka_aload_n (i := 1) hA dL_law_942 rfl 1 rfl ?_
    refine l_arg h (Nat.le_of_ble_eq_true rfl) ll_943 ?_
    refine ka_callVi (w1 := k_WN G.2.1 d rv mm) (As := [.int (xs (6 * j + 1))]) (rest := []) hA (m_X_visit l G a (.ref (a 10)) (xs (6 * j + 1)) x e1) cd_X10_visit wd_965 (hc_X_0 G.2.1 a (.ref (a 10)) x) rfl rfl ⟨(Nat.le_of_ble_eq_true rfl), (Nat.le_of_ble_eq_true rfl)⟩ hcs rfl rfl (Nat.le_of_ble_eq_true rfl) dL_law_949 ?_
    refine ka_aload_n (i := 2) hA dL_law_952 rfl 2 rfl ?_
    refine l_arg h (Nat.le_of_ble_eq_true rfl) ll_953 ?_
    refine kb_callVi (As := [.int (xs (6 * j + 1))]) (rest := [.int r]) hA (m_M_visit_N l G d rv n (xs (6 * j + 1)) mm e2) cd_X12_visit wd_1816 (hc_MN_0 G.2.1 d rv mm) rfl rfl ⟨(Nat.le_of_ble_eq_true rfl), (Nat.le_of_ble_eq_true rfl)⟩ hcs rfl rfl (Nat.le_of_ble_eq_true rfl) dL_law_959 ?_
    exact ka_icmp_eq (tgt := 1695) hA dL_law_962 rfl (fun _ => kk _ ⟨a, d, rv, f, y, u, rfl, rfl, Or.inl ⟨h2, rfl⟩⟩) (fun hc => absurd rfl hc)
  · obtain ⟨r, y, u, e1, e2, T2, v2, K2, I2, h2⟩ := s_visit h0 hn (xs (6 * j + 1))
    refine ka_aload_n (i := 1) hA dL_law_942 rfl 1 rfl ?_
    refine l_arg h (Nat.le_of_ble_eq_true rfl) ll_943 ?_
    refine ka_callVi (w1 := k_WT G.2.1 d rv mm) (As := [.int (xs (6 * j + 1))]) (rest := []) hA (m_X_visit l G a (.ref (a 10)) (xs (6 * j + 1)) x e1) cd_X10_visit wd_965 (hc_X_0 G.2.1 a (.ref (a 10)) x) rfl rfl ⟨(Nat.le_of_ble_eq_true rfl), (Nat.le_of_ble_eq_true rfl)⟩ hcs rfl rfl (Nat.le_of_ble_eq_true rfl) dL_law_949 ?_
    refine ka_aload_n (i := 2) hA dL_law_952 rfl 2 rfl ?_
    refine l_arg h (Nat.le_of_ble_eq_true rfl) ll_953 ?_
    refine kb_callVi (As := [.int (xs (6 * j + 1))]) (rest := [.int r]) hA (m_M_visit l G d rv n (xs (6 * j + 1)) mm e2) cd_X12_visit wd_1816 (hc_MT_0 G.2.1 d rv mm) rfl rfl ⟨(Nat.le_of_ble_eq_true rfl), (Nat.le_of_ble_eq_true rfl)⟩ hcs rfl rfl (Nat.le_of_ble_eq_true rfl) dL_law_959 ?_
    exact ka_icmp_eq (tgt := 1695) hA dL_law_962 rfl (fun _ => kk _ ⟨a, d, rv, f, y, u, rfl, rfl, Or.inr ⟨T2, v2, K2, I2, h2, rfl⟩⟩) (fun hc => absurd rfl hc)
theorem lc_hourOf (h : l_C p s m args meth c G A b L xs j) (hn : big n) (hcs : cells ≤ 601024 ∧ slots ≤ 7293034) (hw : l_W G ax dm oo w) (kk : ∀ w2, l_W G ax dm oo w2 → k_GoA p l e room_1 s m args below meth c Q 7 G A cells slots w2 1695 (l_lv b ax dm oo j) []) : k_GoA p l e room_1 s m args below meth c Q 7 G A cells slots w 967 (l_lv b ax dm oo j) [] := by
  have hA := h.1
  obtain ⟨a, d, rv, f, x, mm, rfl, rfl, hcase⟩ := hw
  rcases hcase with ⟨h0, rfl⟩ | ⟨T, v, K, I, h0, rfl⟩
  · obtain ⟨r, y, u, e1, e2, h2⟩ := z_hourOf (n := n) h0 (xs (6 * j + 1))
    refine ka_aload_n (i := 1) hA dL_law_967 rfl 1 rfl ?_
    refine l_arg h (Nat.le_of_ble_eq_true rfl) ll_968 ?_
    refine ka_callVi (w1 := k_WN G.2.1 d rv mm) (As := [.int (xs (6 * j + 1))]) (rest := []) hA (m_X_hourOf l G a (.ref (a 10)) (xs (6 * j + 1)) x e1) cd_X10_hourOf wd_969 (hc_X_0 G.2.1 a (.ref (a 10)) x) rfl rfl ⟨(Nat.le_of_ble_eq_true rfl), (Nat.le_of_ble_eq_true rfl)⟩ hcs rfl rfl (Nat.le_of_ble_eq_true rfl) dL_law_974 ?_
    refine ka_aload_n (i := 2) hA dL_law_977 rfl 2 rfl ?_
    refine l_arg h (Nat.le_of_ble_eq_true rfl) ll_978 ?_
    refine kb_callVi (As := [.int (xs (6 * j + 1))]) (rest := [.int r]) hA (m_M_hourOf_N l G d rv n (xs (6 * j + 1)) mm e2) cd_X12_hourOf wd_1820 (hc_MN_0 G.2.1 d rv mm) rfl rfl ⟨(Nat.le_of_ble_eq_true rfl), (Nat.le_of_ble_eq_true rfl)⟩ hcs rfl rfl (Nat.le_of_ble_eq_true rfl) dL_law_984 ?_
    exact ka_icmp_eq (tgt := 1695) hA dL_law_987 rfl (fun _ => kk _ ⟨a, d, rv, f, y, u, rfl, rfl, Or.inl ⟨h2, rfl⟩⟩) (fun hc => absurd rfl hc)
  · obtain ⟨r, y, u, e1, e2, T2, v2, K2, I2, h2⟩ := s_hourOf h0 hn (xs (6 * j + 1))
    refine ka_aload_n (i := 1) hA dL_law_967 rfl 1 rfl ?_
    refine l_arg h (Nat.le_of_ble_eq_true rfl) ll_968 ?_
    refine ka_callVi (w1 := k_WT G.2.1 d rv mm) (As := [.int (xs (6 * j + 1))]) (rest := []) hA (m_X_hourOf l G a (.ref (a 10)) (xs (6 * j + 1)) x e1) cd_X10_hourOf wd_969 (hc_X_0 G.2.1 a (.ref (a 10)) x) rfl rfl ⟨(Nat.le_of_ble_eq_true rfl), (Nat.le_of_ble_eq_true rfl)⟩ hcs rfl rfl (Nat.le_of_ble_eq_true rfl) dL_law_974 ?_
    refine ka_aload_n (i := 2) hA dL_law_977 rfl 2 rfl ?_
    refine l_arg h (Nat.le_of_ble_eq_true rfl) ll_978 ?_
    refine kb_callVi (As := [.int (xs (6 * j + 1))]) (rest := [.int r]) hA (m_M_hourOf l G d rv n (xs (6 * j + 1)) mm e2) cd_X12_hourOf wd_1820 (hc_MT_0 G.2.1 d rv mm) rfl rfl ⟨(Nat.le_of_ble_eq_true rfl), (Nat.le_of_ble_eq_true rfl)⟩ hcs rfl rfl (Nat.le_of_ble_eq_true rfl) dL_law_984 ?_
    exact ka_icmp_eq (tgt := 1695) hA dL_law_987 rfl (fun _ => kk _ ⟨a, d, rv, f, y, u, rfl, rfl, Or.inr ⟨T2, v2, K2, I2, h2, rfl⟩⟩) (fun hc => absurd rfl hc)
theorem lc_orders (h : l_C p s m args meth c G A b L xs j) (hn : big n) (hcs : cells ≤ 601024 ∧ slots ≤ 7293034) (hw : l_W G ax dm oo w) (kk : ∀ w2, l_W G ax dm oo w2 → k_GoA p l e room_1 s m args below meth c Q 7 G A cells slots w2 1695 (l_lv b ax dm oo j) []) : k_GoA p l e room_1 s m args below meth c Q 7 G A cells slots w 992 (l_lv b ax dm oo j) [] := by
  have hA := h.1
  obtain ⟨a, d, rv, f, x, mm, rfl, rfl, hcase⟩ := hw
  rcases hcase with ⟨h0, rfl⟩ | ⟨T, v, K, I, h0, rfl⟩
  · obtain ⟨r, y, u, e1, e2, h2⟩ := z_orders (n := n) h0
    refine ka_aload_n (i := 1) hA dL_law_992 rfl 1 rfl ?_
    refine ka_callVi (w1 := k_WN G.2.1 d rv mm) (As := []) (rest := []) hA (m_X_orders l G a (.ref (a 10)) x (Option.some.inj e1)) cd_X10_orders wd_973 (hc_X_0 G.2.1 a (.ref (a 10)) x) rfl rfl ⟨(Nat.le_of_ble_eq_true rfl), (Nat.le_of_ble_eq_true rfl)⟩ hcs rfl rfl (Nat.le_of_ble_eq_true rfl) dL_law_993 ?_
    refine ka_aload_n (i := 2) hA dL_law_996 rfl 2 rfl ?_
    refine kb_callVi (As := []) (rest := [.int r]) hA (m_M_orders_N l G d rv n mm e2) cd_X12_orders wd_1824 (hc_MN_0 G.2.1 d rv mm) rfl rfl ⟨(Nat.le_of_ble_eq_true rfl), (Nat.le_of_ble_eq_true rfl)⟩ hcs rfl rfl (Nat.le_of_ble_eq_true rfl) dL_law_997 ?_
    exact ka_icmp_eq (tgt := 1695) hA dL_law_1000 rfl (fun _ => kk _ ⟨a, d, rv, f, y, u, rfl, rfl, Or.inl ⟨h2, rfl⟩⟩) (fun hc => absurd rfl hc)
  · obtain ⟨r, y, u, e1, e2, T2, v2, K2, I2, h2⟩ := s_orders h0 hn
    refine ka_aload_n (i := 1) hA dL_law_992 rfl 1 rfl ?_
    refine ka_callVi (w1 := k_WT G.2.1 d rv mm) (As := []) (rest := []) hA (m_X_orders l G a (.ref (a 10)) x (Option.some.inj e1)) cd_X10_orders wd_973 (hc_X_0 G.2.1 a (.ref (a 10)) x) rfl rfl ⟨(Nat.le_of_ble_eq_true rfl), (Nat.le_of_ble_eq_true rfl)⟩ hcs rfl rfl (Nat.le_of_ble_eq_true rfl) dL_law_993 ?_
    refine ka_aload_n (i := 2) hA dL_law_996 rfl 2 rfl ?_
    refine kb_callVi (As := []) (rest := [.int r]) hA (m_M_orders l G d rv n mm e2) cd_X12_orders wd_1824 (hc_MT_0 G.2.1 d rv mm) rfl rfl ⟨(Nat.le_of_ble_eq_true rfl), (Nat.le_of_ble_eq_true rfl)⟩ hcs rfl rfl (Nat.le_of_ble_eq_true rfl) dL_law_997 ?_
    exact ka_icmp_eq (tgt := 1695) hA dL_law_1000 rfl (fun _ => kk _ ⟨a, d, rv, f, y, u, rfl, rfl, Or.inr ⟨T2, v2, K2, I2, h2, rfl⟩⟩) (fun hc => absurd rfl hc)
theorem lc_slips (h : l_C p s m args meth c G A b L xs j) (hn : big n) (hcs : cells ≤ 601024 ∧ slots ≤ 7293034) (hw : l_W G ax dm oo w) (kk : ∀ w2, l_W G ax dm oo w2 → k_GoA p l e room_1 s m args below meth c Q 7 G A cells slots w2 1695 (l_lv b ax dm oo j) []) : k_GoA p l e room_1 s m args below meth c Q 7 G A cells slots w 1005 (l_lv b ax dm oo j) [] := by
  have hA := h.1
  obtain ⟨a, d, rv, f, x, mm, rfl, rfl, hcase⟩ := hw
  rcases hcase with ⟨h0, rfl⟩ | ⟨T, v, K, I, h0, rfl⟩
  · obtain ⟨r, y, u, e1, e2, h2⟩ := z_slips h0
    refine ka_aload_n (i := 1) hA dL_law_1005 rfl 1 rfl ?_
    refine ka_callVi (w1 := k_WN G.2.1 d rv mm) (As := []) (rest := []) hA (m_X_slips l G a (.ref (a 10)) x (Option.some.inj e1)) cd_X10_slips wd_977 (hc_X_0 G.2.1 a (.ref (a 10)) x) rfl rfl ⟨(Nat.le_of_ble_eq_true rfl), (Nat.le_of_ble_eq_true rfl)⟩ hcs rfl rfl (Nat.le_of_ble_eq_true rfl) dL_law_1006 ?_
    refine ka_aload_n (i := 2) hA dL_law_1009 rfl 2 rfl ?_
    refine kb_callVi (As := []) (rest := [.int r]) hA (m_M_slips_N l G d rv mm e2) cd_X12_slips wd_1828 (hc_MN_0 G.2.1 d rv mm) rfl rfl ⟨(Nat.le_of_ble_eq_true rfl), (Nat.le_of_ble_eq_true rfl)⟩ hcs rfl rfl (Nat.le_of_ble_eq_true rfl) dL_law_1010 ?_
    exact ka_icmp_eq (tgt := 1695) hA dL_law_1013 rfl (fun _ => kk _ ⟨a, d, rv, f, y, u, rfl, rfl, Or.inl ⟨h2, rfl⟩⟩) (fun hc => absurd rfl hc)
  · obtain ⟨r, y, u, e1, e2, T2, v2, K2, I2, h2⟩ := s_slips h0 hn
    refine ka_aload_n (i := 1) hA dL_law_1005 rfl 1 rfl ?_
    refine ka_callVi (w1 := k_WT G.2.1 d rv mm) (As := []) (rest := []) hA (m_X_slips l G a (.ref (a 10)) x (Option.some.inj e1)) cd_X10_slips wd_977 (hc_X_0 G.2.1 a (.ref (a 10)) x) rfl rfl ⟨(Nat.le_of_ble_eq_true rfl), (Nat.le_of_ble_eq_true rfl)⟩ hcs rfl rfl (Nat.le_of_ble_eq_true rfl) dL_law_1006 ?_
    refine ka_aload_n (i := 2) hA dL_law_1009 rfl 2 rfl ?_
    refine kb_callVi (As := []) (rest := [.int r]) hA (m_M_slips l G d rv n mm e2) cd_X12_slips wd_1828 (hc_MT_0 G.2.1 d rv mm) rfl rfl ⟨(Nat.le_of_ble_eq_true rfl), (Nat.le_of_ble_eq_true rfl)⟩ hcs rfl rfl (Nat.le_of_ble_eq_true rfl) dL_law_1010 ?_
    exact ka_icmp_eq (tgt := 1695) hA dL_law_1013 rfl (fun _ => kk _ ⟨a, d, rv, f, y, u, rfl, rfl, Or.inr ⟨T2, v2, K2, I2, h2, rfl⟩⟩) (fun hc => absurd rfl hc)
theorem lc_meant (h : l_C p s m args meth c G A b L xs j) (hn : big n) (hcs : cells ≤ 601024 ∧ slots ≤ 7293034) (hw : l_W G ax dm oo w) (kk : ∀ w2, l_W G ax dm oo w2 → k_GoA p l e room_1 s m args below meth c Q 7 G A cells slots w2 1695 (l_lv b ax dm oo j) []) : k_GoA p l e room_1 s m args below meth c Q 7 G A cells slots w 1018 (l_lv b ax dm oo j) [] := by
  have hA := h.1
  obtain ⟨a, d, rv, f, x, mm, rfl, rfl, hcase⟩ := hw
  rcases hcase with ⟨h0, rfl⟩ | ⟨T, v, K, I, h0, rfl⟩
  · obtain ⟨r, y, u, e1, e2, h2⟩ := z_meant (n := n) h0 (xs (6 * j + 1))
    refine ka_aload_n (i := 1) hA dL_law_1018 rfl 1 rfl ?_
    refine l_arg h (Nat.le_of_ble_eq_true rfl) ll_1019 ?_
    refine ka_callVi (w1 := k_WN G.2.1 d rv mm) (As := [.int (xs (6 * j + 1))]) (rest := []) hA (m_X_meant l G a (.ref (a 10)) n (xs (6 * j + 1)) x e1) cd_X10_meant wd_989 (hc_X_0 G.2.1 a (.ref (a 10)) x) rfl rfl ⟨(Nat.le_of_ble_eq_true rfl), (Nat.le_of_ble_eq_true rfl)⟩ hcs rfl rfl (Nat.le_of_ble_eq_true rfl) dL_law_1025 ?_
    refine ka_aload_n (i := 2) hA dL_law_1028 rfl 2 rfl ?_
    refine l_arg h (Nat.le_of_ble_eq_true rfl) ll_1029 ?_
    refine kb_callVi (As := [.int (xs (6 * j + 1))]) (rest := [.int r]) hA (m_M_meant_N l G d rv (xs (6 * j + 1)) mm e2) cd_X12_meant wd_1850 (hc_MN_0 G.2.1 d rv mm) rfl rfl ⟨(Nat.le_of_ble_eq_true rfl), (Nat.le_of_ble_eq_true rfl)⟩ hcs rfl rfl (Nat.le_of_ble_eq_true rfl) dL_law_1035 ?_
    exact ka_icmp_eq (tgt := 1695) hA dL_law_1038 rfl (fun _ => kk _ ⟨a, d, rv, f, y, u, rfl, rfl, Or.inl ⟨h2, rfl⟩⟩) (fun hc => absurd rfl hc)
  · obtain ⟨r, y, u, e1, e2, T2, v2, K2, I2, h2⟩ := s_meant h0 hn (xs (6 * j + 1))
    refine ka_aload_n (i := 1) hA dL_law_1018 rfl 1 rfl ?_
    refine l_arg h (Nat.le_of_ble_eq_true rfl) ll_1019 ?_
    refine ka_callVi (w1 := k_WT G.2.1 d rv mm) (As := [.int (xs (6 * j + 1))]) (rest := []) hA (m_X_meant l G a (.ref (a 10)) n (xs (6 * j + 1)) x e1) cd_X10_meant wd_989 (hc_X_0 G.2.1 a (.ref (a 10)) x) rfl rfl ⟨(Nat.le_of_ble_eq_true rfl), (Nat.le_of_ble_eq_true rfl)⟩ hcs rfl rfl (Nat.le_of_ble_eq_true rfl) dL_law_1025 ?_
    refine ka_aload_n (i := 2) hA dL_law_1028 rfl 2 rfl ?_
    refine l_arg h (Nat.le_of_ble_eq_true rfl) ll_1029 ?_
    refine kb_callVi (As := [.int (xs (6 * j + 1))]) (rest := [.int r]) hA (m_M_meant l G d rv n (xs (6 * j + 1)) mm e2) cd_X12_meant wd_1850 (hc_MT_0 G.2.1 d rv mm) rfl rfl ⟨(Nat.le_of_ble_eq_true rfl), (Nat.le_of_ble_eq_true rfl)⟩ hcs rfl rfl (Nat.le_of_ble_eq_true rfl) dL_law_1035 ?_
    exact ka_icmp_eq (tgt := 1695) hA dL_law_1038 rfl (fun _ => kk _ ⟨a, d, rv, f, y, u, rfl, rfl, Or.inr ⟨T2, v2, K2, I2, h2, rfl⟩⟩) (fun hc => absurd rfl hc)
theorem lc_meanings (h : l_C p s m args meth c G A b L xs j) (hn : big n) (hcs : cells ≤ 601024 ∧ slots ≤ 7293034) (hw : l_W G ax dm oo w) (kk : ∀ w2, l_W G ax dm oo w2 → k_GoA p l e room_1 s m args below meth c Q 7 G A cells slots w2 1695 (l_lv b ax dm oo j) []) : k_GoA p l e room_1 s m args below meth c Q 7 G A cells slots w 1043 (l_lv b ax dm oo j) [] := by
  have hA := h.1
  obtain ⟨a, d, rv, f, x, mm, rfl, rfl, hcase⟩ := hw
  rcases hcase with ⟨h0, rfl⟩ | ⟨T, v, K, I, h0, rfl⟩
  · obtain ⟨r, y, u, e1, e2, h2⟩ := z_meanings h0
    refine ka_aload_n (i := 1) hA dL_law_1043 rfl 1 rfl ?_
    refine ka_callVi (w1 := k_WN G.2.1 d rv mm) (As := []) (rest := []) hA (m_X_meanings l G a (.ref (a 10)) x (Option.some.inj e1)) cd_X10_meanings wd_993 (hc_X_0 G.2.1 a (.ref (a 10)) x) rfl rfl ⟨(Nat.le_of_ble_eq_true rfl), (Nat.le_of_ble_eq_true rfl)⟩ hcs rfl rfl (Nat.le_of_ble_eq_true rfl) dL_law_1044 ?_
    refine ka_aload_n (i := 2) hA dL_law_1047 rfl 2 rfl ?_
    refine kb_callVi (As := []) (rest := [.int r]) hA (m_M_meanings_N l G d rv mm e2) cd_X12_meanings wd_1854 (hc_MN_0 G.2.1 d rv mm) rfl rfl ⟨(Nat.le_of_ble_eq_true rfl), (Nat.le_of_ble_eq_true rfl)⟩ hcs rfl rfl (Nat.le_of_ble_eq_true rfl) dL_law_1048 ?_
    exact ka_icmp_eq (tgt := 1695) hA dL_law_1051 rfl (fun _ => kk _ ⟨a, d, rv, f, y, u, rfl, rfl, Or.inl ⟨h2, rfl⟩⟩) (fun hc => absurd rfl hc)
  · obtain ⟨r, y, u, e1, e2, T2, v2, K2, I2, h2⟩ := s_meanings h0 hn
    refine ka_aload_n (i := 1) hA dL_law_1043 rfl 1 rfl ?_
    refine ka_callVi (w1 := k_WT G.2.1 d rv mm) (As := []) (rest := []) hA (m_X_meanings l G a (.ref (a 10)) x (Option.some.inj e1)) cd_X10_meanings wd_993 (hc_X_0 G.2.1 a (.ref (a 10)) x) rfl rfl ⟨(Nat.le_of_ble_eq_true rfl), (Nat.le_of_ble_eq_true rfl)⟩ hcs rfl rfl (Nat.le_of_ble_eq_true rfl) dL_law_1044 ?_
    refine ka_aload_n (i := 2) hA dL_law_1047 rfl 2 rfl ?_
    refine kb_callVi (As := []) (rest := [.int r]) hA (m_M_meanings l G d rv n mm e2) cd_X12_meanings wd_1854 (hc_MT_0 G.2.1 d rv mm) rfl rfl ⟨(Nat.le_of_ble_eq_true rfl), (Nat.le_of_ble_eq_true rfl)⟩ hcs rfl rfl (Nat.le_of_ble_eq_true rfl) dL_law_1048 ?_
    exact ka_icmp_eq (tgt := 1695) hA dL_law_1051 rfl (fun _ => kk _ ⟨a, d, rv, f, y, u, rfl, rfl, Or.inr ⟨T2, v2, K2, I2, h2, rfl⟩⟩) (fun hc => absurd rfl hc)
theorem lc_father (h : l_C p s m args meth c G A b L xs j) (hn : big n) (hcs : cells ≤ 601024 ∧ slots ≤ 7293034) (hw : l_W G ax dm oo w) (kk : ∀ w2, l_W G ax dm oo w2 → k_GoA p l e room_1 s m args below meth c Q 7 G A cells slots w2 1695 (l_lv b ax dm oo j) []) : k_GoA p l e room_1 s m args below meth c Q 7 G A cells slots w 1056 (l_lv b ax dm oo j) [] := by
  have hA := h.1
  obtain ⟨a, d, rv, f, x, mm, rfl, rfl, hcase⟩ := hw
  rcases hcase with ⟨h0, rfl⟩ | ⟨T, v, K, I, h0, rfl⟩
  · obtain ⟨r, y, u, e1, e2, h2⟩ := z_father h0 (xs (6 * j + 1)) (xs (6 * j + 2)) (xs (6 * j + 3)) (l_z (xs (6 * j + 4)))
    refine ka_aload_n (i := 1) hA dL_law_1056 rfl 1 rfl ?_
    refine l_arg h (Nat.le_of_ble_eq_true rfl) ll_1057 ?_
    refine l_arg h (Nat.le_of_ble_eq_true rfl) ll_1063 ?_
    refine l_arg h (Nat.le_of_ble_eq_true rfl) ll_1069 ?_
    refine l_argZ h (Nat.le_of_ble_eq_true rfl) ll_1075 ?_
    refine ka_callVi (w1 := k_WN G.2.1 d rv mm) (As := [.int (xs (6 * j + 1)), .int (xs (6 * j + 2)), .int (xs (6 * j + 3)), .int (l_z (xs (6 * j + 4)))]) (rest := []) hA (m_X_father l G a (.ref (a 10)) (xs (6 * j + 1)) (xs (6 * j + 2)) (xs (6 * j + 3)) (l_z (xs (6 * j + 4))) x (Option.some.inj e1)) cd_X10_father wd_997 (hc_X_0 G.2.1 a (.ref (a 10)) x) rfl rfl ⟨(Nat.le_of_ble_eq_true rfl), (Nat.le_of_ble_eq_true rfl)⟩ hcs rfl rfl (Nat.le_of_ble_eq_true rfl) dL_law_1089 ?_
    refine ka_aload_n (i := 2) hA dL_law_1092 rfl 2 rfl ?_
    refine l_arg h (Nat.le_of_ble_eq_true rfl) ll_1093 ?_
    refine l_arg h (Nat.le_of_ble_eq_true rfl) ll_1099 ?_
    refine l_arg h (Nat.le_of_ble_eq_true rfl) ll_1105 ?_
    refine l_argZ h (Nat.le_of_ble_eq_true rfl) ll_1111 ?_
    refine kb_callVi (As := [.int (xs (6 * j + 1)), .int (xs (6 * j + 2)), .int (xs (6 * j + 3)), .int (l_z (xs (6 * j + 4)))]) (rest := [.int r]) hA (m_M_father_N l G d rv (xs (6 * j + 1)) (xs (6 * j + 2)) (xs (6 * j + 3)) (l_z (xs (6 * j + 4))) mm (Option.some.inj e2)) cd_X12_father wd_1858 (hc_MN_0 G.2.1 d rv mm) rfl rfl ⟨(Nat.le_of_ble_eq_true rfl), (Nat.le_of_ble_eq_true rfl)⟩ hcs rfl rfl (Nat.le_of_ble_eq_true rfl) dL_law_1125 ?_
    exact ka_icmp_eq (tgt := 1695) hA dL_law_1128 rfl (fun _ => kk _ ⟨a, d, rv, f, y, u, rfl, rfl, Or.inl ⟨h2, rfl⟩⟩) (fun hc => absurd rfl hc)
  · obtain ⟨r, y, u, e1, e2, T2, v2, K2, I2, h2⟩ := s_father h0 hn (xs (6 * j + 1)) (xs (6 * j + 2)) (xs (6 * j + 3)) (l_z (xs (6 * j + 4)))
    refine ka_aload_n (i := 1) hA dL_law_1056 rfl 1 rfl ?_
    refine l_arg h (Nat.le_of_ble_eq_true rfl) ll_1057 ?_
    refine l_arg h (Nat.le_of_ble_eq_true rfl) ll_1063 ?_
    refine l_arg h (Nat.le_of_ble_eq_true rfl) ll_1069 ?_
    refine l_argZ h (Nat.le_of_ble_eq_true rfl) ll_1075 ?_
    refine ka_callVi (w1 := k_WT G.2.1 d rv mm) (As := [.int (xs (6 * j + 1)), .int (xs (6 * j + 2)), .int (xs (6 * j + 3)), .int (l_z (xs (6 * j + 4)))]) (rest := []) hA (m_X_father l G a (.ref (a 10)) (xs (6 * j + 1)) (xs (6 * j + 2)) (xs (6 * j + 3)) (l_z (xs (6 * j + 4))) x (Option.some.inj e1)) cd_X10_father wd_997 (hc_X_0 G.2.1 a (.ref (a 10)) x) rfl rfl ⟨(Nat.le_of_ble_eq_true rfl), (Nat.le_of_ble_eq_true rfl)⟩ hcs rfl rfl (Nat.le_of_ble_eq_true rfl) dL_law_1089 ?_
    refine ka_aload_n (i := 2) hA dL_law_1092 rfl 2 rfl ?_
    refine l_arg h (Nat.le_of_ble_eq_true rfl) ll_1093 ?_
    refine l_arg h (Nat.le_of_ble_eq_true rfl) ll_1099 ?_
    refine l_arg h (Nat.le_of_ble_eq_true rfl) ll_1105 ?_
    refine l_argZ h (Nat.le_of_ble_eq_true rfl) ll_1111 ?_
    refine kb_callVi (As := [.int (xs (6 * j + 1)), .int (xs (6 * j + 2)), .int (xs (6 * j + 3)), .int (l_z (xs (6 * j + 4)))]) (rest := [.int r]) hA (m_M_father l G d rv (xs (6 * j + 1)) (xs (6 * j + 2)) (xs (6 * j + 3)) (l_z (xs (6 * j + 4))) mm (Option.some.inj e2)) cd_X12_father wd_1858 (hc_MT_0 G.2.1 d rv mm) rfl rfl ⟨(Nat.le_of_ble_eq_true rfl), (Nat.le_of_ble_eq_true rfl)⟩ hcs rfl rfl (Nat.le_of_ble_eq_true rfl) dL_law_1125 ?_
    exact ka_icmp_eq (tgt := 1695) hA dL_law_1128 rfl (fun _ => kk _ ⟨a, d, rv, f, y, u, rfl, rfl, Or.inr ⟨T2, v2, K2, I2, h2, rfl⟩⟩) (fun hc => absurd rfl hc)
end LCS
