/-! ===== the law: calls 33 to 49 ===== -/
section LCS
variable {cells slots : Nat} {p : Program} {l : Launch} {e : Env} {s : State} {m : MethodId} {args : Array Value} {below : List Frame} {meth : Method} {c : Code} {Q : State → Prop} {G : k_G} {A : Nat → Prop} {w : va_W} {b L j ax dm oo n : Nat} {xs : Nat → Int32}
theorem lc_rests (h : l_C p s m args meth c G A b L xs j) (hn : big n) (hcs : cells ≤ 601024 ∧ slots ≤ 7293034) (hw : l_W G ax dm oo w) (kk : ∀ w2, l_W G ax dm oo w2 → k_GoA p l e room_1 s m args below meth c Q 7 G A cells slots w2 1695 (l_lv b ax dm oo j) []) : k_GoA p l e room_1 s m args below meth c Q 7 G A cells slots w 1133 (l_lv b ax dm oo j) [] := by
  have hA := h.1
  obtain ⟨a, d, rv, f, x, mm, rfl, rfl, hcase⟩ := hw
  rcases hcase with ⟨h0, rfl⟩ | ⟨T, v, K, I, h0, rfl⟩
  · obtain ⟨r, y, u, e1, e2, h2⟩ := z_rests (n := n) h0 (xs (6 * j + 1))
    refine ka_aload_n (i := 1) hA dL_law_1133 rfl 1 rfl ?_
    refine l_arg h (Nat.le_of_ble_eq_true rfl) ll_1134 ?_
    refine ka_callVi (w1 := k_WN G.2.1 d rv mm) (As := [.int (xs (6 * j + 1))]) (rest := []) hA (m_X_rests l G a (.ref (a 10)) n (xs (6 * j + 1)) x e1) cd_X10_rests wd_1011 (hc_X_0 G.2.1 a (.ref (a 10)) x) rfl rfl ⟨(Nat.le_of_ble_eq_true rfl), (Nat.le_of_ble_eq_true rfl)⟩ hcs rfl rfl (Nat.le_of_ble_eq_true rfl) dL_law_1140 ?_
    refine ka_aload_n (i := 2) hA dL_law_1143 rfl 2 rfl ?_
    refine l_arg h (Nat.le_of_ble_eq_true rfl) ll_1144 ?_
    refine kb_callVi (As := [.int (xs (6 * j + 1))]) (rest := [.int r]) hA (m_M_rests_N l G d rv n (xs (6 * j + 1)) mm e2) cd_X12_rests wd_1873 (hc_MN_0 G.2.1 d rv mm) rfl rfl ⟨(Nat.le_of_ble_eq_true rfl), (Nat.le_of_ble_eq_true rfl)⟩ hcs rfl rfl (Nat.le_of_ble_eq_true rfl) dL_law_1150 ?_
    exact ka_icmp_eq (tgt := 1695) hA dL_law_1153 rfl (fun _ => kk _ ⟨a, d, rv, f, y, u, rfl, rfl, Or.inl ⟨h2, rfl⟩⟩) (fun hc => absurd rfl hc)
  · obtain ⟨r, y, u, e1, e2, T2, v2, K2, I2, h2⟩ := s_rests h0 hn (xs (6 * j + 1))
    refine ka_aload_n (i := 1) hA dL_law_1133 rfl 1 rfl ?_
    refine l_arg h (Nat.le_of_ble_eq_true rfl) ll_1134 ?_
    refine ka_callVi (w1 := k_WT G.2.1 d rv mm) (As := [.int (xs (6 * j + 1))]) (rest := []) hA (m_X_rests l G a (.ref (a 10)) n (xs (6 * j + 1)) x e1) cd_X10_rests wd_1011 (hc_X_0 G.2.1 a (.ref (a 10)) x) rfl rfl ⟨(Nat.le_of_ble_eq_true rfl), (Nat.le_of_ble_eq_true rfl)⟩ hcs rfl rfl (Nat.le_of_ble_eq_true rfl) dL_law_1140 ?_
    refine ka_aload_n (i := 2) hA dL_law_1143 rfl 2 rfl ?_
    refine l_arg h (Nat.le_of_ble_eq_true rfl) ll_1144 ?_
    refine kb_callVi (As := [.int (xs (6 * j + 1))]) (rest := [.int r]) hA (m_M_rests l G d rv n (xs (6 * j + 1)) mm e2) cd_X12_rests wd_1873 (hc_MT_0 G.2.1 d rv mm) rfl rfl ⟨(Nat.le_of_ble_eq_true rfl), (Nat.le_of_ble_eq_true rfl)⟩ hcs rfl rfl (Nat.le_of_ble_eq_true rfl) dL_law_1150 ?_
    exact ka_icmp_eq (tgt := 1695) hA dL_law_1153 rfl (fun _ => kk _ ⟨a, d, rv, f, y, u, rfl, rfl, Or.inr ⟨T2, v2, K2, I2, h2, rfl⟩⟩) (fun hc => absurd rfl hc)
theorem lc_rest (h : l_C p s m args meth c G A b L xs j) (hn : big n) (hcs : cells ≤ 601024 ∧ slots ≤ 7293034) (hw : l_W G ax dm oo w) (kk : ∀ w2, l_W G ax dm oo w2 → k_GoA p l e room_1 s m args below meth c Q 7 G A cells slots w2 1695 (l_lv b ax dm oo j) []) : k_GoA p l e room_1 s m args below meth c Q 7 G A cells slots w 1158 (l_lv b ax dm oo j) [] := by
  have hA := h.1
  obtain ⟨a, d, rv, f, x, mm, rfl, rfl, hcase⟩ := hw
  rcases hcase with ⟨h0, rfl⟩ | ⟨T, v, K, I, h0, rfl⟩
  · obtain ⟨r, y, u, e1, e2, h2⟩ := z_rest (n := n) h0 (xs (6 * j + 1))
    refine ka_aload_n (i := 1) hA dL_law_1158 rfl 1 rfl ?_
    refine l_arg h (Nat.le_of_ble_eq_true rfl) ll_1159 ?_
    refine ka_callVi (w1 := k_WN G.2.1 d rv mm) (As := [.int (xs (6 * j + 1))]) (rest := []) hA (m_X_rest l G a (.ref (a 10)) n (xs (6 * j + 1)) x e1) cd_X10_rest wd_1025 (hc_X_0 G.2.1 a (.ref (a 10)) x) rfl rfl ⟨(Nat.le_of_ble_eq_true rfl), (Nat.le_of_ble_eq_true rfl)⟩ hcs rfl rfl (Nat.le_of_ble_eq_true rfl) dL_law_1165 ?_
    refine ka_aload_n (i := 2) hA dL_law_1168 rfl 2 rfl ?_
    refine l_arg h (Nat.le_of_ble_eq_true rfl) ll_1169 ?_
    refine kb_callVi (As := [.int (xs (6 * j + 1))]) (rest := [.int r]) hA (m_M_rest_N l G d rv n (xs (6 * j + 1)) mm e2) cd_X12_rest wd_1880 (hc_MN_0 G.2.1 d rv mm) rfl rfl ⟨(Nat.le_of_ble_eq_true rfl), (Nat.le_of_ble_eq_true rfl)⟩ hcs rfl rfl (Nat.le_of_ble_eq_true rfl) dL_law_1175 ?_
    exact ka_icmp_eq (tgt := 1695) hA dL_law_1178 rfl (fun _ => kk _ ⟨a, d, rv, f, y, u, rfl, rfl, Or.inl ⟨h2, rfl⟩⟩) (fun hc => absurd rfl hc)
  · obtain ⟨r, y, u, e1, e2, T2, v2, K2, I2, h2⟩ := s_rest h0 hn (xs (6 * j + 1))
    refine ka_aload_n (i := 1) hA dL_law_1158 rfl 1 rfl ?_
    refine l_arg h (Nat.le_of_ble_eq_true rfl) ll_1159 ?_
    refine ka_callVi (w1 := k_WT G.2.1 d rv mm) (As := [.int (xs (6 * j + 1))]) (rest := []) hA (m_X_rest l G a (.ref (a 10)) n (xs (6 * j + 1)) x e1) cd_X10_rest wd_1025 (hc_X_0 G.2.1 a (.ref (a 10)) x) rfl rfl ⟨(Nat.le_of_ble_eq_true rfl), (Nat.le_of_ble_eq_true rfl)⟩ hcs rfl rfl (Nat.le_of_ble_eq_true rfl) dL_law_1165 ?_
    refine ka_aload_n (i := 2) hA dL_law_1168 rfl 2 rfl ?_
    refine l_arg h (Nat.le_of_ble_eq_true rfl) ll_1169 ?_
    refine kb_callVi (As := [.int (xs (6 * j + 1))]) (rest := [.int r]) hA (m_M_rest l G d rv n (xs (6 * j + 1)) mm e2) cd_X12_rest wd_1880 (hc_MT_0 G.2.1 d rv mm) rfl rfl ⟨(Nat.le_of_ble_eq_true rfl), (Nat.le_of_ble_eq_true rfl)⟩ hcs rfl rfl (Nat.le_of_ble_eq_true rfl) dL_law_1175 ?_
    exact ka_icmp_eq (tgt := 1695) hA dL_law_1178 rfl (fun _ => kk _ ⟨a, d, rv, f, y, u, rfl, rfl, Or.inr ⟨T2, v2, K2, I2, h2, rfl⟩⟩) (fun hc => absurd rfl hc)
theorem lc_tells (h : l_C p s m args meth c G A b L xs j) (hn : big n) (hcs : cells ≤ 601024 ∧ slots ≤ 7293034) (hw : l_W G ax dm oo w) (kk : ∀ w2, l_W G ax dm oo w2 → k_GoA p l e room_1 s m args below meth c Q 7 G A cells slots w2 1695 (l_lv b ax dm oo j) []) : k_GoA p l e room_1 s m args below meth c Q 7 G A cells slots w 1183 (l_lv b ax dm oo j) [] := by
  have hA := h.1
  obtain ⟨a, d, rv, f, x, mm, rfl, rfl, hcase⟩ := hw
  rcases hcase with ⟨h0, rfl⟩ | ⟨T, v, K, I, h0, rfl⟩
  · obtain ⟨r, y, u, e1, e2, h2⟩ := z_tells (n := n) h0 (xs (6 * j + 1)) (xs (6 * j + 2)) (l_z (xs (6 * j + 3)))
    refine ka_aload_n (i := 1) hA dL_law_1183 rfl 1 rfl ?_
    refine l_arg h (Nat.le_of_ble_eq_true rfl) ll_1184 ?_
    refine l_arg h (Nat.le_of_ble_eq_true rfl) ll_1190 ?_
    refine l_argZ h (Nat.le_of_ble_eq_true rfl) ll_1196 ?_
    refine ka_callVl (w1 := k_WN G.2.1 d rv mm) (As := [.int (xs (6 * j + 1)), .int (xs (6 * j + 2)), .int (l_z (xs (6 * j + 3)))]) (rest := []) hA (m_X_tells l G a (.ref (a 10)) n (xs (6 * j + 1)) (xs (6 * j + 2)) (l_z (xs (6 * j + 3))) x e1) cd_X10_tells wd_1032 (hc_X_0 G.2.1 a (.ref (a 10)) x) rfl rfl ⟨(Nat.le_of_ble_eq_true rfl), (Nat.le_of_ble_eq_true rfl)⟩ hcs rfl rfl (Nat.le_of_ble_eq_true rfl) dL_law_1210 ?_
    refine ka_aload_n (i := 2) hA dL_law_1213 rfl 2 rfl ?_
    refine l_arg h (Nat.le_of_ble_eq_true rfl) ll_1214 ?_
    refine l_arg h (Nat.le_of_ble_eq_true rfl) ll_1220 ?_
    refine l_argZ h (Nat.le_of_ble_eq_true rfl) ll_1226 ?_
    refine kb_callVl (As := [.int (xs (6 * j + 1)), .int (xs (6 * j + 2)), .int (l_z (xs (6 * j + 3)))]) (rest := [.long r]) hA (m_M_tells_N l G d rv n (xs (6 * j + 1)) (xs (6 * j + 2)) (l_z (xs (6 * j + 3))) mm e2) cd_X12_tells wd_1884 (hc_MN_0 G.2.1 d rv mm) rfl rfl ⟨(Nat.le_of_ble_eq_true rfl), (Nat.le_of_ble_eq_true rfl)⟩ hcs rfl rfl (Nat.le_of_ble_eq_true rfl) dL_law_1240 ?_
    refine ka_lcmp hA dL_law_1243 ?_
    rw [lg_cmp_rf]
    exact ka_if_eq (tgt := 1695) hA dL_law_1244 rfl (fun _ => kk _ ⟨a, d, rv, f, y, u, rfl, rfl, Or.inl ⟨h2, rfl⟩⟩) (fun hc => absurd rfl hc)
  · obtain ⟨r, y, u, e1, e2, T2, v2, K2, I2, h2⟩ := s_tells h0 hn (xs (6 * j + 1)) (xs (6 * j + 2)) (l_z (xs (6 * j + 3)))
    refine ka_aload_n (i := 1) hA dL_law_1183 rfl 1 rfl ?_
    refine l_arg h (Nat.le_of_ble_eq_true rfl) ll_1184 ?_
    refine l_arg h (Nat.le_of_ble_eq_true rfl) ll_1190 ?_
    refine l_argZ h (Nat.le_of_ble_eq_true rfl) ll_1196 ?_
    refine ka_callVl (w1 := k_WT G.2.1 d rv mm) (As := [.int (xs (6 * j + 1)), .int (xs (6 * j + 2)), .int (l_z (xs (6 * j + 3)))]) (rest := []) hA (m_X_tells l G a (.ref (a 10)) n (xs (6 * j + 1)) (xs (6 * j + 2)) (l_z (xs (6 * j + 3))) x e1) cd_X10_tells wd_1032 (hc_X_0 G.2.1 a (.ref (a 10)) x) rfl rfl ⟨(Nat.le_of_ble_eq_true rfl), (Nat.le_of_ble_eq_true rfl)⟩ hcs rfl rfl (Nat.le_of_ble_eq_true rfl) dL_law_1210 ?_
    refine ka_aload_n (i := 2) hA dL_law_1213 rfl 2 rfl ?_
    refine l_arg h (Nat.le_of_ble_eq_true rfl) ll_1214 ?_
    refine l_arg h (Nat.le_of_ble_eq_true rfl) ll_1220 ?_
    refine l_argZ h (Nat.le_of_ble_eq_true rfl) ll_1226 ?_
    refine kb_callVl (As := [.int (xs (6 * j + 1)), .int (xs (6 * j + 2)), .int (l_z (xs (6 * j + 3)))]) (rest := [.long r]) hA (m_M_tells l G d rv n (xs (6 * j + 1)) (xs (6 * j + 2)) (l_z (xs (6 * j + 3))) mm e2) cd_X12_tells wd_1884 (hc_MT_0 G.2.1 d rv mm) rfl rfl ⟨(Nat.le_of_ble_eq_true rfl), (Nat.le_of_ble_eq_true rfl)⟩ hcs rfl rfl (Nat.le_of_ble_eq_true rfl) dL_law_1240 ?_
    refine ka_lcmp hA dL_law_1243 ?_
    rw [lg_cmp_rf]
    exact ka_if_eq (tgt := 1695) hA dL_law_1244 rfl (fun _ => kk _ ⟨a, d, rv, f, y, u, rfl, rfl, Or.inr ⟨T2, v2, K2, I2, h2, rfl⟩⟩) (fun hc => absurd rfl hc)
theorem lc_mean (h : l_C p s m args meth c G A b L xs j) (hn : big n) (hcs : cells ≤ 601024 ∧ slots ≤ 7293034) (hw : l_W G ax dm oo w) (kk : ∀ w2, l_W G ax dm oo w2 → k_GoA p l e room_1 s m args below meth c Q 7 G A cells slots w2 1695 (l_lv b ax dm oo j) []) : k_GoA p l e room_1 s m args below meth c Q 7 G A cells slots w 1249 (l_lv b ax dm oo j) [] := by
  have hA := h.1
  obtain ⟨a, d, rv, f, x, mm, rfl, rfl, hcase⟩ := hw
  rcases hcase with ⟨h0, rfl⟩ | ⟨T, v, K, I, h0, rfl⟩
  · obtain ⟨r, y, u, e1, e2, h2⟩ := z_mean (n := n) h0 (xs (6 * j + 1)) (l_z (xs (6 * j + 2)))
    refine ka_aload_n (i := 1) hA dL_law_1249 rfl 1 rfl ?_
    refine l_arg h (Nat.le_of_ble_eq_true rfl) ll_1250 ?_
    refine l_argZ h (Nat.le_of_ble_eq_true rfl) ll_1256 ?_
    refine ka_callVl (w1 := k_WN G.2.1 d rv mm) (As := [.int (xs (6 * j + 1)), .int (l_z (xs (6 * j + 2)))]) (rest := []) hA (m_X_mean l G a (.ref (a 10)) n (xs (6 * j + 1)) (l_z (xs (6 * j + 2))) x e1) cd_X10_mean wd_1056 (hc_X_0 G.2.1 a (.ref (a 10)) x) rfl rfl ⟨(Nat.le_of_ble_eq_true rfl), (Nat.le_of_ble_eq_true rfl)⟩ hcs rfl rfl (Nat.le_of_ble_eq_true rfl) dL_law_1270 ?_
    refine ka_aload_n (i := 2) hA dL_law_1273 rfl 2 rfl ?_
    refine l_arg h (Nat.le_of_ble_eq_true rfl) ll_1274 ?_
    refine l_argZ h (Nat.le_of_ble_eq_true rfl) ll_1280 ?_
    refine kb_callVl (As := [.int (xs (6 * j + 1)), .int (l_z (xs (6 * j + 2)))]) (rest := [.long r]) hA (m_M_mean_N l G d rv n (xs (6 * j + 1)) (l_z (xs (6 * j + 2))) mm e2) cd_X12_mean wd_1907 (hc_MN_0 G.2.1 d rv mm) rfl rfl ⟨(Nat.le_of_ble_eq_true rfl), (Nat.le_of_ble_eq_true rfl)⟩ hcs rfl rfl (Nat.le_of_ble_eq_true rfl) dL_law_1294 ?_
    refine ka_lcmp hA dL_law_1297 ?_
    rw [lg_cmp_rf]
    exact ka_if_eq (tgt := 1695) hA dL_law_1298 rfl (fun _ => kk _ ⟨a, d, rv, f, y, u, rfl, rfl, Or.inl ⟨h2, rfl⟩⟩) (fun hc => absurd rfl hc)
  · obtain ⟨r, y, u, e1, e2, T2, v2, K2, I2, h2⟩ := s_mean h0 hn (xs (6 * j + 1)) (l_z (xs (6 * j + 2)))
    refine ka_aload_n (i := 1) hA dL_law_1249 rfl 1 rfl ?_
    refine l_arg h (Nat.le_of_ble_eq_true rfl) ll_1250 ?_
    refine l_argZ h (Nat.le_of_ble_eq_true rfl) ll_1256 ?_
    refine ka_callVl (w1 := k_WT G.2.1 d rv mm) (As := [.int (xs (6 * j + 1)), .int (l_z (xs (6 * j + 2)))]) (rest := []) hA (m_X_mean l G a (.ref (a 10)) n (xs (6 * j + 1)) (l_z (xs (6 * j + 2))) x e1) cd_X10_mean wd_1056 (hc_X_0 G.2.1 a (.ref (a 10)) x) rfl rfl ⟨(Nat.le_of_ble_eq_true rfl), (Nat.le_of_ble_eq_true rfl)⟩ hcs rfl rfl (Nat.le_of_ble_eq_true rfl) dL_law_1270 ?_
    refine ka_aload_n (i := 2) hA dL_law_1273 rfl 2 rfl ?_
    refine l_arg h (Nat.le_of_ble_eq_true rfl) ll_1274 ?_
    refine l_argZ h (Nat.le_of_ble_eq_true rfl) ll_1280 ?_
    refine kb_callVl (As := [.int (xs (6 * j + 1)), .int (l_z (xs (6 * j + 2)))]) (rest := [.long r]) hA (m_M_mean l G d rv n (xs (6 * j + 1)) (l_z (xs (6 * j + 2))) mm e2) cd_X12_mean wd_1907 (hc_MT_0 G.2.1 d rv mm) rfl rfl ⟨(Nat.le_of_ble_eq_true rfl), (Nat.le_of_ble_eq_true rfl)⟩ hcs rfl rfl (Nat.le_of_ble_eq_true rfl) dL_law_1294 ?_
    refine ka_lcmp hA dL_law_1297 ?_
    rw [lg_cmp_rf]
    exact ka_if_eq (tgt := 1695) hA dL_law_1298 rfl (fun _ => kk _ ⟨a, d, rv, f, y, u, rfl, rfl, Or.inr ⟨T2, v2, K2, I2, h2, rfl⟩⟩) (fun hc => absurd rfl hc)
theorem lc_evenings (h : l_C p s m args meth c G A b L xs j) (hn : big n) (hcs : cells ≤ 601024 ∧ slots ≤ 7293034) (hw : l_W G ax dm oo w) (kk : ∀ w2, l_W G ax dm oo w2 → k_GoA p l e room_1 s m args below meth c Q 7 G A cells slots w2 1695 (l_lv b ax dm oo j) []) : k_GoA p l e room_1 s m args below meth c Q 7 G A cells slots w 1303 (l_lv b ax dm oo j) [] := by
  have hA := h.1
  obtain ⟨a, d, rv, f, x, mm, rfl, rfl, hcase⟩ := hw
  rcases hcase with ⟨h0, rfl⟩ | ⟨T, v, K, I, h0, rfl⟩
  · obtain ⟨r, y, u, e1, e2, h2⟩ := z_evenings (n := n) h0 (xs (6 * j + 1)) (xs (6 * j + 2)) (xs (6 * j + 3))
    refine ka_aload_n (i := 1) hA dL_law_1303 rfl 1 rfl ?_
    refine l_arg h (Nat.le_of_ble_eq_true rfl) ll_1304 ?_
    refine l_arg h (Nat.le_of_ble_eq_true rfl) ll_1310 ?_
    refine l_arg h (Nat.le_of_ble_eq_true rfl) ll_1316 ?_
    refine ka_callVi (w1 := k_WN G.2.1 d rv mm) (As := [.int (xs (6 * j + 1)), .int (xs (6 * j + 2)), .int (xs (6 * j + 3))]) (rest := []) hA (m_X_evenings l G a (.ref (a 10)) n (xs (6 * j + 1)) (xs (6 * j + 2)) (xs (6 * j + 3)) x e1) cd_X10_evenings wd_1063 (hc_X_0 G.2.1 a (.ref (a 10)) x) rfl rfl ⟨(Nat.le_of_ble_eq_true rfl), (Nat.le_of_ble_eq_true rfl)⟩ hcs rfl rfl (Nat.le_of_ble_eq_true rfl) dL_law_1322 ?_
    refine ka_aload_n (i := 2) hA dL_law_1325 rfl 2 rfl ?_
    refine l_arg h (Nat.le_of_ble_eq_true rfl) ll_1326 ?_
    refine l_arg h (Nat.le_of_ble_eq_true rfl) ll_1332 ?_
    refine l_arg h (Nat.le_of_ble_eq_true rfl) ll_1338 ?_
    refine kb_callVi (As := [.int (xs (6 * j + 1)), .int (xs (6 * j + 2)), .int (xs (6 * j + 3))]) (rest := [.int r]) hA (m_M_evenings_N l G d rv (xs (6 * j + 1)) (xs (6 * j + 2)) (xs (6 * j + 3)) mm e2) cd_X12_evenings wd_1911 (hc_MN_0 G.2.1 d rv mm) rfl rfl ⟨(Nat.le_of_ble_eq_true rfl), (Nat.le_of_ble_eq_true rfl)⟩ hcs rfl rfl (Nat.le_of_ble_eq_true rfl) dL_law_1344 ?_
    exact ka_icmp_eq (tgt := 1695) hA dL_law_1347 rfl (fun _ => kk _ ⟨a, d, rv, f, y, u, rfl, rfl, Or.inl ⟨h2, rfl⟩⟩) (fun hc => absurd rfl hc)
  · obtain ⟨r, y, u, e1, e2, T2, v2, K2, I2, h2⟩ := s_evenings h0 hn (xs (6 * j + 1)) (xs (6 * j + 2)) (xs (6 * j + 3))
    refine ka_aload_n (i := 1) hA dL_law_1303 rfl 1 rfl ?_
    refine l_arg h (Nat.le_of_ble_eq_true rfl) ll_1304 ?_
    refine l_arg h (Nat.le_of_ble_eq_true rfl) ll_1310 ?_
    refine l_arg h (Nat.le_of_ble_eq_true rfl) ll_1316 ?_
    refine ka_callVi (w1 := k_WT G.2.1 d rv mm) (As := [.int (xs (6 * j + 1)), .int (xs (6 * j + 2)), .int (xs (6 * j + 3))]) (rest := []) hA (m_X_evenings l G a (.ref (a 10)) n (xs (6 * j + 1)) (xs (6 * j + 2)) (xs (6 * j + 3)) x e1) cd_X10_evenings wd_1063 (hc_X_0 G.2.1 a (.ref (a 10)) x) rfl rfl ⟨(Nat.le_of_ble_eq_true rfl), (Nat.le_of_ble_eq_true rfl)⟩ hcs rfl rfl (Nat.le_of_ble_eq_true rfl) dL_law_1322 ?_
    refine ka_aload_n (i := 2) hA dL_law_1325 rfl 2 rfl ?_
    refine l_arg h (Nat.le_of_ble_eq_true rfl) ll_1326 ?_
    refine l_arg h (Nat.le_of_ble_eq_true rfl) ll_1332 ?_
    refine l_arg h (Nat.le_of_ble_eq_true rfl) ll_1338 ?_
    refine kb_callVi (As := [.int (xs (6 * j + 1)), .int (xs (6 * j + 2)), .int (xs (6 * j + 3))]) (rest := [.int r]) hA (m_M_evenings l G d rv n (xs (6 * j + 1)) (xs (6 * j + 2)) (xs (6 * j + 3)) mm e2) cd_X12_evenings wd_1911 (hc_MT_0 G.2.1 d rv mm) rfl rfl ⟨(Nat.le_of_ble_eq_true rfl), (Nat.le_of_ble_eq_true rfl)⟩ hcs rfl rfl (Nat.le_of_ble_eq_true rfl) dL_law_1344 ?_
    exact ka_icmp_eq (tgt := 1695) hA dL_law_1347 rfl (fun _ => kk _ ⟨a, d, rv, f, y, u, rfl, rfl, Or.inr ⟨T2, v2, K2, I2, h2, rfl⟩⟩) (fun hc => absurd rfl hc)
theorem lc_allSense (h : l_C p s m args meth c G A b L xs j) (hn : big n) (hcs : cells ≤ 601024 ∧ slots ≤ 7293034) (hw : l_W G ax dm oo w) (kk : ∀ w2, l_W G ax dm oo w2 → k_GoA p l e room_1 s m args below meth c Q 7 G A cells slots w2 1695 (l_lv b ax dm oo j) []) : k_GoA p l e room_1 s m args below meth c Q 7 G A cells slots w 1352 (l_lv b ax dm oo j) [] := by
  have hA := h.1
  obtain ⟨a, d, rv, f, x, mm, rfl, rfl, hcase⟩ := hw
  rcases hcase with ⟨h0, rfl⟩ | ⟨T, v, K, I, h0, rfl⟩
  · obtain ⟨r, y, u, e1, e2, h2⟩ := z_allSense (n := n) h0 (xs (6 * j + 1)) (xs (6 * j + 2))
    refine ka_aload_n (i := 1) hA dL_law_1352 rfl 1 rfl ?_
    refine l_arg h (Nat.le_of_ble_eq_true rfl) ll_1353 ?_
    refine l_arg h (Nat.le_of_ble_eq_true rfl) ll_1359 ?_
    refine ka_callVi (w1 := k_WN G.2.1 d rv mm) (As := [.int (xs (6 * j + 1)), .int (xs (6 * j + 2))]) (rest := []) hA (m_X_allSense l G a (.ref (a 10)) n (xs (6 * j + 1)) (xs (6 * j + 2)) x e1) cd_X10_allSense wd_1088 (hc_X_0 G.2.1 a (.ref (a 10)) x) rfl rfl ⟨(Nat.le_of_ble_eq_true rfl), (Nat.le_of_ble_eq_true rfl)⟩ hcs rfl rfl (Nat.le_of_ble_eq_true rfl) dL_law_1365 ?_
    refine ka_aload_n (i := 2) hA dL_law_1368 rfl 2 rfl ?_
    refine l_arg h (Nat.le_of_ble_eq_true rfl) ll_1369 ?_
    refine l_arg h (Nat.le_of_ble_eq_true rfl) ll_1375 ?_
    refine kb_callVi (As := [.int (xs (6 * j + 1)), .int (xs (6 * j + 2))]) (rest := [.int r]) hA (m_M_allSense_N l G d rv (xs (6 * j + 1)) (xs (6 * j + 2)) mm e2) cd_X12_allSense wd_1931 (hc_MN_0 G.2.1 d rv mm) rfl rfl ⟨(Nat.le_of_ble_eq_true rfl), (Nat.le_of_ble_eq_true rfl)⟩ hcs rfl rfl (Nat.le_of_ble_eq_true rfl) dL_law_1381 ?_
    exact ka_icmp_eq (tgt := 1695) hA dL_law_1384 rfl (fun _ => kk _ ⟨a, d, rv, f, y, u, rfl, rfl, Or.inl ⟨h2, rfl⟩⟩) (fun hc => absurd rfl hc)
  · obtain ⟨r, y, u, e1, e2, T2, v2, K2, I2, h2⟩ := s_allSense h0 hn (xs (6 * j + 1)) (xs (6 * j + 2))
    refine ka_aload_n (i := 1) hA dL_law_1352 rfl 1 rfl ?_
    refine l_arg h (Nat.le_of_ble_eq_true rfl) ll_1353 ?_
    refine l_arg h (Nat.le_of_ble_eq_true rfl) ll_1359 ?_
    refine ka_callVi (w1 := k_WT G.2.1 d rv mm) (As := [.int (xs (6 * j + 1)), .int (xs (6 * j + 2))]) (rest := []) hA (m_X_allSense l G a (.ref (a 10)) n (xs (6 * j + 1)) (xs (6 * j + 2)) x e1) cd_X10_allSense wd_1088 (hc_X_0 G.2.1 a (.ref (a 10)) x) rfl rfl ⟨(Nat.le_of_ble_eq_true rfl), (Nat.le_of_ble_eq_true rfl)⟩ hcs rfl rfl (Nat.le_of_ble_eq_true rfl) dL_law_1365 ?_
    refine ka_aload_n (i := 2) hA dL_law_1368 rfl 2 rfl ?_
    refine l_arg h (Nat.le_of_ble_eq_true rfl) ll_1369 ?_
    refine l_arg h (Nat.le_of_ble_eq_true rfl) ll_1375 ?_
    refine kb_callVi (As := [.int (xs (6 * j + 1)), .int (xs (6 * j + 2))]) (rest := [.int r]) hA (m_M_allSense l G d rv n (xs (6 * j + 1)) (xs (6 * j + 2)) mm e2) cd_X12_allSense wd_1931 (hc_MT_0 G.2.1 d rv mm) rfl rfl ⟨(Nat.le_of_ble_eq_true rfl), (Nat.le_of_ble_eq_true rfl)⟩ hcs rfl rfl (Nat.le_of_ble_eq_true rfl) dL_law_1381 ?_
    exact ka_icmp_eq (tgt := 1695) hA dL_law_1384 rfl (fun _ => kk _ ⟨a, d, rv, f, y, u, rfl, rfl, Or.inr ⟨T2, v2, K2, I2, h2, rfl⟩⟩) (fun hc => absurd rfl hc)
theorem lc_tell (h : l_C p s m args meth c G A b L xs j) (hn : big n) (hcs : cells ≤ 601024 ∧ slots ≤ 7293034) (hw : l_W G ax dm oo w) (kk : ∀ w2, l_W G ax dm oo w2 → k_GoA p l e room_1 s m args below meth c Q 7 G A cells slots w2 1695 (l_lv b ax dm oo j) []) : k_GoA p l e room_1 s m args below meth c Q 7 G A cells slots w 1389 (l_lv b ax dm oo j) [] := by
  have hA := h.1
  obtain ⟨a, d, rv, f, x, mm, rfl, rfl, hcase⟩ := hw
  rcases hcase with ⟨h0, rfl⟩ | ⟨T, v, K, I, h0, rfl⟩
  · obtain ⟨r, y, u, e1, e2, h2⟩ := z_tell (n := n) h0 (xs (6 * j + 1)) (xs (6 * j + 2))
    refine ka_aload_n (i := 1) hA dL_law_1389 rfl 1 rfl ?_
    refine l_arg h (Nat.le_of_ble_eq_true rfl) ll_1390 ?_
    refine l_arg h (Nat.le_of_ble_eq_true rfl) ll_1396 ?_
    refine ka_callVi (w1 := k_WN G.2.1 d rv mm) (As := [.int (xs (6 * j + 1)), .int (xs (6 * j + 2))]) (rest := []) hA (m_X_tell l G a (.ref (a 10)) (xs (6 * j + 1)) (xs (6 * j + 2)) x e1) cd_X10_tell wd_1096 (hc_X_0 G.2.1 a (.ref (a 10)) x) rfl rfl ⟨(Nat.le_of_ble_eq_true rfl), (Nat.le_of_ble_eq_true rfl)⟩ hcs rfl rfl (Nat.le_of_ble_eq_true rfl) dL_law_1402 ?_
    refine ka_aload_n (i := 2) hA dL_law_1405 rfl 2 rfl ?_
    refine l_arg h (Nat.le_of_ble_eq_true rfl) ll_1406 ?_
    refine l_arg h (Nat.le_of_ble_eq_true rfl) ll_1412 ?_
    refine kb_callVi (As := [.int (xs (6 * j + 1)), .int (xs (6 * j + 2))]) (rest := [.int r]) hA (m_M_tell_N l G d rv n (xs (6 * j + 1)) (xs (6 * j + 2)) mm e2) cd_X12_tell wd_1935 (hc_MN_0 G.2.1 d rv mm) rfl rfl ⟨(Nat.le_of_ble_eq_true rfl), (Nat.le_of_ble_eq_true rfl)⟩ hcs rfl rfl (Nat.le_of_ble_eq_true rfl) dL_law_1418 ?_
    exact ka_icmp_eq (tgt := 1695) hA dL_law_1421 rfl (fun _ => kk _ ⟨a, d, rv, f, y, u, rfl, rfl, Or.inl ⟨h2, rfl⟩⟩) (fun hc => absurd rfl hc)
  · obtain ⟨r, y, u, e1, e2, T2, v2, K2, I2, h2⟩ := s_tell h0 hn (xs (6 * j + 1)) (xs (6 * j + 2))
    refine ka_aload_n (i := 1) hA dL_law_1389 rfl 1 rfl ?_
    refine l_arg h (Nat.le_of_ble_eq_true rfl) ll_1390 ?_
    refine l_arg h (Nat.le_of_ble_eq_true rfl) ll_1396 ?_
    refine ka_callVi (w1 := k_WT G.2.1 d rv mm) (As := [.int (xs (6 * j + 1)), .int (xs (6 * j + 2))]) (rest := []) hA (m_X_tell l G a (.ref (a 10)) (xs (6 * j + 1)) (xs (6 * j + 2)) x e1) cd_X10_tell wd_1096 (hc_X_0 G.2.1 a (.ref (a 10)) x) rfl rfl ⟨(Nat.le_of_ble_eq_true rfl), (Nat.le_of_ble_eq_true rfl)⟩ hcs rfl rfl (Nat.le_of_ble_eq_true rfl) dL_law_1402 ?_
    refine ka_aload_n (i := 2) hA dL_law_1405 rfl 2 rfl ?_
    refine l_arg h (Nat.le_of_ble_eq_true rfl) ll_1406 ?_
    refine l_arg h (Nat.le_of_ble_eq_true rfl) ll_1412 ?_
    refine kb_callVi (As := [.int (xs (6 * j + 1)), .int (xs (6 * j + 2))]) (rest := [.int r]) hA (m_M_tell l G d rv n (xs (6 * j + 1)) (xs (6 * j + 2)) mm e2) cd_X12_tell wd_1935 (hc_MT_0 G.2.1 d rv mm) rfl rfl ⟨(Nat.le_of_ble_eq_true rfl), (Nat.le_of_ble_eq_true rfl)⟩ hcs rfl rfl (Nat.le_of_ble_eq_true rfl) dL_law_1418 ?_
    exact ka_icmp_eq (tgt := 1695) hA dL_law_1421 rfl (fun _ => kk _ ⟨a, d, rv, f, y, u, rfl, rfl, Or.inr ⟨T2, v2, K2, I2, h2, rfl⟩⟩) (fun hc => absurd rfl hc)
theorem lc_learn (h : l_C p s m args meth c G A b L xs j) (hn : big n) (hcs : cells ≤ 601024 ∧ slots ≤ 7293034) (hw : l_W G ax dm oo w) (kk : ∀ w2, l_W G ax dm oo w2 → k_GoA p l e room_1 s m args below meth c Q 7 G A cells slots w2 1695 (l_lv b ax dm oo j) []) : k_GoA p l e room_1 s m args below meth c Q 7 G A cells slots w 1426 (l_lv b ax dm oo j) [] := by
  have hA := h.1
  obtain ⟨a, d, rv, f, x, mm, rfl, rfl, hcase⟩ := hw
  rcases hcase with ⟨h0, rfl⟩ | ⟨T, v, K, I, h0, rfl⟩
  · obtain ⟨r, y, u, e1, e2, h2⟩ := z_learn (n := n) h0 (xs (6 * j + 1)) (xs (6 * j + 2))
    refine ka_aload_n (i := 1) hA dL_law_1426 rfl 1 rfl ?_
    refine l_arg h (Nat.le_of_ble_eq_true rfl) ll_1427 ?_
    refine l_arg h (Nat.le_of_ble_eq_true rfl) ll_1433 ?_
    refine ka_callVi (w1 := k_WN G.2.1 d rv mm) (As := [.int (xs (6 * j + 1)), .int (xs (6 * j + 2))]) (rest := []) hA (m_X_learn l G a (.ref (a 10)) (xs (6 * j + 1)) (xs (6 * j + 2)) x e1) cd_X10_learn wd_1111 (hc_X_0 G.2.1 a (.ref (a 10)) x) rfl rfl ⟨(Nat.le_of_ble_eq_true rfl), (Nat.le_of_ble_eq_true rfl)⟩ hcs rfl rfl (Nat.le_of_ble_eq_true rfl) dL_law_1439 ?_
    refine ka_aload_n (i := 2) hA dL_law_1442 rfl 2 rfl ?_
    refine l_arg h (Nat.le_of_ble_eq_true rfl) ll_1443 ?_
    refine l_arg h (Nat.le_of_ble_eq_true rfl) ll_1449 ?_
    refine kb_callVi (As := [.int (xs (6 * j + 1)), .int (xs (6 * j + 2))]) (rest := [.int (k_b r)]) hA (m_M_learn_N l G d rv n (xs (6 * j + 1)) (xs (6 * j + 2)) mm e2) cd_X12_learn wd_1943 (hc_MN_0 G.2.1 d rv mm) rfl rfl ⟨(Nat.le_of_ble_eq_true rfl), (Nat.le_of_ble_eq_true rfl)⟩ hcs rfl rfl (Nat.le_of_ble_eq_true rfl) dL_law_1455 ?_
    exact ka_icmp_eq (tgt := 1695) hA dL_law_1458 rfl (fun _ => kk _ ⟨a, d, rv, f, y, u, rfl, rfl, Or.inl ⟨h2, rfl⟩⟩) (fun hc => absurd rfl hc)
  · obtain ⟨r, y, u, e1, e2, T2, v2, K2, I2, h2⟩ := s_learn h0 hn (xs (6 * j + 1)) (xs (6 * j + 2))
    refine ka_aload_n (i := 1) hA dL_law_1426 rfl 1 rfl ?_
    refine l_arg h (Nat.le_of_ble_eq_true rfl) ll_1427 ?_
    refine l_arg h (Nat.le_of_ble_eq_true rfl) ll_1433 ?_
    refine ka_callVi (w1 := k_WT G.2.1 d rv mm) (As := [.int (xs (6 * j + 1)), .int (xs (6 * j + 2))]) (rest := []) hA (m_X_learn l G a (.ref (a 10)) (xs (6 * j + 1)) (xs (6 * j + 2)) x e1) cd_X10_learn wd_1111 (hc_X_0 G.2.1 a (.ref (a 10)) x) rfl rfl ⟨(Nat.le_of_ble_eq_true rfl), (Nat.le_of_ble_eq_true rfl)⟩ hcs rfl rfl (Nat.le_of_ble_eq_true rfl) dL_law_1439 ?_
    refine ka_aload_n (i := 2) hA dL_law_1442 rfl 2 rfl ?_
    refine l_arg h (Nat.le_of_ble_eq_true rfl) ll_1443 ?_
    refine l_arg h (Nat.le_of_ble_eq_true rfl) ll_1449 ?_
    refine kb_callVi (As := [.int (xs (6 * j + 1)), .int (xs (6 * j + 2))]) (rest := [.int (k_b r)]) hA (m_M_learn l G d rv n (xs (6 * j + 1)) (xs (6 * j + 2)) mm e2) cd_X12_learn wd_1943 (hc_MT_0 G.2.1 d rv mm) rfl rfl ⟨(Nat.le_of_ble_eq_true rfl), (Nat.le_of_ble_eq_true rfl)⟩ hcs rfl rfl (Nat.le_of_ble_eq_true rfl) dL_law_1455 ?_
    exact ka_icmp_eq (tgt := 1695) hA dL_law_1458 rfl (fun _ => kk _ ⟨a, d, rv, f, y, u, rfl, rfl, Or.inr ⟨T2, v2, K2, I2, h2, rfl⟩⟩) (fun hc => absurd rfl hc)
theorem lc_forget (h : l_C p s m args meth c G A b L xs j) (hn : big n) (hcs : cells ≤ 601024 ∧ slots ≤ 7293034) (hw : l_W G ax dm oo w) (kk : ∀ w2, l_W G ax dm oo w2 → k_GoA p l e room_1 s m args below meth c Q 7 G A cells slots w2 1695 (l_lv b ax dm oo j) []) : k_GoA p l e room_1 s m args below meth c Q 7 G A cells slots w 1463 (l_lv b ax dm oo j) [] := by
  have hA := h.1
  obtain ⟨a, d, rv, f, x, mm, rfl, rfl, hcase⟩ := hw
  rcases hcase with ⟨h0, rfl⟩ | ⟨T, v, K, I, h0, rfl⟩
  · obtain ⟨r, y, u, e1, e2, h2⟩ := z_forget (n := n) h0 (xs (6 * j + 1)) (xs (6 * j + 2))
    refine ka_aload_n (i := 1) hA dL_law_1463 rfl 1 rfl ?_
    refine l_arg h (Nat.le_of_ble_eq_true rfl) ll_1464 ?_
    refine l_arg h (Nat.le_of_ble_eq_true rfl) ll_1470 ?_
    refine ka_callVi (w1 := k_WN G.2.1 d rv mm) (As := [.int (xs (6 * j + 1)), .int (xs (6 * j + 2))]) (rest := []) hA (m_X_forget l G a (.ref (a 10)) (xs (6 * j + 1)) (xs (6 * j + 2)) x e1) cd_X10_forget wd_1124 (hc_X_0 G.2.1 a (.ref (a 10)) x) rfl rfl ⟨(Nat.le_of_ble_eq_true rfl), (Nat.le_of_ble_eq_true rfl)⟩ hcs rfl rfl (Nat.le_of_ble_eq_true rfl) dL_law_1476 ?_
    refine ka_aload_n (i := 2) hA dL_law_1479 rfl 2 rfl ?_
    refine l_arg h (Nat.le_of_ble_eq_true rfl) ll_1480 ?_
    refine l_arg h (Nat.le_of_ble_eq_true rfl) ll_1486 ?_
    refine kb_callVi (As := [.int (xs (6 * j + 1)), .int (xs (6 * j + 2))]) (rest := [.int (k_b r)]) hA (m_M_forget_N l G d rv n (xs (6 * j + 1)) (xs (6 * j + 2)) mm e2) cd_X12_forget wd_1955 (hc_MN_0 G.2.1 d rv mm) rfl rfl ⟨(Nat.le_of_ble_eq_true rfl), (Nat.le_of_ble_eq_true rfl)⟩ hcs rfl rfl (Nat.le_of_ble_eq_true rfl) dL_law_1492 ?_
    exact ka_icmp_eq (tgt := 1695) hA dL_law_1495 rfl (fun _ => kk _ ⟨a, d, rv, f, y, u, rfl, rfl, Or.inl ⟨h2, rfl⟩⟩) (fun hc => absurd rfl hc)
  · obtain ⟨r, y, u, e1, e2, T2, v2, K2, I2, h2⟩ := s_forget h0 hn (xs (6 * j + 1)) (xs (6 * j + 2))
    refine ka_aload_n (i := 1) hA dL_law_1463 rfl 1 rfl ?_
    refine l_arg h (Nat.le_of_ble_eq_true rfl) ll_1464 ?_
    refine l_arg h (Nat.le_of_ble_eq_true rfl) ll_1470 ?_
    refine ka_callVi (w1 := k_WT G.2.1 d rv mm) (As := [.int (xs (6 * j + 1)), .int (xs (6 * j + 2))]) (rest := []) hA (m_X_forget l G a (.ref (a 10)) (xs (6 * j + 1)) (xs (6 * j + 2)) x e1) cd_X10_forget wd_1124 (hc_X_0 G.2.1 a (.ref (a 10)) x) rfl rfl ⟨(Nat.le_of_ble_eq_true rfl), (Nat.le_of_ble_eq_true rfl)⟩ hcs rfl rfl (Nat.le_of_ble_eq_true rfl) dL_law_1476 ?_
    refine ka_aload_n (i := 2) hA dL_law_1479 rfl 2 rfl ?_
    refine l_arg h (Nat.le_of_ble_eq_true rfl) ll_1480 ?_
    refine l_arg h (Nat.le_of_ble_eq_true rfl) ll_1486 ?_
    refine kb_callVi (As := [.int (xs (6 * j + 1)), .int (xs (6 * j + 2))]) (rest := [.int (k_b r)]) hA (m_M_forget l G d rv n (xs (6 * j + 1)) (xs (6 * j + 2)) mm e2) cd_X12_forget wd_1955 (hc_MT_0 G.2.1 d rv mm) rfl rfl ⟨(Nat.le_of_ble_eq_true rfl), (Nat.le_of_ble_eq_true rfl)⟩ hcs rfl rfl (Nat.le_of_ble_eq_true rfl) dL_law_1492 ?_
    exact ka_icmp_eq (tgt := 1695) hA dL_law_1495 rfl (fun _ => kk _ ⟨a, d, rv, f, y, u, rfl, rfl, Or.inr ⟨T2, v2, K2, I2, h2, rfl⟩⟩) (fun hc => absurd rfl hc)
theorem lc_evening (h : l_C p s m args meth c G A b L xs j) (hn : big n) (hcs : cells ≤ 601024 ∧ slots ≤ 7293034) (hw : l_W G ax dm oo w) (kk : ∀ w2, l_W G ax dm oo w2 → k_GoA p l e room_1 s m args below meth c Q 7 G A cells slots w2 1695 (l_lv b ax dm oo j) []) : k_GoA p l e room_1 s m args below meth c Q 7 G A cells slots w 1500 (l_lv b ax dm oo j) [] := by
  have hA := h.1
  obtain ⟨a, d, rv, f, x, mm, rfl, rfl, hcase⟩ := hw
  rcases hcase with ⟨h0, rfl⟩ | ⟨T, v, K, I, h0, rfl⟩
  · obtain ⟨r, y, u, e1, e2, h2⟩ := z_evening (n := n) h0 (xs (6 * j + 1))
    refine ka_aload_n (i := 1) hA dL_law_1500 rfl 1 rfl ?_
    refine l_arg h (Nat.le_of_ble_eq_true rfl) ll_1501 ?_
    refine ka_callVi (w1 := k_WN G.2.1 d rv mm) (As := [.int (xs (6 * j + 1))]) (rest := []) hA (m_X_evening l G a (.ref (a 10)) n (xs (6 * j + 1)) x e1) cd_X10_evening wd_1128 (hc_X_0 G.2.1 a (.ref (a 10)) x) rfl rfl ⟨(Nat.le_of_ble_eq_true rfl), (Nat.le_of_ble_eq_true rfl)⟩ hcs rfl rfl (Nat.le_of_ble_eq_true rfl) dL_law_1507 ?_
    refine ka_aload_n (i := 2) hA dL_law_1510 rfl 2 rfl ?_
    refine l_arg h (Nat.le_of_ble_eq_true rfl) ll_1511 ?_
    refine kb_callVi (As := [.int (xs (6 * j + 1))]) (rest := [.int r]) hA (m_M_evening_N l G d rv (xs (6 * j + 1)) mm e2) cd_X12_evening wd_1959 (hc_MN_0 G.2.1 d rv mm) rfl rfl ⟨(Nat.le_of_ble_eq_true rfl), (Nat.le_of_ble_eq_true rfl)⟩ hcs rfl rfl (Nat.le_of_ble_eq_true rfl) dL_law_1517 ?_
    exact ka_icmp_eq (tgt := 1695) hA dL_law_1520 rfl (fun _ => kk _ ⟨a, d, rv, f, y, u, rfl, rfl, Or.inl ⟨h2, rfl⟩⟩) (fun hc => absurd rfl hc)
  · obtain ⟨r, y, u, e1, e2, T2, v2, K2, I2, h2⟩ := s_evening h0 hn (xs (6 * j + 1))
    refine ka_aload_n (i := 1) hA dL_law_1500 rfl 1 rfl ?_
    refine l_arg h (Nat.le_of_ble_eq_true rfl) ll_1501 ?_
    refine ka_callVi (w1 := k_WT G.2.1 d rv mm) (As := [.int (xs (6 * j + 1))]) (rest := []) hA (m_X_evening l G a (.ref (a 10)) n (xs (6 * j + 1)) x e1) cd_X10_evening wd_1128 (hc_X_0 G.2.1 a (.ref (a 10)) x) rfl rfl ⟨(Nat.le_of_ble_eq_true rfl), (Nat.le_of_ble_eq_true rfl)⟩ hcs rfl rfl (Nat.le_of_ble_eq_true rfl) dL_law_1507 ?_
    refine ka_aload_n (i := 2) hA dL_law_1510 rfl 2 rfl ?_
    refine l_arg h (Nat.le_of_ble_eq_true rfl) ll_1511 ?_
    refine kb_callVi (As := [.int (xs (6 * j + 1))]) (rest := [.int r]) hA (m_M_evening l G d rv n (xs (6 * j + 1)) mm e2) cd_X12_evening wd_1959 (hc_MT_0 G.2.1 d rv mm) rfl rfl ⟨(Nat.le_of_ble_eq_true rfl), (Nat.le_of_ble_eq_true rfl)⟩ hcs rfl rfl (Nat.le_of_ble_eq_true rfl) dL_law_1517 ?_
    exact ka_icmp_eq (tgt := 1695) hA dL_law_1520 rfl (fun _ => kk _ ⟨a, d, rv, f, y, u, rfl, rfl, Or.inr ⟨T2, v2, K2, I2, h2, rfl⟩⟩) (fun hc => absurd rfl hc)
theorem lc_seed (h : l_C p s m args meth c G A b L xs j) (hn : big n) (hcs : cells ≤ 601024 ∧ slots ≤ 7293034) (hw : l_W G ax dm oo w) (kk : ∀ w2, l_W G ax dm oo w2 → k_GoA p l e room_1 s m args below meth c Q 7 G A cells slots w2 1695 (l_lv b ax dm oo j) []) : k_GoA p l e room_1 s m args below meth c Q 7 G A cells slots w 1525 (l_lv b ax dm oo j) [] := by
  have hA := h.1
  obtain ⟨a, d, rv, f, x, mm, rfl, rfl, hcase⟩ := hw
  rcases hcase with ⟨h0, rfl⟩ | ⟨T, v, K, I, h0, rfl⟩
  · obtain ⟨r, y, u, e1, e2, h2⟩ := z_seed h0 (xs (6 * j + 1))
    refine ka_aload_n (i := 1) hA dL_law_1525 rfl 1 rfl ?_
    refine l_arg h (Nat.le_of_ble_eq_true rfl) ll_1526 ?_
    refine ka_callVi (w1 := k_WN G.2.1 d rv mm) (As := [.int (xs (6 * j + 1))]) (rest := []) hA (m_X_seed l G a (.ref (a 10)) (xs (6 * j + 1)) x (Option.some.inj e1)) cd_X10_seed wd_1132 (hc_X_0 G.2.1 a (.ref (a 10)) x) rfl rfl ⟨(Nat.le_of_ble_eq_true rfl), (Nat.le_of_ble_eq_true rfl)⟩ hcs rfl rfl (Nat.le_of_ble_eq_true rfl) dL_law_1532 ?_
    refine ka_aload_n (i := 2) hA dL_law_1535 rfl 2 rfl ?_
    refine l_arg h (Nat.le_of_ble_eq_true rfl) ll_1536 ?_
    refine kb_callVi (As := [.int (xs (6 * j + 1))]) (rest := [.int (k_b r)]) hA (m_M_seed_N l G d rv (xs (6 * j + 1)) mm (Option.some.inj e2)) cd_X12_seed wd_1963 (hc_MN_0 G.2.1 d rv mm) rfl rfl ⟨(Nat.le_of_ble_eq_true rfl), (Nat.le_of_ble_eq_true rfl)⟩ hcs rfl rfl (Nat.le_of_ble_eq_true rfl) dL_law_1542 ?_
    exact ka_icmp_eq (tgt := 1695) hA dL_law_1545 rfl (fun _ => kk _ ⟨a, d, rv, f, y, u, rfl, rfl, Or.inl ⟨h2, rfl⟩⟩) (fun hc => absurd rfl hc)
  · obtain ⟨r, y, u, e1, e2, T2, v2, K2, I2, h2⟩ := s_seed h0 hn (xs (6 * j + 1))
    refine ka_aload_n (i := 1) hA dL_law_1525 rfl 1 rfl ?_
    refine l_arg h (Nat.le_of_ble_eq_true rfl) ll_1526 ?_
    refine ka_callVi (w1 := k_WT G.2.1 d rv mm) (As := [.int (xs (6 * j + 1))]) (rest := []) hA (m_X_seed l G a (.ref (a 10)) (xs (6 * j + 1)) x (Option.some.inj e1)) cd_X10_seed wd_1132 (hc_X_0 G.2.1 a (.ref (a 10)) x) rfl rfl ⟨(Nat.le_of_ble_eq_true rfl), (Nat.le_of_ble_eq_true rfl)⟩ hcs rfl rfl (Nat.le_of_ble_eq_true rfl) dL_law_1532 ?_
    refine ka_aload_n (i := 2) hA dL_law_1535 rfl 2 rfl ?_
    refine l_arg h (Nat.le_of_ble_eq_true rfl) ll_1536 ?_
    refine kb_callVi (As := [.int (xs (6 * j + 1))]) (rest := [.int (k_b r)]) hA (m_M_seed l G d rv (xs (6 * j + 1)) mm e2) cd_X12_seed wd_1963 (hc_MT_0 G.2.1 d rv mm) rfl rfl ⟨(Nat.le_of_ble_eq_true rfl), (Nat.le_of_ble_eq_true rfl)⟩ hcs rfl rfl (Nat.le_of_ble_eq_true rfl) dL_law_1542 ?_
    exact ka_icmp_eq (tgt := 1695) hA dL_law_1545 rfl (fun _ => kk _ ⟨a, d, rv, f, y, u, rfl, rfl, Or.inr ⟨T2, v2, K2, I2, h2, rfl⟩⟩) (fun hc => absurd rfl hc)
theorem lc_undo (h : l_C p s m args meth c G A b L xs j) (hn : big n) (hcs : cells ≤ 601024 ∧ slots ≤ 7293034) (hw : l_W G ax dm oo w) (kk : ∀ w2, l_W G ax dm oo w2 → k_GoA p l e room_1 s m args below meth c Q 7 G A cells slots w2 1695 (l_lv b ax dm oo j) []) : k_GoA p l e room_1 s m args below meth c Q 7 G A cells slots w 1550 (l_lv b ax dm oo j) [] := by
  have hA := h.1
  obtain ⟨a, d, rv, f, x, mm, rfl, rfl, hcase⟩ := hw
  rcases hcase with ⟨h0, rfl⟩ | ⟨T, v, K, I, h0, rfl⟩
  · obtain ⟨r, y, u, e1, e2, h2⟩ := z_undo h0
    refine ka_aload_n (i := 1) hA dL_law_1550 rfl 1 rfl ?_
    refine ka_callVi (w1 := k_WN G.2.1 d rv mm) (As := []) (rest := []) hA (m_X_undo l G a (.ref (a 10)) x e1) cd_X10_undo wd_1136 (hc_X_0 G.2.1 a (.ref (a 10)) x) rfl rfl ⟨(Nat.le_of_ble_eq_true rfl), (Nat.le_of_ble_eq_true rfl)⟩ hcs rfl rfl (Nat.le_of_ble_eq_true rfl) dL_law_1551 ?_
    refine ka_aload_n (i := 2) hA dL_law_1554 rfl 2 rfl ?_
    refine kb_callVi (As := []) (rest := [.int (k_b r)]) hA (m_M_undo_N l G d rv mm (Option.some.inj e2)) cd_X12_undo wd_1967 (hc_MN_0 G.2.1 d rv mm) rfl rfl ⟨(Nat.le_of_ble_eq_true rfl), (Nat.le_of_ble_eq_true rfl)⟩ hcs rfl rfl (Nat.le_of_ble_eq_true rfl) dL_law_1555 ?_
    exact ka_icmp_eq (tgt := 1695) hA dL_law_1558 rfl (fun _ => kk _ ⟨a, d, rv, f, y, u, rfl, rfl, Or.inl ⟨h2, rfl⟩⟩) (fun hc => absurd rfl hc)
  · obtain ⟨r, y, u, e1, e2, T2, v2, K2, I2, h2⟩ := s_undo h0 hn
    refine ka_aload_n (i := 1) hA dL_law_1550 rfl 1 rfl ?_
    refine ka_callVi (w1 := k_WT G.2.1 d rv mm) (As := []) (rest := []) hA (m_X_undo l G a (.ref (a 10)) x e1) cd_X10_undo wd_1136 (hc_X_0 G.2.1 a (.ref (a 10)) x) rfl rfl ⟨(Nat.le_of_ble_eq_true rfl), (Nat.le_of_ble_eq_true rfl)⟩ hcs rfl rfl (Nat.le_of_ble_eq_true rfl) dL_law_1551 ?_
    refine ka_aload_n (i := 2) hA dL_law_1554 rfl 2 rfl ?_
    refine kb_callVi (As := []) (rest := [.int (k_b r)]) hA (m_M_undo l G d rv n mm e2) cd_X12_undo wd_1967 (hc_MT_0 G.2.1 d rv mm) rfl rfl ⟨(Nat.le_of_ble_eq_true rfl), (Nat.le_of_ble_eq_true rfl)⟩ hcs rfl rfl (Nat.le_of_ble_eq_true rfl) dL_law_1555 ?_
    exact ka_icmp_eq (tgt := 1695) hA dL_law_1558 rfl (fun _ => kk _ ⟨a, d, rv, f, y, u, rfl, rfl, Or.inr ⟨T2, v2, K2, I2, h2, rfl⟩⟩) (fun hc => absurd rfl hc)
theorem lc_image (h : l_C p s m args meth c G A b L xs j) (hn : big n) (hcs : cells ≤ 601024 ∧ slots ≤ 7293034) (hw : l_W G ax dm oo w) (kk : ∀ w2, l_W G ax dm oo w2 → k_GoA p l e room_1 s m args below meth c Q 7 G A cells slots w2 1695 (l_lv b ax dm oo j) []) : k_GoA p l e room_1 s m args below meth c Q 7 G A cells slots w 1563 (l_lv b ax dm oo j) [] := by
  have hA := h.1
  obtain ⟨a, d, rv, f, x, mm, rfl, rfl, hcase⟩ := hw
  rcases hcase with ⟨h0, rfl⟩ | ⟨T, v, K, I, h0, rfl⟩
  · obtain ⟨r, y, u, e1, e2, h2⟩ := z_image h0
    refine ka_aload_n (i := 1) hA dL_law_1563 rfl 1 rfl ?_
    refine ka_callVi (w1 := k_WN G.2.1 d rv mm) (As := []) (rest := []) hA (m_X_image l G a (.ref (a 10)) x e1) cd_X10_image wd_1149 (hc_X_0 G.2.1 a (.ref (a 10)) x) rfl rfl ⟨(Nat.le_of_ble_eq_true rfl), (Nat.le_of_ble_eq_true rfl)⟩ hcs rfl rfl (Nat.le_of_ble_eq_true rfl) dL_law_1564 ?_
    refine ka_aload_n (i := 2) hA dL_law_1567 rfl 2 rfl ?_
    refine kb_callVi (As := []) (rest := [.int r]) hA (m_M_image_N l G d rv mm (Option.some.inj e2)) cd_X12_image wd_1971 (hc_MN_0 G.2.1 d rv mm) rfl rfl ⟨(Nat.le_of_ble_eq_true rfl), (Nat.le_of_ble_eq_true rfl)⟩ hcs rfl rfl (Nat.le_of_ble_eq_true rfl) dL_law_1568 ?_
    exact ka_icmp_eq (tgt := 1695) hA dL_law_1571 rfl (fun _ => kk _ ⟨a, d, rv, f, y, u, rfl, rfl, Or.inl ⟨h2, rfl⟩⟩) (fun hc => absurd rfl hc)
  · obtain ⟨r, y, u, e1, e2, T2, v2, K2, I2, h2⟩ := s_image h0 hn
    refine ka_aload_n (i := 1) hA dL_law_1563 rfl 1 rfl ?_
    refine ka_callVi (w1 := k_WT G.2.1 d rv mm) (As := []) (rest := []) hA (m_X_image l G a (.ref (a 10)) x e1) cd_X10_image wd_1149 (hc_X_0 G.2.1 a (.ref (a 10)) x) rfl rfl ⟨(Nat.le_of_ble_eq_true rfl), (Nat.le_of_ble_eq_true rfl)⟩ hcs rfl rfl (Nat.le_of_ble_eq_true rfl) dL_law_1564 ?_
    refine ka_aload_n (i := 2) hA dL_law_1567 rfl 2 rfl ?_
    refine kb_callVi (As := []) (rest := [.int r]) hA (m_M_image l G d rv n mm e2) cd_X12_image wd_1971 (hc_MT_0 G.2.1 d rv mm) rfl rfl ⟨(Nat.le_of_ble_eq_true rfl), (Nat.le_of_ble_eq_true rfl)⟩ hcs rfl rfl (Nat.le_of_ble_eq_true rfl) dL_law_1568 ?_
    exact ka_icmp_eq (tgt := 1695) hA dL_law_1571 rfl (fun _ => kk _ ⟨a, d, rv, f, y, u, rfl, rfl, Or.inr ⟨T2, v2, K2, I2, h2, rfl⟩⟩) (fun hc => absurd rfl hc)
theorem lc_back (h : l_C p s m args meth c G A b L xs j) (hn : big n) (hcs : cells ≤ 601024 ∧ slots ≤ 7293034) (hw : l_W G ax dm oo w) (kk : ∀ w2, l_W G ax dm oo w2 → k_GoA p l e room_1 s m args below meth c Q 7 G A cells slots w2 1695 (l_lv b ax dm oo j) []) : k_GoA p l e room_1 s m args below meth c Q 7 G A cells slots w 1576 (l_lv b ax dm oo j) [] := by
  have hA := h.1
  obtain ⟨a, d, rv, f, x, mm, rfl, rfl, hcase⟩ := hw
  rcases hcase with ⟨h0, rfl⟩ | ⟨T, v, K, I, h0, rfl⟩
  · obtain ⟨r, y, u, e1, e2, h2⟩ := z_back h0 (xs (6 * j + 1))
    refine ka_aload_n (i := 1) hA dL_law_1576 rfl 1 rfl ?_
    refine l_arg h (Nat.le_of_ble_eq_true rfl) ll_1577 ?_
    refine ka_callVi (w1 := k_WN G.2.1 d rv mm) (As := [.int (xs (6 * j + 1))]) (rest := []) hA (m_X_back l G a (.ref (a 10)) (xs (6 * j + 1)) x e1) cd_X10_back wd_1157 (hc_X_0 G.2.1 a (.ref (a 10)) x) rfl rfl ⟨(Nat.le_of_ble_eq_true rfl), (Nat.le_of_ble_eq_true rfl)⟩ hcs rfl rfl (Nat.le_of_ble_eq_true rfl) dL_law_1583 ?_
    refine ka_aload_n (i := 2) hA dL_law_1586 rfl 2 rfl ?_
    refine l_arg h (Nat.le_of_ble_eq_true rfl) ll_1587 ?_
    refine kb_callVi (As := [.int (xs (6 * j + 1))]) (rest := [.int (k_b r)]) hA (m_M_back_N l G d rv (xs (6 * j + 1)) mm (Option.some.inj e2)) cd_X12_back wd_1975 (hc_MN_0 G.2.1 d rv mm) rfl rfl ⟨(Nat.le_of_ble_eq_true rfl), (Nat.le_of_ble_eq_true rfl)⟩ hcs rfl rfl (Nat.le_of_ble_eq_true rfl) dL_law_1593 ?_
    exact ka_icmp_eq (tgt := 1695) hA dL_law_1596 rfl (fun _ => kk _ ⟨a, d, rv, f, y, u, rfl, rfl, Or.inl ⟨h2, rfl⟩⟩) (fun hc => absurd rfl hc)
  · obtain ⟨r, y, u, e1, e2, T2, v2, K2, I2, h2⟩ := s_back h0 hn (xs (6 * j + 1))
    refine ka_aload_n (i := 1) hA dL_law_1576 rfl 1 rfl ?_
    refine l_arg h (Nat.le_of_ble_eq_true rfl) ll_1577 ?_
    refine ka_callVi (w1 := k_WT G.2.1 d rv mm) (As := [.int (xs (6 * j + 1))]) (rest := []) hA (m_X_back l G a (.ref (a 10)) (xs (6 * j + 1)) x e1) cd_X10_back wd_1157 (hc_X_0 G.2.1 a (.ref (a 10)) x) rfl rfl ⟨(Nat.le_of_ble_eq_true rfl), (Nat.le_of_ble_eq_true rfl)⟩ hcs rfl rfl (Nat.le_of_ble_eq_true rfl) dL_law_1583 ?_
    refine ka_aload_n (i := 2) hA dL_law_1586 rfl 2 rfl ?_
    refine l_arg h (Nat.le_of_ble_eq_true rfl) ll_1587 ?_
    refine kb_callVi (As := [.int (xs (6 * j + 1))]) (rest := [.int (k_b r)]) hA (m_M_back l G d rv n (xs (6 * j + 1)) mm e2) cd_X12_back wd_1975 (hc_MT_0 G.2.1 d rv mm) rfl rfl ⟨(Nat.le_of_ble_eq_true rfl), (Nat.le_of_ble_eq_true rfl)⟩ hcs rfl rfl (Nat.le_of_ble_eq_true rfl) dL_law_1593 ?_
    exact ka_icmp_eq (tgt := 1695) hA dL_law_1596 rfl (fun _ => kk _ ⟨a, d, rv, f, y, u, rfl, rfl, Or.inr ⟨T2, v2, K2, I2, h2, rfl⟩⟩) (fun hc => absurd rfl hc)
theorem lc_size (h : l_C p s m args meth c G A b L xs j) (hn : big n) (hcs : cells ≤ 601024 ∧ slots ≤ 7293034) (hw : l_W G ax dm oo w) (kk : ∀ w2, l_W G ax dm oo w2 → k_GoA p l e room_1 s m args below meth c Q 7 G A cells slots w2 1695 (l_lv b ax dm oo j) []) : k_GoA p l e room_1 s m args below meth c Q 7 G A cells slots w 1657 (l_lv b ax dm oo j) [] := by
  have hA := h.1
  obtain ⟨a, d, rv, f, x, mm, rfl, rfl, hcase⟩ := hw
  rcases hcase with ⟨h0, rfl⟩ | ⟨T, v, K, I, h0, rfl⟩
  · obtain ⟨r, y, u, e1, e2, h2⟩ := z_size h0 (xs (6 * j + 1))
    obtain ⟨e3, rfl⟩ := Prod.mk.inj (Option.some.inj e1)
    refine ka_aload_n (i := 1) hA dL_law_1657 rfl 1 rfl ?_
    refine l_arg h (Nat.le_of_ble_eq_true rfl) ll_1658 ?_
    refine ka_callVi (w1 := k_WN G.2.1 d rv mm) (As := [.int (xs (6 * j + 1))]) (rest := []) hA (m_X_size l G a (.ref (a 10)) x (xs (6 * j + 1)) e3) cd_X10_size wd_1165 (hc_X_0 G.2.1 a (.ref (a 10)) x) rfl rfl ⟨(Nat.le_of_ble_eq_true rfl), (Nat.le_of_ble_eq_true rfl)⟩ hcs rfl rfl (Nat.le_of_ble_eq_true rfl) dL_law_1664 ?_
    refine ka_aload_n (i := 2) hA dL_law_1667 rfl 2 rfl ?_
    refine l_arg h (Nat.le_of_ble_eq_true rfl) ll_1668 ?_
    refine kb_callVi (As := [.int (xs (6 * j + 1))]) (rest := [.int r]) hA (m_M_size_N l G d rv (xs (6 * j + 1)) mm (Option.some.inj e2)) cd_X12_size wd_1983 (hc_MN_0 G.2.1 d rv mm) rfl rfl ⟨(Nat.le_of_ble_eq_true rfl), (Nat.le_of_ble_eq_true rfl)⟩ hcs rfl rfl (Nat.le_of_ble_eq_true rfl) dL_law_1674 ?_
    exact ka_icmp_eq (tgt := 1695) hA dL_law_1677 rfl (fun _ => kk _ ⟨a, d, rv, f, x, u, rfl, rfl, Or.inl ⟨h2, rfl⟩⟩) (fun hc => absurd rfl hc)
  · obtain ⟨r, y, u, e1, e2, T2, v2, K2, I2, h2⟩ := s_size h0 hn (xs (6 * j + 1))
    obtain ⟨e3, rfl⟩ := Prod.mk.inj (Option.some.inj e1)
    refine ka_aload_n (i := 1) hA dL_law_1657 rfl 1 rfl ?_
    refine l_arg h (Nat.le_of_ble_eq_true rfl) ll_1658 ?_
    refine ka_callVi (w1 := k_WT G.2.1 d rv mm) (As := [.int (xs (6 * j + 1))]) (rest := []) hA (m_X_size l G a (.ref (a 10)) x (xs (6 * j + 1)) e3) cd_X10_size wd_1165 (hc_X_0 G.2.1 a (.ref (a 10)) x) rfl rfl ⟨(Nat.le_of_ble_eq_true rfl), (Nat.le_of_ble_eq_true rfl)⟩ hcs rfl rfl (Nat.le_of_ble_eq_true rfl) dL_law_1664 ?_
    refine ka_aload_n (i := 2) hA dL_law_1667 rfl 2 rfl ?_
    refine l_arg h (Nat.le_of_ble_eq_true rfl) ll_1668 ?_
    refine kb_callVi (As := [.int (xs (6 * j + 1))]) (rest := [.int r]) hA (m_M_size l G d rv n (xs (6 * j + 1)) mm e2) cd_X12_size wd_1983 (hc_MT_0 G.2.1 d rv mm) rfl rfl ⟨(Nat.le_of_ble_eq_true rfl), (Nat.le_of_ble_eq_true rfl)⟩ hcs rfl rfl (Nat.le_of_ble_eq_true rfl) dL_law_1674 ?_
    exact ka_icmp_eq (tgt := 1695) hA dL_law_1677 rfl (fun _ => kk _ ⟨a, d, rv, f, x, u, rfl, rfl, Or.inr ⟨T2, v2, K2, I2, h2, rfl⟩⟩) (fun hc => absurd rfl hc)
theorem lc_trouble (h : l_C p s m args meth c G A b L xs j) (hn : big n) (hcs : cells ≤ 601024 ∧ slots ≤ 7293034) (hw : l_W G ax dm oo w) (kk : ∀ w2, l_W G ax dm oo w2 → k_GoA p l e room_1 s m args below meth c Q 7 G A cells slots w2 1695 (l_lv b ax dm oo j) []) : k_GoA p l e room_1 s m args below meth c Q 7 G A cells slots w 1682 (l_lv b ax dm oo j) [] := by
  have hA := h.1
  obtain ⟨a, d, rv, f, x, mm, rfl, rfl, hcase⟩ := hw
  rcases hcase with ⟨h0, rfl⟩ | ⟨T, v, K, I, h0, rfl⟩
  · obtain ⟨r, y, u, e1, e2, h2⟩ := z_trouble h0
    obtain ⟨e3, rfl⟩ := Prod.mk.inj (Option.some.inj e1)
    refine ka_aload_n (i := 1) hA dL_law_1682 rfl 1 rfl ?_
    refine ka_callVi (w1 := k_WN G.2.1 d rv mm) (As := []) (rest := []) hA (m_X_trouble l G a (.ref (a 10)) x e3) cd_X10_trouble wd_1169 (hc_X_0 G.2.1 a (.ref (a 10)) x) rfl rfl ⟨(Nat.le_of_ble_eq_true rfl), (Nat.le_of_ble_eq_true rfl)⟩ hcs rfl rfl (Nat.le_of_ble_eq_true rfl) dL_law_1683 ?_
    refine ka_aload_n (i := 2) hA dL_law_1686 rfl 2 rfl ?_
    refine kb_callVi (As := []) (rest := [.int r]) hA (m_M_trouble_N l G d rv mm (Option.some.inj e2)) cd_X12_trouble wd_1987 (hc_MN_0 G.2.1 d rv mm) rfl rfl ⟨(Nat.le_of_ble_eq_true rfl), (Nat.le_of_ble_eq_true rfl)⟩ hcs rfl rfl (Nat.le_of_ble_eq_true rfl) dL_law_1687 ?_
    exact ka_icmp_eq (tgt := 1695) hA dL_law_1690 rfl (fun _ => kk _ ⟨a, d, rv, f, x, u, rfl, rfl, Or.inl ⟨h2, rfl⟩⟩) (fun hc => absurd rfl hc)
  · obtain ⟨r, y, u, e1, e2, T2, v2, K2, I2, h2⟩ := s_trouble h0
    obtain ⟨e3, rfl⟩ := Prod.mk.inj (Option.some.inj e1)
    refine ka_aload_n (i := 1) hA dL_law_1682 rfl 1 rfl ?_
    refine ka_callVi (w1 := k_WT G.2.1 d rv mm) (As := []) (rest := []) hA (m_X_trouble l G a (.ref (a 10)) x e3) cd_X10_trouble wd_1169 (hc_X_0 G.2.1 a (.ref (a 10)) x) rfl rfl ⟨(Nat.le_of_ble_eq_true rfl), (Nat.le_of_ble_eq_true rfl)⟩ hcs rfl rfl (Nat.le_of_ble_eq_true rfl) dL_law_1683 ?_
    refine ka_aload_n (i := 2) hA dL_law_1686 rfl 2 rfl ?_
    refine kb_callVi (As := []) (rest := [.int r]) hA (m_M_trouble l G d rv mm (Option.some.inj e2)) cd_X12_trouble wd_1987 (hc_MT_0 G.2.1 d rv mm) rfl rfl ⟨(Nat.le_of_ble_eq_true rfl), (Nat.le_of_ble_eq_true rfl)⟩ hcs rfl rfl (Nat.le_of_ble_eq_true rfl) dL_law_1687 ?_
    exact ka_icmp_eq (tgt := 1695) hA dL_law_1690 rfl (fun _ => kk _ ⟨a, d, rv, f, x, u, rfl, rfl, Or.inr ⟨T2, v2, K2, I2, h2, rfl⟩⟩) (fun hc => absurd rfl hc)
end LCS
