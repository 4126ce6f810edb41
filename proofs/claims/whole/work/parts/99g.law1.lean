/-! ===== the law: calls 0 to 16 ===== -/
section LCS
variable {cells slots : Nat} {p : Program} {l : Launch} {e : Env} {s : State} {m : MethodId} {args : Array Value} {below : List Frame} {meth : Method} {c : Code} {Q : State → Prop} {G : k_G} {A : Nat → Prop} {w : va_W} {b L j ax dm oo n : Nat} {xs : Nat → Int32}
theorem lc_feed (h : l_C p s m args meth c G A b L xs j) (hn : big n) (hcs : cells ≤ 601024 ∧ slots ≤ 7293034) (hw : l_W G ax dm oo w) (kk : ∀ w2, l_W G ax dm oo w2 → k_GoA p l e room_1 s m args below meth c Q 7 G A cells slots w2 1695 (l_lv b ax dm oo j) []) : k_GoA p l e room_1 s m args below meth c Q 7 G A cells slots w 256 (l_lv b ax dm oo j) [] := by
  have hA := h.1
  obtain ⟨a, d, rv, f, x, mm, rfl, rfl, hcase⟩ := hw
  rcases hcase with ⟨h0, rfl⟩ | ⟨T, v, K, I, h0, rfl⟩
  · obtain ⟨r, y, u, e1, e2, h2⟩ := z_feed h0 hn (xs (6 * j + 1)) (xs (6 * j + 2)) (xs (6 * j + 3)) (xs (6 * j + 4)) (xs (6 * j + 5))
    refine ka_aload_n (i := 1) hA dL_law_256 rfl 1 rfl ?_
    refine l_arg h (Nat.le_of_ble_eq_true rfl) ll_257 ?_
    refine l_arg h (Nat.le_of_ble_eq_true rfl) ll_263 ?_
    refine l_arg h (Nat.le_of_ble_eq_true rfl) ll_269 ?_
    refine l_arg h (Nat.le_of_ble_eq_true rfl) ll_275 ?_
    refine l_arg h (Nat.le_of_ble_eq_true rfl) ll_281 ?_
    refine ka_callVi (w1 := k_WN G.2.1 d rv mm) (As := [.int (xs (6 * j + 1)), .int (xs (6 * j + 2)), .int (xs (6 * j + 3)), .int (xs (6 * j + 4)), .int (xs (6 * j + 5))]) (rest := []) hA (m_X_feed l G a (.ref (a 10)) n (xs (6 * j + 1)) (xs (6 * j + 2)) (xs (6 * j + 3)) (xs (6 * j + 4)) (xs (6 * j + 5)) x e1) cd_X10_feed wd_468 (hc_X_0 G.2.1 a (.ref (a 10)) x) rfl rfl ⟨(Nat.le_of_ble_eq_true rfl), (Nat.le_of_ble_eq_true rfl)⟩ hcs rfl rfl (Nat.le_of_ble_eq_true rfl) dL_law_287 ?_
    refine ka_aload_n (i := 2) hA dL_law_290 rfl 2 rfl ?_
    refine l_arg h (Nat.le_of_ble_eq_true rfl) ll_291 ?_
    refine l_arg h (Nat.le_of_ble_eq_true rfl) ll_297 ?_
    refine l_arg h (Nat.le_of_ble_eq_true rfl) ll_303 ?_
    refine l_arg h (Nat.le_of_ble_eq_true rfl) ll_309 ?_
    refine l_arg h (Nat.le_of_ble_eq_true rfl) ll_315 ?_
    refine kb_callVi (As := [.int (xs (6 * j + 1)), .int (xs (6 * j + 2)), .int (xs (6 * j + 3)), .int (xs (6 * j + 4)), .int (xs (6 * j + 5))]) (rest := [.int r]) hA (m_M_feed_N l G d rv n (xs (6 * j + 1)) (xs (6 * j + 2)) (xs (6 * j + 3)) (xs (6 * j + 4)) (xs (6 * j + 5)) mm e2) cd_X12_feed wd_1382 (hc_MN_0 G.2.1 d rv mm) rfl rfl ⟨(Nat.le_of_ble_eq_true rfl), (Nat.le_of_ble_eq_true rfl)⟩ hcs rfl rfl (Nat.le_of_ble_eq_true rfl) dL_law_321 ?_
    exact ka_icmp_eq (tgt := 1695) hA dL_law_324 rfl (fun _ => kk _ ⟨a, d, rv, f, y, u, rfl, rfl, Or.inl ⟨h2, rfl⟩⟩) (fun hc => absurd rfl hc)
  · obtain ⟨r, y, u, e1, e2, T2, v2, K2, I2, h2⟩ := s_feed h0 hn (xs (6 * j + 1)) (xs (6 * j + 2)) (xs (6 * j + 3)) (xs (6 * j + 4)) (xs (6 * j + 5))
    refine ka_aload_n (i := 1) hA dL_law_256 rfl 1 rfl ?_
    refine l_arg h (Nat.le_of_ble_eq_true rfl) ll_257 ?_
    refine l_arg h (Nat.le_of_ble_eq_true rfl) ll_263 ?_
    refine l_arg h (Nat.le_of_ble_eq_true rfl) ll_269 ?_
    refine l_arg h (Nat.le_of_ble_eq_true rfl) ll_275 ?_
    refine l_arg h (Nat.le_of_ble_eq_true rfl) ll_281 ?_
    refine ka_callVi (w1 := k_WT G.2.1 d rv mm) (As := [.int (xs (6 * j + 1)), .int (xs (6 * j + 2)), .int (xs (6 * j + 3)), .int (xs (6 * j + 4)), .int (xs (6 * j + 5))]) (rest := []) hA (m_X_feed l G a (.ref (a 10)) n (xs (6 * j + 1)) (xs (6 * j + 2)) (xs (6 * j + 3)) (xs (6 * j + 4)) (xs (6 * j + 5)) x e1) cd_X10_feed wd_468 (hc_X_0 G.2.1 a (.ref (a 10)) x) rfl rfl ⟨(Nat.le_of_ble_eq_true rfl), (Nat.le_of_ble_eq_true rfl)⟩ hcs rfl rfl (Nat.le_of_ble_eq_true rfl) dL_law_287 ?_
    refine ka_aload_n (i := 2) hA dL_law_290 rfl 2 rfl ?_
    refine l_arg h (Nat.le_of_ble_eq_true rfl) ll_291 ?_
    refine l_arg h (Nat.le_of_ble_eq_true rfl) ll_297 ?_
    refine l_arg h (Nat.le_of_ble_eq_true rfl) ll_303 ?_
    refine l_arg h (Nat.le_of_ble_eq_true rfl) ll_309 ?_
    refine l_arg h (Nat.le_of_ble_eq_true rfl) ll_315 ?_
    refine kb_callVi (As := [.int (xs (6 * j + 1)), .int (xs (6 * j + 2)), .int (xs (6 * j + 3)), .int (xs (6 * j + 4)), .int (xs (6 * j + 5))]) (rest := [.int r]) hA (m_M_feed l G d rv n (xs (6 * j + 1)) (xs (6 * j + 2)) (xs (6 * j + 3)) (xs (6 * j + 4)) (xs (6 * j + 5)) mm e2) cd_X12_feed wd_1382 (hc_MT_0 G.2.1 d rv mm) rfl rfl ⟨(Nat.le_of_ble_eq_true rfl), (Nat.le_of_ble_eq_true rfl)⟩ hcs rfl rfl (Nat.le_of_ble_eq_true rfl) dL_law_321 ?_
    exact ka_icmp_eq (tgt := 1695) hA dL_law_324 rfl (fun _ => kk _ ⟨a, d, rv, f, y, u, rfl, rfl, Or.inr ⟨T2, v2, K2, I2, h2, rfl⟩⟩) (fun hc => absurd rfl hc)
theorem lc_fault (h : l_C p s m args meth c G A b L xs j) (hn : big n) (hcs : cells ≤ 601024 ∧ slots ≤ 7293034) (hw : l_W G ax dm oo w) (kk : ∀ w2, l_W G ax dm oo w2 → k_GoA p l e room_1 s m args below meth c Q 7 G A cells slots w2 1695 (l_lv b ax dm oo j) []) : k_GoA p l e room_1 s m args below meth c Q 7 G A cells slots w 354 (l_lv b ax dm oo j) [] := by
  have hA := h.1
  obtain ⟨a, d, rv, f, x, mm, rfl, rfl, hcase⟩ := hw
  rcases hcase with ⟨h0, rfl⟩ | ⟨T, v, K, I, h0, rfl⟩
  · obtain ⟨r, y, u, e1, e2, h2⟩ := z_fault h0
    obtain ⟨e3, rfl⟩ := Prod.mk.inj (Option.some.inj e1)
    refine ka_aload_n (i := 1) hA dL_law_354 rfl 1 rfl ?_
    refine ka_callVi (w1 := k_WN G.2.1 d rv mm) (As := []) (rest := []) hA (m_X_fault l G a (.ref (a 10)) x e3) cd_X10_fault wd_736 (hc_X_0 G.2.1 a (.ref (a 10)) x) rfl rfl ⟨(Nat.le_of_ble_eq_true rfl), (Nat.le_of_ble_eq_true rfl)⟩ hcs rfl rfl (Nat.le_of_ble_eq_true rfl) dL_law_355 ?_
    refine ka_aload_n (i := 2) hA dL_law_358 rfl 2 rfl ?_
    refine kb_callVi (As := []) (rest := [.int r]) hA (m_M_fault_N l G d rv mm (Option.some.inj e2)) cd_X12_fault wd_1605 (hc_MN_0 G.2.1 d rv mm) rfl rfl ⟨(Nat.le_of_ble_eq_true rfl), (Nat.le_of_ble_eq_true rfl)⟩ hcs rfl rfl (Nat.le_of_ble_eq_true rfl) dL_law_359 ?_
    exact ka_icmp_eq (tgt := 1695) hA dL_law_362 rfl (fun _ => kk _ ⟨a, d, rv, f, x, u, rfl, rfl, Or.inl ⟨h2, rfl⟩⟩) (fun hc => absurd rfl hc)
  · obtain ⟨r, y, u, e1, e2, T2, v2, K2, I2, h2⟩ := s_fault h0
    obtain ⟨e3, rfl⟩ := Prod.mk.inj (Option.some.inj e1)
    refine ka_aload_n (i := 1) hA dL_law_354 rfl 1 rfl ?_
    refine ka_callVi (w1 := k_WT G.2.1 d rv mm) (As := []) (rest := []) hA (m_X_fault l G a (.ref (a 10)) x e3) cd_X10_fault wd_736 (hc_X_0 G.2.1 a (.ref (a 10)) x) rfl rfl ⟨(Nat.le_of_ble_eq_true rfl), (Nat.le_of_ble_eq_true rfl)⟩ hcs rfl rfl (Nat.le_of_ble_eq_true rfl) dL_law_355 ?_
    refine ka_aload_n (i := 2) hA dL_law_358 rfl 2 rfl ?_
    refine kb_callVi (As := []) (rest := [.int r]) hA (m_M_fault l G d rv mm (Option.some.inj e2)) cd_X12_fault wd_1605 (hc_MT_0 G.2.1 d rv mm) rfl rfl ⟨(Nat.le_of_ble_eq_true rfl), (Nat.le_of_ble_eq_true rfl)⟩ hcs rfl rfl (Nat.le_of_ble_eq_true rfl) dL_law_359 ?_
    exact ka_icmp_eq (tgt := 1695) hA dL_law_362 rfl (fun _ => kk _ ⟨a, d, rv, f, x, u, rfl, rfl, Or.inr ⟨T2, v2, K2, I2, h2, rfl⟩⟩) (fun hc => absurd rfl hc)
theorem lc_where (h : l_C p s m args meth c G A b L xs j) (hn : big n) (hcs : cells ≤ 601024 ∧ slots ≤ 7293034) (hw : l_W G ax dm oo w) (kk : ∀ w2, l_W G ax dm oo w2 → k_GoA p l e room_1 s m args below meth c Q 7 G A cells slots w2 1695 (l_lv b ax dm oo j) []) : k_GoA p l e room_1 s m args below meth c Q 7 G A cells slots w 367 (l_lv b ax dm oo j) [] := by
  have hA := h.1
  obtain ⟨a, d, rv, f, x, mm, rfl, rfl, hcase⟩ := hw
  rcases hcase with ⟨h0, rfl⟩ | ⟨T, v, K, I, h0, rfl⟩
  · obtain ⟨r, y, u, e1, e2, h2⟩ := z_where h0
    obtain ⟨e3, rfl⟩ := Prod.mk.inj (Option.some.inj e1)
    refine ka_aload_n (i := 1) hA dL_law_367 rfl 1 rfl ?_
    refine ka_callVi (w1 := k_WN G.2.1 d rv mm) (As := []) (rest := []) hA (m_X_where l G a (.ref (a 10)) x e3) cd_X10_where wd_740 (hc_X_0 G.2.1 a (.ref (a 10)) x) rfl rfl ⟨(Nat.le_of_ble_eq_true rfl), (Nat.le_of_ble_eq_true rfl)⟩ hcs rfl rfl (Nat.le_of_ble_eq_true rfl) dL_law_368 ?_
    refine ka_aload_n (i := 2) hA dL_law_371 rfl 2 rfl ?_
    refine kb_callVi (As := []) (rest := [.int r]) hA (m_M_where_N l G d rv mm (Option.some.inj e2)) cd_X12_where wd_1609 (hc_MN_0 G.2.1 d rv mm) rfl rfl ⟨(Nat.le_of_ble_eq_true rfl), (Nat.le_of_ble_eq_true rfl)⟩ hcs rfl rfl (Nat.le_of_ble_eq_true rfl) dL_law_372 ?_
    exact ka_icmp_eq (tgt := 1695) hA dL_law_375 rfl (fun _ => kk _ ⟨a, d, rv, f, x, u, rfl, rfl, Or.inl ⟨h2, rfl⟩⟩) (fun hc => absurd rfl hc)
  · obtain ⟨r, y, u, e1, e2, T2, v2, K2, I2, h2⟩ := s_where h0
    obtain ⟨e3, rfl⟩ := Prod.mk.inj (Option.some.inj e1)
    refine ka_aload_n (i := 1) hA dL_law_367 rfl 1 rfl ?_
    refine ka_callVi (w1 := k_WT G.2.1 d rv mm) (As := []) (rest := []) hA (m_X_where l G a (.ref (a 10)) x e3) cd_X10_where wd_740 (hc_X_0 G.2.1 a (.ref (a 10)) x) rfl rfl ⟨(Nat.le_of_ble_eq_true rfl), (Nat.le_of_ble_eq_true rfl)⟩ hcs rfl rfl (Nat.le_of_ble_eq_true rfl) dL_law_368 ?_
    refine ka_aload_n (i := 2) hA dL_law_371 rfl 2 rfl ?_
    refine kb_callVi (As := []) (rest := [.int r]) hA (m_M_where l G d rv mm (Option.some.inj e2)) cd_X12_where wd_1609 (hc_MT_0 G.2.1 d rv mm) rfl rfl ⟨(Nat.le_of_ble_eq_true rfl), (Nat.le_of_ble_eq_true rfl)⟩ hcs rfl rfl (Nat.le_of_ble_eq_true rfl) dL_law_372 ?_
    exact ka_icmp_eq (tgt := 1695) hA dL_law_375 rfl (fun _ => kk _ ⟨a, d, rv, f, x, u, rfl, rfl, Or.inr ⟨T2, v2, K2, I2, h2, rfl⟩⟩) (fun hc => absurd rfl hc)
theorem lc_piece (h : l_C p s m args meth c G A b L xs j) (hn : big n) (hcs : cells ≤ 601024 ∧ slots ≤ 7293034) (hw : l_W G ax dm oo w) (kk : ∀ w2, l_W G ax dm oo w2 → k_GoA p l e room_1 s m args below meth c Q 7 G A cells slots w2 1695 (l_lv b ax dm oo j) []) : k_GoA p l e room_1 s m args below meth c Q 7 G A cells slots w 380 (l_lv b ax dm oo j) [] := by
  have hA := h.1
  obtain ⟨a, d, rv, f, x, mm, rfl, rfl, hcase⟩ := hw
  rcases hcase with ⟨h0, rfl⟩ | ⟨T, v, K, I, h0, rfl⟩
  · obtain ⟨r, y, u, e1, e2, h2⟩ := z_piece (n := n) h0 (xs (6 * j + 1)) (xs (6 * j + 2))
    refine ka_aload_n (i := 1) hA dL_law_380 rfl 1 rfl ?_
    refine l_arg h (Nat.le_of_ble_eq_true rfl) ll_381 ?_
    refine l_arg h (Nat.le_of_ble_eq_true rfl) ll_387 ?_
    refine ka_callVi (w1 := k_WN G.2.1 d rv mm) (As := [.int (xs (6 * j + 1)), .int (xs (6 * j + 2))]) (rest := []) hA (m_X_piece l G a (.ref (a 10)) n (xs (6 * j + 1)) (xs (6 * j + 2)) x e1) cd_X10_piece wd_744 (hc_X_0 G.2.1 a (.ref (a 10)) x) rfl rfl ⟨(Nat.le_of_ble_eq_true rfl), (Nat.le_of_ble_eq_true rfl)⟩ hcs rfl rfl (Nat.le_of_ble_eq_true rfl) dL_law_393 ?_
    refine ka_aload_n (i := 2) hA dL_law_396 rfl 2 rfl ?_
    refine l_arg h (Nat.le_of_ble_eq_true rfl) ll_397 ?_
    refine l_arg h (Nat.le_of_ble_eq_true rfl) ll_403 ?_
    refine kb_callVi (As := [.int (xs (6 * j + 1)), .int (xs (6 * j + 2))]) (rest := [.int r]) hA (m_M_piece_N l G d rv (xs (6 * j + 1)) (xs (6 * j + 2)) mm e2) cd_X12_piece wd_1613 (hc_MN_0 G.2.1 d rv mm) rfl rfl ⟨(Nat.le_of_ble_eq_true rfl), (Nat.le_of_ble_eq_true rfl)⟩ hcs rfl rfl (Nat.le_of_ble_eq_true rfl) dL_law_409 ?_
    exact ka_icmp_eq (tgt := 1695) hA dL_law_412 rfl (fun _ => kk _ ⟨a, d, rv, f, y, u, rfl, rfl, Or.inl ⟨h2, rfl⟩⟩) (fun hc => absurd rfl hc)
  · obtain ⟨r, y, u, e1, e2, T2, v2, K2, I2, h2⟩ := s_piece h0 hn (xs (6 * j + 1)) (xs (6 * j + 2))
    refine ka_aload_n (i := 1) hA dL_law_380 rfl 1 rfl ?_
    refine l_arg h (Nat.le_of_ble_eq_true rfl) ll_381 ?_
    refine l_arg h (Nat.le_of_ble_eq_true rfl) ll_387 ?_
    refine ka_callVi (w1 := k_WT G.2.1 d rv mm) (As := [.int (xs (6 * j + 1)), .int (xs (6 * j + 2))]) (rest := []) hA (m_X_piece l G a (.ref (a 10)) n (xs (6 * j + 1)) (xs (6 * j + 2)) x e1) cd_X10_piece wd_744 (hc_X_0 G.2.1 a (.ref (a 10)) x) rfl rfl ⟨(Nat.le_of_ble_eq_true rfl), (Nat.le_of_ble_eq_true rfl)⟩ hcs rfl rfl (Nat.le_of_ble_eq_true rfl) dL_law_393 ?_
    refine ka_aload_n (i := 2) hA dL_law_396 rfl 2 rfl ?_
    refine l_arg h (Nat.le_of_ble_eq_true rfl) ll_397 ?_
    refine l_arg h (Nat.le_of_ble_eq_true rfl) ll_403 ?_
    refine kb_callVi (As := [.int (xs (6 * j + 1)), .int (xs (6 * j + 2))]) (rest := [.int r]) hA (m_M_piece l G d rv n (xs (6 * j + 1)) (xs (6 * j + 2)) mm e2) cd_X12_piece wd_1613 (hc_MT_0 G.2.1 d rv mm) rfl rfl ⟨(Nat.le_of_ble_eq_true rfl), (Nat.le_of_ble_eq_true rfl)⟩ hcs rfl rfl (Nat.le_of_ble_eq_true rfl) dL_law_409 ?_
    exact ka_icmp_eq (tgt := 1695) hA dL_law_412 rfl (fun _ => kk _ ⟨a, d, rv, f, y, u, rfl, rfl, Or.inr ⟨T2, v2, K2, I2, h2, rfl⟩⟩) (fun hc => absurd rfl hc)
theorem lc_house (h : l_C p s m args meth c G A b L xs j) (hn : big n) (hcs : cells ≤ 601024 ∧ slots ≤ 7293034) (hw : l_W G ax dm oo w) (kk : ∀ w2, l_W G ax dm oo w2 → k_GoA p l e room_1 s m args below meth c Q 7 G A cells slots w2 1695 (l_lv b ax dm oo j) []) : k_GoA p l e room_1 s m args below meth c Q 7 G A cells slots w 417 (l_lv b ax dm oo j) [] := by
  have hA := h.1
  obtain ⟨a, d, rv, f, x, mm, rfl, rfl, hcase⟩ := hw
  rcases hcase with ⟨h0, rfl⟩ | ⟨T, v, K, I, h0, rfl⟩
  · obtain ⟨r, y, u, e1, e2, h2⟩ := z_house (n := n) h0 (xs (6 * j + 1)) (xs (6 * j + 2))
    refine ka_aload_n (i := 1) hA dL_law_417 rfl 1 rfl ?_
    refine l_arg h (Nat.le_of_ble_eq_true rfl) ll_418 ?_
    refine l_arg h (Nat.le_of_ble_eq_true rfl) ll_424 ?_
    refine ka_callVi (w1 := k_WN G.2.1 d rv mm) (As := [.int (xs (6 * j + 1)), .int (xs (6 * j + 2))]) (rest := []) hA (m_X_house l G a (.ref (a 10)) n (xs (6 * j + 1)) (xs (6 * j + 2)) x e1) cd_X10_house wd_772 (hc_X_0 G.2.1 a (.ref (a 10)) x) rfl rfl ⟨(Nat.le_of_ble_eq_true rfl), (Nat.le_of_ble_eq_true rfl)⟩ hcs rfl rfl (Nat.le_of_ble_eq_true rfl) dL_law_430 ?_
    refine ka_aload_n (i := 2) hA dL_law_433 rfl 2 rfl ?_
    refine l_arg h (Nat.le_of_ble_eq_true rfl) ll_434 ?_
    refine l_arg h (Nat.le_of_ble_eq_true rfl) ll_440 ?_
    refine kb_callVi (As := [.int (xs (6 * j + 1)), .int (xs (6 * j + 2))]) (rest := [.int r]) hA (m_M_house_N l G d rv (xs (6 * j + 1)) (xs (6 * j + 2)) mm e2) cd_X12_house wd_1621 (hc_MN_0 G.2.1 d rv mm) rfl rfl ⟨(Nat.le_of_ble_eq_true rfl), (Nat.le_of_ble_eq_true rfl)⟩ hcs rfl rfl (Nat.le_of_ble_eq_true rfl) dL_law_446 ?_
    exact ka_icmp_eq (tgt := 1695) hA dL_law_449 rfl (fun _ => kk _ ⟨a, d, rv, f, y, u, rfl, rfl, Or.inl ⟨h2, rfl⟩⟩) (fun hc => absurd rfl hc)
  · obtain ⟨r, y, u, e1, e2, T2, v2, K2, I2, h2⟩ := s_house h0 hn (xs (6 * j + 1)) (xs (6 * j + 2))
    refine ka_aload_n (i := 1) hA dL_law_417 rfl 1 rfl ?_
    refine l_arg h (Nat.le_of_ble_eq_true rfl) ll_418 ?_
    refine l_arg h (Nat.le_of_ble_eq_true rfl) ll_424 ?_
    refine ka_callVi (w1 := k_WT G.2.1 d rv mm) (As := [.int (xs (6 * j + 1)), .int (xs (6 * j + 2))]) (rest := []) hA (m_X_house l G a (.ref (a 10)) n (xs (6 * j + 1)) (xs (6 * j + 2)) x e1) cd_X10_house wd_772 (hc_X_0 G.2.1 a (.ref (a 10)) x) rfl rfl ⟨(Nat.le_of_ble_eq_true rfl), (Nat.le_of_ble_eq_true rfl)⟩ hcs rfl rfl (Nat.le_of_ble_eq_true rfl) dL_law_430 ?_
    refine ka_aload_n (i := 2) hA dL_law_433 rfl 2 rfl ?_
    refine l_arg h (Nat.le_of_ble_eq_true rfl) ll_434 ?_
    refine l_arg h (Nat.le_of_ble_eq_true rfl) ll_440 ?_
    refine kb_callVi (As := [.int (xs (6 * j + 1)), .int (xs (6 * j + 2))]) (rest := [.int r]) hA (m_M_house l G d rv n (xs (6 * j + 1)) (xs (6 * j + 2)) mm e2) cd_X12_house wd_1621 (hc_MT_0 G.2.1 d rv mm) rfl rfl ⟨(Nat.le_of_ble_eq_true rfl), (Nat.le_of_ble_eq_true rfl)⟩ hcs rfl rfl (Nat.le_of_ble_eq_true rfl) dL_law_446 ?_
    exact ka_icmp_eq (tgt := 1695) hA dL_law_449 rfl (fun _ => kk _ ⟨a, d, rv, f, y, u, rfl, rfl, Or.inr ⟨T2, v2, K2, I2, h2, rfl⟩⟩) (fun hc => absurd rfl hc)
theorem lc_known (h : l_C p s m args meth c G A b L xs j) (hn : big n) (hcs : cells ≤ 601024 ∧ slots ≤ 7293034) (hw : l_W G ax dm oo w) (kk : ∀ w2, l_W G ax dm oo w2 → k_GoA p l e room_1 s m args below meth c Q 7 G A cells slots w2 1695 (l_lv b ax dm oo j) []) : k_GoA p l e room_1 s m args below meth c Q 7 G A cells slots w 454 (l_lv b ax dm oo j) [] := by
  have hA := h.1
  obtain ⟨a, d, rv, f, x, mm, rfl, rfl, hcase⟩ := hw
  rcases hcase with ⟨h0, rfl⟩ | ⟨T, v, K, I, h0, rfl⟩
  · obtain ⟨r, y, u, e1, e2, h2⟩ := z_known (n := n) h0
    refine ka_aload_n (i := 1) hA dL_law_454 rfl 1 rfl ?_
    refine ka_callVi (w1 := k_WN G.2.1 d rv mm) (As := []) (rest := []) hA (m_X_known l G a (.ref (a 10)) n x e1) cd_X10_known wd_797 (hc_X_0 G.2.1 a (.ref (a 10)) x) rfl rfl ⟨(Nat.le_of_ble_eq_true rfl), (Nat.le_of_ble_eq_true rfl)⟩ hcs rfl rfl (Nat.le_of_ble_eq_true rfl) dL_law_455 ?_
    refine ka_aload_n (i := 2) hA dL_law_458 rfl 2 rfl ?_
    refine kb_callVi (As := []) (rest := [.int r]) hA (m_M_known_N l G d rv mm (Option.some.inj e2)) cd_X12_known wd_1653 (hc_MN_0 G.2.1 d rv mm) rfl rfl ⟨(Nat.le_of_ble_eq_true rfl), (Nat.le_of_ble_eq_true rfl)⟩ hcs rfl rfl (Nat.le_of_ble_eq_true rfl) dL_law_459 ?_
    exact ka_icmp_eq (tgt := 1695) hA dL_law_462 rfl (fun _ => kk _ ⟨a, d, rv, f, y, u, rfl, rfl, Or.inl ⟨h2, rfl⟩⟩) (fun hc => absurd rfl hc)
  · obtain ⟨r, y, u, e1, e2, T2, v2, K2, I2, h2⟩ := s_known h0 hn
    refine ka_aload_n (i := 1) hA dL_law_454 rfl 1 rfl ?_
    refine ka_callVi (w1 := k_WT G.2.1 d rv mm) (As := []) (rest := []) hA (m_X_known l G a (.ref (a 10)) n x e1) cd_X10_known wd_797 (hc_X_0 G.2.1 a (.ref (a 10)) x) rfl rfl ⟨(Nat.le_of_ble_eq_true rfl), (Nat.le_of_ble_eq_true rfl)⟩ hcs rfl rfl (Nat.le_of_ble_eq_true rfl) dL_law_455 ?_
    refine ka_aload_n (i := 2) hA dL_law_458 rfl 2 rfl ?_
    refine kb_callVi (As := []) (rest := [.int r]) hA (m_M_known l G d rv n mm e2) cd_X12_known wd_1653 (hc_MT_0 G.2.1 d rv mm) rfl rfl ⟨(Nat.le_of_ble_eq_true rfl), (Nat.le_of_ble_eq_true rfl)⟩ hcs rfl rfl (Nat.le_of_ble_eq_true rfl) dL_law_459 ?_
    exact ka_icmp_eq (tgt := 1695) hA dL_law_462 rfl (fun _ => kk _ ⟨a, d, rv, f, y, u, rfl, rfl, Or.inr ⟨T2, v2, K2, I2, h2, rfl⟩⟩) (fun hc => absurd rfl hc)
theorem lc_alone (h : l_C p s m args meth c G A b L xs j) (hn : big n) (hcs : cells ≤ 601024 ∧ slots ≤ 7293034) (hw : l_W G ax dm oo w) (kk : ∀ w2, l_W G ax dm oo w2 → k_GoA p l e room_1 s m args below meth c Q 7 G A cells slots w2 1695 (l_lv b ax dm oo j) []) : k_GoA p l e room_1 s m args below meth c Q 7 G A cells slots w 467 (l_lv b ax dm oo j) [] := by
  have hA := h.1
  obtain ⟨a, d, rv, f, x, mm, rfl, rfl, hcase⟩ := hw
  rcases hcase with ⟨h0, rfl⟩ | ⟨T, v, K, I, h0, rfl⟩
  · obtain ⟨r, y, u, e1, e2, h2⟩ := z_alone (n := n) h0 (xs (6 * j + 1))
    refine ka_aload_n (i := 1) hA dL_law_467 rfl 1 rfl ?_
    refine l_arg h (Nat.le_of_ble_eq_true rfl) ll_468 ?_
    refine ka_callVi (w1 := k_WN G.2.1 d rv mm) (As := [.int (xs (6 * j + 1))]) (rest := []) hA (m_X_alone l G a (.ref (a 10)) n (xs (6 * j + 1)) x e1) cd_X10_alone wd_805 (hc_X_0 G.2.1 a (.ref (a 10)) x) rfl rfl ⟨(Nat.le_of_ble_eq_true rfl), (Nat.le_of_ble_eq_true rfl)⟩ hcs rfl rfl (Nat.le_of_ble_eq_true rfl) dL_law_474 ?_
    refine ka_aload_n (i := 2) hA dL_law_477 rfl 2 rfl ?_
    refine l_arg h (Nat.le_of_ble_eq_true rfl) ll_478 ?_
    refine kb_callVi (As := [.int (xs (6 * j + 1))]) (rest := [.int r]) hA (m_M_alone_N l G d rv (xs (6 * j + 1)) mm e2) cd_X12_alone wd_1661 (hc_MN_0 G.2.1 d rv mm) rfl rfl ⟨(Nat.le_of_ble_eq_true rfl), (Nat.le_of_ble_eq_true rfl)⟩ hcs rfl rfl (Nat.le_of_ble_eq_true rfl) dL_law_484 ?_
    exact ka_icmp_eq (tgt := 1695) hA dL_law_487 rfl (fun _ => kk _ ⟨a, d, rv, f, y, u, rfl, rfl, Or.inl ⟨h2, rfl⟩⟩) (fun hc => absurd rfl hc)
  · obtain ⟨r, y, u, e1, e2, T2, v2, K2, I2, h2⟩ := s_alone h0 hn (xs (6 * j + 1))
    refine ka_aload_n (i := 1) hA dL_law_467 rfl 1 rfl ?_
    refine l_arg h (Nat.le_of_ble_eq_true rfl) ll_468 ?_
    refine ka_callVi (w1 := k_WT G.2.1 d rv mm) (As := [.int (xs (6 * j + 1))]) (rest := []) hA (m_X_alone l G a (.ref (a 10)) n (xs (6 * j + 1)) x e1) cd_X10_alone wd_805 (hc_X_0 G.2.1 a (.ref (a 10)) x) rfl rfl ⟨(Nat.le_of_ble_eq_true rfl), (Nat.le_of_ble_eq_true rfl)⟩ hcs rfl rfl (Nat.le_of_ble_eq_true rfl) dL_law_474 ?_
    refine ka_aload_n (i := 2) hA dL_law_477 rfl 2 rfl ?_
    refine l_arg h (Nat.le_of_ble_eq_true rfl) ll_478 ?_
    refine kb_callVi (As := [.int (xs (6 * j + 1))]) (rest := [.int r]) hA (m_M_alone l G d rv n (xs (6 * j + 1)) mm e2) cd_X12_alone wd_1661 (hc_MT_0 G.2.1 d rv mm) rfl rfl ⟨(Nat.le_of_ble_eq_true rfl), (Nat.le_of_ble_eq_true rfl)⟩ hcs rfl rfl (Nat.le_of_ble_eq_true rfl) dL_law_484 ?_
    exact ka_icmp_eq (tgt := 1695) hA dL_law_487 rfl (fun _ => kk _ ⟨a, d, rv, f, y, u, rfl, rfl, Or.inr ⟨T2, v2, K2, I2, h2, rfl⟩⟩) (fun hc => absurd rfl hc)
theorem lc_tales (h : l_C p s m args meth c G A b L xs j) (hn : big n) (hcs : cells ≤ 601024 ∧ slots ≤ 7293034) (hw : l_W G ax dm oo w) (kk : ∀ w2, l_W G ax dm oo w2 → k_GoA p l e room_1 s m args below meth c Q 7 G A cells slots w2 1695 (l_lv b ax dm oo j) []) : k_GoA p l e room_1 s m args below meth c Q 7 G A cells slots w 492 (l_lv b ax dm oo j) [] := by
  have hA := h.1
  obtain ⟨a, d, rv, f, x, mm, rfl, rfl, hcase⟩ := hw
  rcases hcase with ⟨h0, rfl⟩ | ⟨T, v, K, I, h0, rfl⟩
  · obtain ⟨r, y, u, e1, e2, h2⟩ := z_tales (n := n) h0 (xs (6 * j + 1))
    refine ka_aload_n (i := 1) hA dL_law_492 rfl 1 rfl ?_
    refine l_arg h (Nat.le_of_ble_eq_true rfl) ll_493 ?_
    refine ka_callVi (w1 := k_WN G.2.1 d rv mm) (As := [.int (xs (6 * j + 1))]) (rest := []) hA (m_X_tales l G a (.ref (a 10)) n (xs (6 * j + 1)) x e1) cd_X10_tales wd_811 (hc_X_0 G.2.1 a (.ref (a 10)) x) rfl rfl ⟨(Nat.le_of_ble_eq_true rfl), (Nat.le_of_ble_eq_true rfl)⟩ hcs rfl rfl (Nat.le_of_ble_eq_true rfl) dL_law_499 ?_
    refine ka_aload_n (i := 2) hA dL_law_502 rfl 2 rfl ?_
    refine l_arg h (Nat.le_of_ble_eq_true rfl) ll_503 ?_
    refine kb_callVi (As := [.int (xs (6 * j + 1))]) (rest := [.int r]) hA (m_M_tales_N l G d rv n (xs (6 * j + 1)) mm e2) cd_X12_tales wd_1665 (hc_MN_0 G.2.1 d rv mm) rfl rfl ⟨(Nat.le_of_ble_eq_true rfl), (Nat.le_of_ble_eq_true rfl)⟩ hcs rfl rfl (Nat.le_of_ble_eq_true rfl) dL_law_509 ?_
    exact ka_icmp_eq (tgt := 1695) hA dL_law_512 rfl (fun _ => kk _ ⟨a, d, rv, f, y, u, rfl, rfl, Or.inl ⟨h2, rfl⟩⟩) (fun hc => absurd rfl hc)
  · obtain ⟨r, y, u, e1, e2, T2, v2, K2, I2, h2⟩ := s_tales h0 hn (xs (6 * j + 1))
    refine ka_aload_n (i := 1) hA dL_law_492 rfl 1 rfl ?_
    refine l_arg h (Nat.le_of_ble_eq_true rfl) ll_493 ?_
    refine ka_callVi (w1 := k_WT G.2.1 d rv mm) (As := [.int (xs (6 * j + 1))]) (rest := []) hA (m_X_tales l G a (.ref (a 10)) n (xs (6 * j + 1)) x e1) cd_X10_tales wd_811 (hc_X_0 G.2.1 a (.ref (a 10)) x) rfl rfl ⟨(Nat.le_of_ble_eq_true rfl), (Nat.le_of_ble_eq_true rfl)⟩ hcs rfl rfl (Nat.le_of_ble_eq_true rfl) dL_law_499 ?_
    refine ka_aload_n (i := 2) hA dL_law_502 rfl 2 rfl ?_
    refine l_arg h (Nat.le_of_ble_eq_true rfl) ll_503 ?_
    refine kb_callVi (As := [.int (xs (6 * j + 1))]) (rest := [.int r]) hA (m_M_tales l G d rv n (xs (6 * j + 1)) mm e2) cd_X12_tales wd_1665 (hc_MT_0 G.2.1 d rv mm) rfl rfl ⟨(Nat.le_of_ble_eq_true rfl), (Nat.le_of_ble_eq_true rfl)⟩ hcs rfl rfl (Nat.le_of_ble_eq_true rfl) dL_law_509 ?_
    exact ka_icmp_eq (tgt := 1695) hA dL_law_512 rfl (fun _ => kk _ ⟨a, d, rv, f, y, u, rfl, rfl, Or.inr ⟨T2, v2, K2, I2, h2, rfl⟩⟩) (fun hc => absurd rfl hc)
theorem lc_longest (h : l_C p s m args meth c G A b L xs j) (hn : big n) (hcs : cells ≤ 601024 ∧ slots ≤ 7293034) (hw : l_W G ax dm oo w) (kk : ∀ w2, l_W G ax dm oo w2 → k_GoA p l e room_1 s m args below meth c Q 7 G A cells slots w2 1695 (l_lv b ax dm oo j) []) : k_GoA p l e room_1 s m args below meth c Q 7 G A cells slots w 517 (l_lv b ax dm oo j) [] := by
  have hA := h.1
  obtain ⟨a, d, rv, f, x, mm, rfl, rfl, hcase⟩ := hw
  rcases hcase with ⟨h0, rfl⟩ | ⟨T, v, K, I, h0, rfl⟩
  · obtain ⟨r, y, u, e1, e2, h2⟩ := z_longest (n := n) h0 (xs (6 * j + 1))
    refine ka_aload_n (i := 1) hA dL_law_517 rfl 1 rfl ?_
    refine l_arg h (Nat.le_of_ble_eq_true rfl) ll_518 ?_
    refine ka_callVi (w1 := k_WN G.2.1 d rv mm) (As := [.int (xs (6 * j + 1))]) (rest := []) hA (m_X_longest l G a (.ref (a 10)) n (xs (6 * j + 1)) x e1) cd_X10_longest wd_827 (hc_X_0 G.2.1 a (.ref (a 10)) x) rfl rfl ⟨(Nat.le_of_ble_eq_true rfl), (Nat.le_of_ble_eq_true rfl)⟩ hcs rfl rfl (Nat.le_of_ble_eq_true rfl) dL_law_524 ?_
    refine ka_aload_n (i := 2) hA dL_law_527 rfl 2 rfl ?_
    refine l_arg h (Nat.le_of_ble_eq_true rfl) ll_528 ?_
    refine kb_callVi (As := [.int (xs (6 * j + 1))]) (rest := [.int r]) hA (m_M_longest_N l G d rv n (xs (6 * j + 1)) mm e2) cd_X12_longest wd_1681 (hc_MN_0 G.2.1 d rv mm) rfl rfl ⟨(Nat.le_of_ble_eq_true rfl), (Nat.le_of_ble_eq_true rfl)⟩ hcs rfl rfl (Nat.le_of_ble_eq_true rfl) dL_law_534 ?_
    exact ka_icmp_eq (tgt := 1695) hA dL_law_537 rfl (fun _ => kk _ ⟨a, d, rv, f, y, u, rfl, rfl, Or.inl ⟨h2, rfl⟩⟩) (fun hc => absurd rfl hc)
  · obtain ⟨r, y, u, e1, e2, T2, v2, K2, I2, h2⟩ := s_longest h0 hn (xs (6 * j + 1))
    refine ka_aload_n (i := 1) hA dL_law_517 rfl 1 rfl ?_
    refine l_arg h (Nat.le_of_ble_eq_true rfl) ll_518 ?_
    refine ka_callVi (w1 := k_WT G.2.1 d rv mm) (As := [.int (xs (6 * j + 1))]) (rest := []) hA (m_X_longest l G a (.ref (a 10)) n (xs (6 * j + 1)) x e1) cd_X10_longest wd_827 (hc_X_0 G.2.1 a (.ref (a 10)) x) rfl rfl ⟨(Nat.le_of_ble_eq_true rfl), (Nat.le_of_ble_eq_true rfl)⟩ hcs rfl rfl (Nat.le_of_ble_eq_true rfl) dL_law_524 ?_
    refine ka_aload_n (i := 2) hA dL_law_527 rfl 2 rfl ?_
    refine l_arg h (Nat.le_of_ble_eq_true rfl) ll_528 ?_
    refine kb_callVi (As := [.int (xs (6 * j + 1))]) (rest := [.int r]) hA (m_M_longest l G d rv n (xs (6 * j + 1)) mm e2) cd_X12_longest wd_1681 (hc_MT_0 G.2.1 d rv mm) rfl rfl ⟨(Nat.le_of_ble_eq_true rfl), (Nat.le_of_ble_eq_true rfl)⟩ hcs rfl rfl (Nat.le_of_ble_eq_true rfl) dL_law_534 ?_
    exact ka_icmp_eq (tgt := 1695) hA dL_law_537 rfl (fun _ => kk _ ⟨a, d, rv, f, y, u, rfl, rfl, Or.inr ⟨T2, v2, K2, I2, h2, rfl⟩⟩) (fun hc => absurd rfl hc)
theorem lc_longestAt (h : l_C p s m args meth c G A b L xs j) (hn : big n) (hcs : cells ≤ 601024 ∧ slots ≤ 7293034) (hw : l_W G ax dm oo w) (kk : ∀ w2, l_W G ax dm oo w2 → k_GoA p l e room_1 s m args below meth c Q 7 G A cells slots w2 1695 (l_lv b ax dm oo j) []) : k_GoA p l e room_1 s m args below meth c Q 7 G A cells slots w 542 (l_lv b ax dm oo j) [] := by
  have hA := h.1
  obtain ⟨a, d, rv, f, x, mm, rfl, rfl, hcase⟩ := hw
  rcases hcase with ⟨h0, rfl⟩ | ⟨T, v, K, I, h0, rfl⟩
  · obtain ⟨r, y, u, e1, e2, h2⟩ := z_longestAt (n := n) h0 (xs (6 * j + 1)) (xs (6 * j + 2))
    refine ka_aload_n (i := 1) hA dL_law_542 rfl 1 rfl ?_
    refine l_arg h (Nat.le_of_ble_eq_true rfl) ll_543 ?_
    refine l_arg h (Nat.le_of_ble_eq_true rfl) ll_549 ?_
    refine ka_callVi (w1 := k_WN G.2.1 d rv mm) (As := [.int (xs (6 * j + 1)), .int (xs (6 * j + 2))]) (rest := []) hA (m_X_longestAt l G a (.ref (a 10)) n (xs (6 * j + 1)) (xs (6 * j + 2)) x e1) cd_X10_longestAt wd_836 (hc_X_0 G.2.1 a (.ref (a 10)) x) rfl rfl ⟨(Nat.le_of_ble_eq_true rfl), (Nat.le_of_ble_eq_true rfl)⟩ hcs rfl rfl (Nat.le_of_ble_eq_true rfl) dL_law_555 ?_
    refine ka_aload_n (i := 2) hA dL_law_558 rfl 2 rfl ?_
    refine l_arg h (Nat.le_of_ble_eq_true rfl) ll_559 ?_
    refine l_arg h (Nat.le_of_ble_eq_true rfl) ll_565 ?_
    refine kb_callVi (As := [.int (xs (6 * j + 1)), .int (xs (6 * j + 2))]) (rest := [.int r]) hA (m_M_longestAt_N l G d rv n (xs (6 * j + 1)) (xs (6 * j + 2)) mm e2) cd_X12_longestAt wd_1689 (hc_MN_0 G.2.1 d rv mm) rfl rfl ⟨(Nat.le_of_ble_eq_true rfl), (Nat.le_of_ble_eq_true rfl)⟩ hcs rfl rfl (Nat.le_of_ble_eq_true rfl) dL_law_571 ?_
    exact ka_icmp_eq (tgt := 1695) hA dL_law_574 rfl (fun _ => kk _ ⟨a, d, rv, f, y, u, rfl, rfl, Or.inl ⟨h2, rfl⟩⟩) (fun hc => absurd rfl hc)
  · obtain ⟨r, y, u, e1, e2, T2, v2, K2, I2, h2⟩ := s_longestAt h0 hn (xs (6 * j + 1)) (xs (6 * j + 2))
    refine ka_aload_n (i := 1) hA dL_law_542 rfl 1 rfl ?_
    refine l_arg h (Nat.le_of_ble_eq_true rfl) ll_543 ?_
    refine l_arg h (Nat.le_of_ble_eq_true rfl) ll_549 ?_
    refine ka_callVi (w1 := k_WT G.2.1 d rv mm) (As := [.int (xs (6 * j + 1)), .int (xs (6 * j + 2))]) (rest := []) hA (m_X_longestAt l G a (.ref (a 10)) n (xs (6 * j + 1)) (xs (6 * j + 2)) x e1) cd_X10_longestAt wd_836 (hc_X_0 G.2.1 a (.ref (a 10)) x) rfl rfl ⟨(Nat.le_of_ble_eq_true rfl), (Nat.le_of_ble_eq_true rfl)⟩ hcs rfl rfl (Nat.le_of_ble_eq_true rfl) dL_law_555 ?_
    refine ka_aload_n (i := 2) hA dL_law_558 rfl 2 rfl ?_
    refine l_arg h (Nat.le_of_ble_eq_true rfl) ll_559 ?_
    refine l_arg h (Nat.le_of_ble_eq_true rfl) ll_565 ?_
    refine kb_callVi (As := [.int (xs (6 * j + 1)), .int (xs (6 * j + 2))]) (rest := [.int r]) hA (m_M_longestAt l G d rv n (xs (6 * j + 1)) (xs (6 * j + 2)) mm e2) cd_X12_longestAt wd_1689 (hc_MT_0 G.2.1 d rv mm) rfl rfl ⟨(Nat.le_of_ble_eq_true rfl), (Nat.le_of_ble_eq_true rfl)⟩ hcs rfl rfl (Nat.le_of_ble_eq_true rfl) dL_law_571 ?_
    exact ka_icmp_eq (tgt := 1695) hA dL_law_574 rfl (fun _ => kk _ ⟨a, d, rv, f, y, u, rfl, rfl, Or.inr ⟨T2, v2, K2, I2, h2, rfl⟩⟩) (fun hc => absurd rfl hc)
theorem lc_taleAt (h : l_C p s m args meth c G A b L xs j) (hn : big n) (hcs : cells ≤ 601024 ∧ slots ≤ 7293034) (hw : l_W G ax dm oo w) (kk : ∀ w2, l_W G ax dm oo w2 → k_GoA p l e room_1 s m args below meth c Q 7 G A cells slots w2 1695 (l_lv b ax dm oo j) []) : k_GoA p l e room_1 s m args below meth c Q 7 G A cells slots w 579 (l_lv b ax dm oo j) [] := by
  have hA := h.1
  obtain ⟨a, d, rv, f, x, mm, rfl, rfl, hcase⟩ := hw
  rcases hcase with ⟨h0, rfl⟩ | ⟨T, v, K, I, h0, rfl⟩
  · obtain ⟨r, y, u, e1, e2, h2⟩ := z_taleAt (n := n) h0 (xs (6 * j + 1)) (xs (6 * j + 2)) (xs (6 * j + 3))
    refine ka_aload_n (i := 1) hA dL_law_579 rfl 1 rfl ?_
    refine l_arg h (Nat.le_of_ble_eq_true rfl) ll_580 ?_
    refine l_arg h (Nat.le_of_ble_eq_true rfl) ll_586 ?_
    refine l_arg h (Nat.le_of_ble_eq_true rfl) ll_592 ?_
    refine ka_callVi (w1 := k_WN G.2.1 d rv mm) (As := [.int (xs (6 * j + 1)), .int (xs (6 * j + 2)), .int (xs (6 * j + 3))]) (rest := []) hA (m_X_taleAt l G a (.ref (a 10)) n (xs (6 * j + 1)) (xs (6 * j + 2)) (xs (6 * j + 3)) x e1) cd_X10_taleAt wd_845 (hc_X_0 G.2.1 a (.ref (a 10)) x) rfl rfl ⟨(Nat.le_of_ble_eq_true rfl), (Nat.le_of_ble_eq_true rfl)⟩ hcs rfl rfl (Nat.le_of_ble_eq_true rfl) dL_law_598 ?_
    refine ka_aload_n (i := 2) hA dL_law_601 rfl 2 rfl ?_
    refine l_arg h (Nat.le_of_ble_eq_true rfl) ll_602 ?_
    refine l_arg h (Nat.le_of_ble_eq_true rfl) ll_608 ?_
    refine l_arg h (Nat.le_of_ble_eq_true rfl) ll_614 ?_
    refine kb_callVi (As := [.int (xs (6 * j + 1)), .int (xs (6 * j + 2)), .int (xs (6 * j + 3))]) (rest := [.int r]) hA (m_M_taleAt_N l G d rv n (xs (6 * j + 1)) (xs (6 * j + 2)) (xs (6 * j + 3)) mm e2) cd_X12_taleAt wd_1693 (hc_MN_0 G.2.1 d rv mm) rfl rfl ⟨(Nat.le_of_ble_eq_true rfl), (Nat.le_of_ble_eq_true rfl)⟩ hcs rfl rfl (Nat.le_of_ble_eq_true rfl) dL_law_620 ?_
    exact ka_icmp_eq (tgt := 1695) hA dL_law_623 rfl (fun _ => kk _ ⟨a, d, rv, f, y, u, rfl, rfl, Or.inl ⟨h2, rfl⟩⟩) (fun hc => absurd rfl hc)
  · obtain ⟨r, y, u, e1, e2, T2, v2, K2, I2, h2⟩ := s_taleAt h0 hn (xs (6 * j + 1)) (xs (6 * j + 2)) (xs (6 * j + 3))
    refine ka_aload_n (i := 1) hA dL_law_579 rfl 1 rfl ?_
    refine l_arg h (Nat.le_of_ble_eq_true rfl) ll_580 ?_
    refine l_arg h (Nat.le_of_ble_eq_true rfl) ll_586 ?_
    refine l_arg h (Nat.le_of_ble_eq_true rfl) ll_592 ?_
    refine ka_callVi (w1 := k_WT G.2.1 d rv mm) (As := [.int (xs (6 * j + 1)), .int (xs (6 * j + 2)), .int (xs (6 * j + 3))]) (rest := []) hA (m_X_taleAt l G a (.ref (a 10)) n (xs (6 * j + 1)) (xs (6 * j + 2)) (xs (6 * j + 3)) x e1) cd_X10_taleAt wd_845 (hc_X_0 G.2.1 a (.ref (a 10)) x) rfl rfl ⟨(Nat.le_of_ble_eq_true rfl), (Nat.le_of_ble_eq_true rfl)⟩ hcs rfl rfl (Nat.le_of_ble_eq_true rfl) dL_law_598 ?_
    refine ka_aload_n (i := 2) hA dL_law_601 rfl 2 rfl ?_
    refine l_arg h (Nat.le_of_ble_eq_true rfl) ll_602 ?_
    refine l_arg h (Nat.le_of_ble_eq_true rfl) ll_608 ?_
    refine l_arg h (Nat.le_of_ble_eq_true rfl) ll_614 ?_
    refine kb_callVi (As := [.int (xs (6 * j + 1)), .int (xs (6 * j + 2)), .int (xs (6 * j + 3))]) (rest := [.int r]) hA (m_M_taleAt l G d rv n (xs (6 * j + 1)) (xs (6 * j + 2)) (xs (6 * j + 3)) mm e2) cd_X12_taleAt wd_1693 (hc_MT_0 G.2.1 d rv mm) rfl rfl ⟨(Nat.le_of_ble_eq_true rfl), (Nat.le_of_ble_eq_true rfl)⟩ hcs rfl rfl (Nat.le_of_ble_eq_true rfl) dL_law_620 ?_
    exact ka_icmp_eq (tgt := 1695) hA dL_law_623 rfl (fun _ => kk _ ⟨a, d, rv, f, y, u, rfl, rfl, Or.inr ⟨T2, v2, K2, I2, h2, rfl⟩⟩) (fun hc => absurd rfl hc)
theorem lc_used (h : l_C p s m args meth c G A b L xs j) (hn : big n) (hcs : cells ≤ 601024 ∧ slots ≤ 7293034) (hw : l_W G ax dm oo w) (kk : ∀ w2, l_W G ax dm oo w2 → k_GoA p l e room_1 s m args below meth c Q 7 G A cells slots w2 1695 (l_lv b ax dm oo j) []) : k_GoA p l e room_1 s m args below meth c Q 7 G A cells slots w 628 (l_lv b ax dm oo j) [] := by
  have hA := h.1
  obtain ⟨a, d, rv, f, x, mm, rfl, rfl, hcase⟩ := hw
  rcases hcase with ⟨h0, rfl⟩ | ⟨T, v, K, I, h0, rfl⟩
  · obtain ⟨r, y, u, e1, e2, h2⟩ := z_used (n := n) h0 (xs (6 * j + 1))
    refine ka_aload_n (i := 1) hA dL_law_628 rfl 1 rfl ?_
    refine l_arg h (Nat.le_of_ble_eq_true rfl) ll_629 ?_
    refine ka_callVi (w1 := k_WN G.2.1 d rv mm) (As := [.int (xs (6 * j + 1))]) (rest := []) hA (m_X_used l G a (.ref (a 10)) n (xs (6 * j + 1)) x e1) cd_X10_used wd_850 (hc_X_0 G.2.1 a (.ref (a 10)) x) rfl rfl ⟨(Nat.le_of_ble_eq_true rfl), (Nat.le_of_ble_eq_true rfl)⟩ hcs rfl rfl (Nat.le_of_ble_eq_true rfl) dL_law_635 ?_
    refine ka_aload_n (i := 2) hA dL_law_638 rfl 2 rfl ?_
    refine l_arg h (Nat.le_of_ble_eq_true rfl) ll_639 ?_
    refine kb_callVi (As := [.int (xs (6 * j + 1))]) (rest := [.int r]) hA (m_M_used_N l G d rv n (xs (6 * j + 1)) mm e2) cd_X12_used wd_1697 (hc_MN_0 G.2.1 d rv mm) rfl rfl ⟨(Nat.le_of_ble_eq_true rfl), (Nat.le_of_ble_eq_true rfl)⟩ hcs rfl rfl (Nat.le_of_ble_eq_true rfl) dL_law_645 ?_
    exact ka_icmp_eq (tgt := 1695) hA dL_law_648 rfl (fun _ => kk _ ⟨a, d, rv, f, y, u, rfl, rfl, Or.inl ⟨h2, rfl⟩⟩) (fun hc => absurd rfl hc)
  · obtain ⟨r, y, u, e1, e2, T2, v2, K2, I2, h2⟩ := s_used h0 hn (xs (6 * j + 1))
    refine ka_aload_n (i := 1) hA dL_law_628 rfl 1 rfl ?_
    refine l_arg h (Nat.le_of_ble_eq_true rfl) ll_629 ?_
    refine ka_callVi (w1 := k_WT G.2.1 d rv mm) (As := [.int (xs (6 * j + 1))]) (rest := []) hA (m_X_used l G a (.ref (a 10)) n (xs (6 * j + 1)) x e1) cd_X10_used wd_850 (hc_X_0 G.2.1 a (.ref (a 10)) x) rfl rfl ⟨(Nat.le_of_ble_eq_true rfl), (Nat.le_of_ble_eq_true rfl)⟩ hcs rfl rfl (Nat.le_of_ble_eq_true rfl) dL_law_635 ?_
    refine ka_aload_n (i := 2) hA dL_law_638 rfl 2 rfl ?_
    refine l_arg h (Nat.le_of_ble_eq_true rfl) ll_639 ?_
    refine kb_callVi (As := [.int (xs (6 * j + 1))]) (rest := [.int r]) hA (m_M_used l G d rv n (xs (6 * j + 1)) mm e2) cd_X12_used wd_1697 (hc_MT_0 G.2.1 d rv mm) rfl rfl ⟨(Nat.le_of_ble_eq_true rfl), (Nat.le_of_ble_eq_true rfl)⟩ hcs rfl rfl (Nat.le_of_ble_eq_true rfl) dL_law_645 ?_
    exact ka_icmp_eq (tgt := 1695) hA dL_law_648 rfl (fun _ => kk _ ⟨a, d, rv, f, y, u, rfl, rfl, Or.inr ⟨T2, v2, K2, I2, h2, rfl⟩⟩) (fun hc => absurd rfl hc)
theorem lc_needed (h : l_C p s m args meth c G A b L xs j) (hn : big n) (hcs : cells ≤ 601024 ∧ slots ≤ 7293034) (hw : l_W G ax dm oo w) (kk : ∀ w2, l_W G ax dm oo w2 → k_GoA p l e room_1 s m args below meth c Q 7 G A cells slots w2 1695 (l_lv b ax dm oo j) []) : k_GoA p l e room_1 s m args below meth c Q 7 G A cells slots w 653 (l_lv b ax dm oo j) [] := by
  have hA := h.1
  obtain ⟨a, d, rv, f, x, mm, rfl, rfl, hcase⟩ := hw
  rcases hcase with ⟨h0, rfl⟩ | ⟨T, v, K, I, h0, rfl⟩
  · obtain ⟨r, y, u, e1, e2, h2⟩ := z_needed (n := n) h0 (xs (6 * j + 1))
    refine ka_aload_n (i := 1) hA dL_law_653 rfl 1 rfl ?_
    refine l_arg h (Nat.le_of_ble_eq_true rfl) ll_654 ?_
    refine ka_callVi (w1 := k_WN G.2.1 d rv mm) (As := [.int (xs (6 * j + 1))]) (rest := []) hA (m_X_needed l G a (.ref (a 10)) n (xs (6 * j + 1)) x e1) cd_X10_needed wd_858 (hc_X_0 G.2.1 a (.ref (a 10)) x) rfl rfl ⟨(Nat.le_of_ble_eq_true rfl), (Nat.le_of_ble_eq_true rfl)⟩ hcs rfl rfl (Nat.le_of_ble_eq_true rfl) dL_law_660 ?_
    refine ka_aload_n (i := 2) hA dL_law_663 rfl 2 rfl ?_
    refine l_arg h (Nat.le_of_ble_eq_true rfl) ll_664 ?_
    refine kb_callVi (As := [.int (xs (6 * j + 1))]) (rest := [.int r]) hA (m_M_needed_N l G d rv n (xs (6 * j + 1)) mm e2) cd_X12_needed wd_1701 (hc_MN_0 G.2.1 d rv mm) rfl rfl ⟨(Nat.le_of_ble_eq_true rfl), (Nat.le_of_ble_eq_true rfl)⟩ hcs rfl rfl (Nat.le_of_ble_eq_true rfl) dL_law_670 ?_
    exact ka_icmp_eq (tgt := 1695) hA dL_law_673 rfl (fun _ => kk _ ⟨a, d, rv, f, y, u, rfl, rfl, Or.inl ⟨h2, rfl⟩⟩) (fun hc => absurd rfl hc)
  · obtain ⟨r, y, u, e1, e2, T2, v2, K2, I2, h2⟩ := s_needed h0 hn (xs (6 * j + 1))
    refine ka_aload_n (i := 1) hA dL_law_653 rfl 1 rfl ?_
    refine l_arg h (Nat.le_of_ble_eq_true rfl) ll_654 ?_
    refine ka_callVi (w1 := k_WT G.2.1 d rv mm) (As := [.int (xs (6 * j + 1))]) (rest := []) hA (m_X_needed l G a (.ref (a 10)) n (xs (6 * j + 1)) x e1) cd_X10_needed wd_858 (hc_X_0 G.2.1 a (.ref (a 10)) x) rfl rfl ⟨(Nat.le_of_ble_eq_true rfl), (Nat.le_of_ble_eq_true rfl)⟩ hcs rfl rfl (Nat.le_of_ble_eq_true rfl) dL_law_660 ?_
    refine ka_aload_n (i := 2) hA dL_law_663 rfl 2 rfl ?_
    refine l_arg h (Nat.le_of_ble_eq_true rfl) ll_664 ?_
    refine kb_callVi (As := [.int (xs (6 * j + 1))]) (rest := [.int r]) hA (m_M_needed l G d rv n (xs (6 * j + 1)) mm e2) cd_X12_needed wd_1701 (hc_MT_0 G.2.1 d rv mm) rfl rfl ⟨(Nat.le_of_ble_eq_true rfl), (Nat.le_of_ble_eq_true rfl)⟩ hcs rfl rfl (Nat.le_of_ble_eq_true rfl) dL_law_670 ?_
    exact ka_icmp_eq (tgt := 1695) hA dL_law_673 rfl (fun _ => kk _ ⟨a, d, rv, f, y, u, rfl, rfl, Or.inr ⟨T2, v2, K2, I2, h2, rfl⟩⟩) (fun hc => absurd rfl hc)
theorem lc_leftOver (h : l_C p s m args meth c G A b L xs j) (hn : big n) (hcs : cells ≤ 601024 ∧ slots ≤ 7293034) (hw : l_W G ax dm oo w) (kk : ∀ w2, l_W G ax dm oo w2 → k_GoA p l e room_1 s m args below meth c Q 7 G A cells slots w2 1695 (l_lv b ax dm oo j) []) : k_GoA p l e room_1 s m args below meth c Q 7 G A cells slots w 678 (l_lv b ax dm oo j) [] := by
  have hA := h.1
  obtain ⟨a, d, rv, f, x, mm, rfl, rfl, hcase⟩ := hw
  rcases hcase with ⟨h0, rfl⟩ | ⟨T, v, K, I, h0, rfl⟩
  · obtain ⟨r, y, u, e1, e2, h2⟩ := z_leftOver (n := n) h0 (xs (6 * j + 1))
    refine ka_aload_n (i := 1) hA dL_law_678 rfl 1 rfl ?_
    refine l_arg h (Nat.le_of_ble_eq_true rfl) ll_679 ?_
    refine ka_callVi (w1 := k_WN G.2.1 d rv mm) (As := [.int (xs (6 * j + 1))]) (rest := []) hA (m_X_leftOver l G a (.ref (a 10)) n (xs (6 * j + 1)) x e1) cd_X10_leftOver wd_867 (hc_X_0 G.2.1 a (.ref (a 10)) x) rfl rfl ⟨(Nat.le_of_ble_eq_true rfl), (Nat.le_of_ble_eq_true rfl)⟩ hcs rfl rfl (Nat.le_of_ble_eq_true rfl) dL_law_685 ?_
    refine ka_aload_n (i := 2) hA dL_law_688 rfl 2 rfl ?_
    refine l_arg h (Nat.le_of_ble_eq_true rfl) ll_689 ?_
    refine kb_callVi (As := [.int (xs (6 * j + 1))]) (rest := [.int r]) hA (m_M_leftOver_N l G d rv n (xs (6 * j + 1)) mm e2) cd_X12_leftOver wd_1705 (hc_MN_0 G.2.1 d rv mm) rfl rfl ⟨(Nat.le_of_ble_eq_true rfl), (Nat.le_of_ble_eq_true rfl)⟩ hcs rfl rfl (Nat.le_of_ble_eq_true rfl) dL_law_695 ?_
    exact ka_icmp_eq (tgt := 1695) hA dL_law_698 rfl (fun _ => kk _ ⟨a, d, rv, f, y, u, rfl, rfl, Or.inl ⟨h2, rfl⟩⟩) (fun hc => absurd rfl hc)
  · obtain ⟨r, y, u, e1, e2, T2, v2, K2, I2, h2⟩ := s_leftOver h0 hn (xs (6 * j + 1))
    refine ka_aload_n (i := 1) hA dL_law_678 rfl 1 rfl ?_
    refine l_arg h (Nat.le_of_ble_eq_true rfl) ll_679 ?_
    refine ka_callVi (w1 := k_WT G.2.1 d rv mm) (As := [.int (xs (6 * j + 1))]) (rest := []) hA (m_X_leftOver l G a (.ref (a 10)) n (xs (6 * j + 1)) x e1) cd_X10_leftOver wd_867 (hc_X_0 G.2.1 a (.ref (a 10)) x) rfl rfl ⟨(Nat.le_of_ble_eq_true rfl), (Nat.le_of_ble_eq_true rfl)⟩ hcs rfl rfl (Nat.le_of_ble_eq_true rfl) dL_law_685 ?_
    refine ka_aload_n (i := 2) hA dL_law_688 rfl 2 rfl ?_
    refine l_arg h (Nat.le_of_ble_eq_true rfl) ll_689 ?_
    refine kb_callVi (As := [.int (xs (6 * j + 1))]) (rest := [.int r]) hA (m_M_leftOver l G d rv n (xs (6 * j + 1)) mm e2) cd_X12_leftOver wd_1705 (hc_MT_0 G.2.1 d rv mm) rfl rfl ⟨(Nat.le_of_ble_eq_true rfl), (Nat.le_of_ble_eq_true rfl)⟩ hcs rfl rfl (Nat.le_of_ble_eq_true rfl) dL_law_695 ?_
    exact ka_icmp_eq (tgt := 1695) hA dL_law_698 rfl (fun _ => kk _ ⟨a, d, rv, f, y, u, rfl, rfl, Or.inr ⟨T2, v2, K2, I2, h2, rfl⟩⟩) (fun hc => absurd rfl hc)
theorem lc_isTale (h : l_C p s m args meth c G A b L xs j) (hn : big n) (hcs : cells ≤ 601024 ∧ slots ≤ 7293034) (hw : l_W G ax dm oo w) (kk : ∀ w2, l_W G ax dm oo w2 → k_GoA p l e room_1 s m args below meth c Q 7 G A cells slots w2 1695 (l_lv b ax dm oo j) []) : k_GoA p l e room_1 s m args below meth c Q 7 G A cells slots w 703 (l_lv b ax dm oo j) [] := by
  have hA := h.1
  obtain ⟨a, d, rv, f, x, mm, rfl, rfl, hcase⟩ := hw
  rcases hcase with ⟨h0, rfl⟩ | ⟨T, v, K, I, h0, rfl⟩
  · obtain ⟨r, y, u, e1, e2, h2⟩ := z_isTale (n := n) h0 (xs (6 * j + 1))
    refine ka_aload_n (i := 1) hA dL_law_703 rfl 1 rfl ?_
    refine l_arg h (Nat.le_of_ble_eq_true rfl) ll_704 ?_
    refine ka_callVi (w1 := k_WN G.2.1 d rv mm) (As := [.int (xs (6 * j + 1))]) (rest := []) hA (m_X_isTale l G a (.ref (a 10)) n (xs (6 * j + 1)) x e1) cd_X10_isTale wd_872 (hc_X_0 G.2.1 a (.ref (a 10)) x) rfl rfl ⟨(Nat.le_of_ble_eq_true rfl), (Nat.le_of_ble_eq_true rfl)⟩ hcs rfl rfl (Nat.le_of_ble_eq_true rfl) dL_law_710 ?_
    refine ka_aload_n (i := 2) hA dL_law_713 rfl 2 rfl ?_
    refine l_arg h (Nat.le_of_ble_eq_true rfl) ll_714 ?_
    refine kb_callVi (As := [.int (xs (6 * j + 1))]) (rest := [.int r]) hA (m_M_isTale_N l G d rv (xs (6 * j + 1)) mm (Option.some.inj e2)) cd_X12_isTale wd_1712 (hc_MN_0 G.2.1 d rv mm) rfl rfl ⟨(Nat.le_of_ble_eq_true rfl), (Nat.le_of_ble_eq_true rfl)⟩ hcs rfl rfl (Nat.le_of_ble_eq_true rfl) dL_law_720 ?_
    exact ka_icmp_eq (tgt := 1695) hA dL_law_723 rfl (fun _ => kk _ ⟨a, d, rv, f, y, u, rfl, rfl, Or.inl ⟨h2, rfl⟩⟩) (fun hc => absurd rfl hc)
  · obtain ⟨r, y, u, e1, e2, T2, v2, K2, I2, h2⟩ := s_isTale h0 hn (xs (6 * j + 1))
    refine ka_aload_n (i := 1) hA dL_law_703 rfl 1 rfl ?_
    refine l_arg h (Nat.le_of_ble_eq_true rfl) ll_704 ?_
    refine ka_callVi (w1 := k_WT G.2.1 d rv mm) (As := [.int (xs (6 * j + 1))]) (rest := []) hA (m_X_isTale l G a (.ref (a 10)) n (xs (6 * j + 1)) x e1) cd_X10_isTale wd_872 (hc_X_0 G.2.1 a (.ref (a 10)) x) rfl rfl ⟨(Nat.le_of_ble_eq_true rfl), (Nat.le_of_ble_eq_true rfl)⟩ hcs rfl rfl (Nat.le_of_ble_eq_true rfl) dL_law_710 ?_
    refine ka_aload_n (i := 2) hA dL_law_713 rfl 2 rfl ?_
    refine l_arg h (Nat.le_of_ble_eq_true rfl) ll_714 ?_
    refine kb_callVi (As := [.int (xs (6 * j + 1))]) (rest := [.int r]) hA (m_M_isTale l G d rv n (xs (6 * j + 1)) mm e2) cd_X12_isTale wd_1712 (hc_MT_0 G.2.1 d rv mm) rfl rfl ⟨(Nat.le_of_ble_eq_true rfl), (Nat.le_of_ble_eq_true rfl)⟩ hcs rfl rfl (Nat.le_of_ble_eq_true rfl) dL_law_720 ?_
    exact ka_icmp_eq (tgt := 1695) hA dL_law_723 rfl (fun _ => kk _ ⟨a, d, rv, f, y, u, rfl, rfl, Or.inr ⟨T2, v2, K2, I2, h2, rfl⟩⟩) (fun hc => absurd rfl hc)
theorem lc_talesOf (h : l_C p s m args meth c G A b L xs j) (hn : big n) (hcs : cells ≤ 601024 ∧ slots ≤ 7293034) (hw : l_W G ax dm oo w) (kk : ∀ w2, l_W G ax dm oo w2 → k_GoA p l e room_1 s m args below meth c Q 7 G A cells slots w2 1695 (l_lv b ax dm oo j) []) : k_GoA p l e room_1 s m args below meth c Q 7 G A cells slots w 728 (l_lv b ax dm oo j) [] := by
  have hA := h.1
  obtain ⟨a, d, rv, f, x, mm, rfl, rfl, hcase⟩ := hw
  rcases hcase with ⟨h0, rfl⟩ | ⟨T, v, K, I, h0, rfl⟩
  · obtain ⟨r, y, u, e1, e2, h2⟩ := z_talesOf (n := n) h0 (xs (6 * j + 1))
    refine ka_aload_n (i := 1) hA dL_law_728 rfl 1 rfl ?_
    refine l_arg h (Nat.le_of_ble_eq_true rfl) ll_729 ?_
    refine ka_callVi (w1 := k_WN G.2.1 d rv mm) (As := [.int (xs (6 * j + 1))]) (rest := []) hA (m_X_talesOf l G a (.ref (a 10)) n (xs (6 * j + 1)) x e1) cd_X10_talesOf wd_880 (hc_X_0 G.2.1 a (.ref (a 10)) x) rfl rfl ⟨(Nat.le_of_ble_eq_true rfl), (Nat.le_of_ble_eq_true rfl)⟩ hcs rfl rfl (Nat.le_of_ble_eq_true rfl) dL_law_735 ?_
    refine ka_aload_n (i := 2) hA dL_law_738 rfl 2 rfl ?_
    refine l_arg h (Nat.le_of_ble_eq_true rfl) ll_739 ?_
    refine kb_callVi (As := [.int (xs (6 * j + 1))]) (rest := [.int r]) hA (m_M_talesOf_N l G d rv n (xs (6 * j + 1)) mm e2) cd_X12_talesOf wd_1720 (hc_MN_0 G.2.1 d rv mm) rfl rfl ⟨(Nat.le_of_ble_eq_true rfl), (Nat.le_of_ble_eq_true rfl)⟩ hcs rfl rfl (Nat.le_of_ble_eq_true rfl) dL_law_745 ?_
    exact ka_icmp_eq (tgt := 1695) hA dL_law_748 rfl (fun _ => kk _ ⟨a, d, rv, f, y, u, rfl, rfl, Or.inl ⟨h2, rfl⟩⟩) (fun hc => absurd rfl hc)
  · obtain ⟨r, y, u, e1, e2, T2, v2, K2, I2, h2⟩ := s_talesOf h0 hn (xs (6 * j + 1))
    refine ka_aload_n (i := 1) hA dL_law_728 rfl 1 rfl ?_
    refine l_arg h (Nat.le_of_ble_eq_true rfl) ll_729 ?_
    refine ka_callVi (w1 := k_WT G.2.1 d rv mm) (As := [.int (xs (6 * j + 1))]) (rest := []) hA (m_X_talesOf l G a (.ref (a 10)) n (xs (6 * j + 1)) x e1) cd_X10_talesOf wd_880 (hc_X_0 G.2.1 a (.ref (a 10)) x) rfl rfl ⟨(Nat.le_of_ble_eq_true rfl), (Nat.le_of_ble_eq_true rfl)⟩ hcs rfl rfl (Nat.le_of_ble_eq_true rfl) dL_law_735 ?_
    refine ka_aload_n (i := 2) hA dL_law_738 rfl 2 rfl ?_
    refine l_arg h (Nat.le_of_ble_eq_true rfl) ll_739 ?_
    refine kb_callVi (As := [.int (xs (6 * j + 1))]) (rest := [.int r]) hA (m_M_talesOf l G d rv n (xs (6 * j + 1)) mm e2) cd_X12_talesOf wd_1720 (hc_MT_0 G.2.1 d rv mm) rfl rfl ⟨(Nat.le_of_ble_eq_true rfl), (Nat.le_of_ble_eq_true rfl)⟩ hcs rfl rfl (Nat.le_of_ble_eq_true rfl) dL_law_745 ?_
    exact ka_icmp_eq (tgt := 1695) hA dL_law_748 rfl (fun _ => kk _ ⟨a, d, rv, f, y, u, rfl, rfl, Or.inr ⟨T2, v2, K2, I2, h2, rfl⟩⟩) (fun hc => absurd rfl hc)
end LCS
