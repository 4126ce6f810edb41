/-! ===== the law: terrace and led ===== -/
theorem wd_476 : Cond.methodLink "TaleSharesLaw" 24 yX10_terrace ∈ k_TB := k_tb 476 (by decide +kernel) rfl
theorem wd_1386 : Cond.methodLink "TaleSharesLaw" 27 yX12_terrace ∈ k_TB := k_tb 1386 (by decide +kernel) rfl
theorem wd_1979 : Cond.methodLink "TaleSharesLaw" 222 yX12_led ∈ k_TB := k_tb 1979 (by decide +kernel) rfl
theorem wd_1378 : Cond.methodLink "TaleSharesLaw" 223 yX12_thrown ∈ k_TB := k_tb 1378 (by decide +kernel) rfl
theorem cd_X10_terrace : k_cardV yX10_terrace cX10_terrace 2 (some .int) 1 := ⟨k_tb 479 (by decide +kernel) rfl, k_tb 477 (by decide +kernel) rfl, k_tb 478 (by decide +kernel) rfl, k_tb 119 (by decide +kernel) rfl, by decide +kernel, by decide +kernel, by decide +kernel, Nat.le_of_ble_eq_true rfl⟩
theorem cd_X12_terrace : k_cardV yX12_terrace cX12_terrace 3 (some .int) 1 := ⟨k_tb 1389 (by decide +kernel) rfl, k_tb 1387 (by decide +kernel) rfl, k_tb 1388 (by decide +kernel) rfl, k_tb 128 (by decide +kernel) rfl, by decide +kernel, by decide +kernel, by decide +kernel, Nat.le_of_ble_eq_true rfl⟩
theorem cd_X12_led : k_cardV yX12_led cX12_led 4 (some .int) 1 := ⟨k_tb 1982 (by decide +kernel) rfl, k_tb 1980 (by decide +kernel) rfl, k_tb 1981 (by decide +kernel) rfl, k_tb 128 (by decide +kernel) rfl, by decide +kernel, by decide +kernel, by decide +kernel, Nat.le_of_ble_eq_true rfl⟩
theorem cd_X12_thrown : k_cardV yX12_thrown cX12_thrown 1 (some .int) 0 := ⟨k_tb 1381 (by decide +kernel) rfl, k_tb 1379 (by decide +kernel) rfl, k_tb 1380 (by decide +kernel) rfl, k_tb 128 (by decide +kernel) rfl, by decide +kernel, by decide +kernel, by decide +kernel, Nat.le_of_ble_eq_true rfl⟩
section LCT
variable {cells slots : Nat} {p : Program} {l : Launch} {e : Env} {s : State} {m : MethodId} {args : Array Value} {below : List Frame} {meth : Method} {c : Code} {Q : State → Prop} {G : k_G} {A : Nat → Prop} {w : va_W} {b L j ax dm oo n : Nat} {xs : Nat → Int32}
theorem lc_terrace (h : l_C p s m args meth c G A b L xs j) (hn : big n) (hcs : cells + 11 ≤ 601024 ∧ slots + 100 ≤ 7293034) (hw : l_W G ax dm oo w) (kk : ∀ w2, l_W G ax dm oo w2 → k_GoA p l e room_1 s m args below meth c Q 7 G A (cells + 11) (slots + 100) w2 1695 (l_lv b ax dm oo j) []) : k_GoA p l e room_1 s m args below meth c Q 7 G A cells slots w 329 (l_lv b ax dm oo j) [] := by
  have hA := h.1
  have hcs0 : cells ≤ 601024 ∧ slots ≤ 7293034 := ⟨by omega, by omega⟩
  obtain ⟨a, d, rv, f, x, mm, rfl, rfl, hcase⟩ := hw
  have hC : CR x mm := by
    rcases hcase with ⟨h0, -⟩ | ⟨T, v, K, I, h0, -⟩
    · exact h0.2.2.2.2.2
    · exact h0.2.2.2.2
  rcases terr_cases hC hn (xs (6 * j + 1)) with ⟨c1, c2⟩ | ⟨n1, n2, n3, ⟨x2, t3, m2, e1, e2, e3, e4, hk⟩ | ⟨x2, t3, m2, t3q, t4, t5, t6, t7, T2, u2, e1, e2, e3, e4, e5, e6, e7, e8, e9, e10, hR⟩⟩
  · rcases hcase with ⟨h0, rfl⟩ | ⟨T, v, K, I, h0, rfl⟩
    ·
      refine ka_aload_n (i := 1) hA dL_law_329 rfl 1 rfl ?_
      refine l_arg h (Nat.le_of_ble_eq_true rfl) ll_330 ?_
      refine ka_callVi (w1 := k_WN G.2.1 d rv mm) (As := [.int (xs (6 * j + 1))]) (rest := []) hA (m_X_terrace_no l G a (.ref (a 10)) n (xs (6 * j + 1)) x c1) cd_X10_terrace wd_476 (hc_X_0 G.2.1 a (.ref (a 10)) x) rfl rfl ⟨(Nat.le_of_ble_eq_true rfl), (Nat.le_of_ble_eq_true rfl)⟩ hcs0 rfl rfl (Nat.le_of_ble_eq_true rfl) dL_law_336 ?_
      refine ka_aload_n (i := 2) hA dL_law_339 rfl 2 rfl ?_
      refine l_arg h (Nat.le_of_ble_eq_true rfl) ll_340 ?_
      rw [k_WN_B]
      refine kb_callMi (rm := rm_Mt) (As := [.int (xs (6 * j + 1))]) (rest := [.int (-1)]) hA (m_M_terrace_no l G d .null rv n (xs (6 * j + 1)) mm c2) cd_X12_terrace wd_1386 (hc_MB_0 G.2.1 d .null rv mm) rfl rfl ⟨(Nat.le_of_ble_eq_true rfl), (Nat.le_of_ble_eq_true rfl)⟩ hcs rfl rfl (Nat.le_of_ble_eq_true rfl) dL_law_346 ?_
      rintro r u ⟨rfl, rfl⟩
      exact ka_icmp_eq (tgt := 1695) hA dL_law_349 rfl (fun _ => kk _ ⟨a, d, rv, f, _, _, rfl, rfl, Or.inl ⟨h0.kp (terr_no hC), by rw [k_WN_B]⟩⟩) (fun hc => absurd rfl hc)
    ·
      refine ka_aload_n (i := 1) hA dL_law_329 rfl 1 rfl ?_
      refine l_arg h (Nat.le_of_ble_eq_true rfl) ll_330 ?_
      refine ka_callVi (w1 := k_WT G.2.1 d rv mm) (As := [.int (xs (6 * j + 1))]) (rest := []) hA (m_X_terrace_no l G a (.ref (a 10)) n (xs (6 * j + 1)) x c1) cd_X10_terrace wd_476 (hc_X_0 G.2.1 a (.ref (a 10)) x) rfl rfl ⟨(Nat.le_of_ble_eq_true rfl), (Nat.le_of_ble_eq_true rfl)⟩ hcs0 rfl rfl (Nat.le_of_ble_eq_true rfl) dL_law_336 ?_
      refine ka_aload_n (i := 2) hA dL_law_339 rfl 2 rfl ?_
      refine l_arg h (Nat.le_of_ble_eq_true rfl) ll_340 ?_
      rw [k_WT_B, List.append_assoc]
      refine kb_callMi (rm := rm_Mt) (As := [.int (xs (6 * j + 1))]) (rest := [.int (-1)]) hA (m_M_terrace_no l G d (.ref (d 18)) rv n (xs (6 * j + 1)) mm c2) cd_X12_terrace wd_1386 (hc_MB_0 G.2.1 d (.ref (d 18)) rv mm) rfl rfl ⟨(Nat.le_of_ble_eq_true rfl), (Nat.le_of_ble_eq_true rfl)⟩ hcs rfl rfl (Nat.le_of_ble_eq_true rfl) dL_law_346 ?_
      rintro r u ⟨rfl, rfl⟩
      exact ka_icmp_eq (tgt := 1695) hA dL_law_349 rfl (fun _ => kk _ ⟨a, d, rv, f, _, _, rfl, rfl, Or.inr ⟨T, v, K, I, h0.kp (terr_no hC), by rw [k_WT_mix, List.append_assoc]⟩⟩) (fun hc => absurd rfl hc)
  · rcases hcase with ⟨h0, rfl⟩ | ⟨T, v, K, I, h0, rfl⟩
    ·
      refine ka_aload_n (i := 1) hA dL_law_329 rfl 1 rfl ?_
      refine l_arg h (Nat.le_of_ble_eq_true rfl) ll_330 ?_
      refine ka_callVi (w1 := k_WN G.2.1 d rv mm) (As := [.int (xs (6 * j + 1))]) (rest := []) hA (m_X_terrace_bad l G a n (xs (6 * j + 1)) x n1 n2 e1) cd_X10_terrace wd_476 (hc_X_0 G.2.1 a (.ref (a 10)) x) rfl rfl ⟨(Nat.le_of_ble_eq_true rfl), (Nat.le_of_ble_eq_true rfl)⟩ hcs0 rfl rfl (Nat.le_of_ble_eq_true rfl) dL_law_336 ?_
      refine ka_aload_n (i := 2) hA dL_law_339 rfl 2 rfl ?_
      refine l_arg h (Nat.le_of_ble_eq_true rfl) ll_340 ?_
      rw [k_WN_B]
      refine kb_callMi (rm := rm_Mt) (As := [.int (xs (6 * j + 1))]) (rest := [.int (-1)]) hA (m_M_terrace_bad l G d .null rv n (xs (6 * j + 1)) mm n1 n3 e2 e3 e4) cd_X12_terrace wd_1386 (hc_MB_0 G.2.1 d .null rv mm) rfl rfl ⟨(Nat.le_of_ble_eq_true rfl), (Nat.le_of_ble_eq_true rfl)⟩ hcs rfl rfl (Nat.le_of_ble_eq_true rfl) dL_law_346 ?_
      rintro r u ⟨rfl, q, rfl⟩
      exact ka_icmp_eq (tgt := 1695) hA dL_law_349 rfl (fun _ => kk _ ⟨a, d, .ref q, f, txb x2, tmb m2, rfl, rfl, Or.inl ⟨h0.kp hk, by rw [k_WN_B]; rfl⟩⟩) (fun hc => absurd rfl hc)
    ·
      refine ka_aload_n (i := 1) hA dL_law_329 rfl 1 rfl ?_
      refine l_arg h (Nat.le_of_ble_eq_true rfl) ll_330 ?_
      refine ka_callVi (w1 := k_WT G.2.1 d rv mm) (As := [.int (xs (6 * j + 1))]) (rest := []) hA (m_X_terrace_bad l G a n (xs (6 * j + 1)) x n1 n2 e1) cd_X10_terrace wd_476 (hc_X_0 G.2.1 a (.ref (a 10)) x) rfl rfl ⟨(Nat.le_of_ble_eq_true rfl), (Nat.le_of_ble_eq_true rfl)⟩ hcs0 rfl rfl (Nat.le_of_ble_eq_true rfl) dL_law_336 ?_
      refine ka_aload_n (i := 2) hA dL_law_339 rfl 2 rfl ?_
      refine l_arg h (Nat.le_of_ble_eq_true rfl) ll_340 ?_
      rw [k_WT_B, List.append_assoc]
      refine kb_callMi (rm := rm_Mt) (As := [.int (xs (6 * j + 1))]) (rest := [.int (-1)]) hA (m_M_terrace_bad l G d (.ref (d 18)) rv n (xs (6 * j + 1)) mm n1 n3 e2 e3 e4) cd_X12_terrace wd_1386 (hc_MB_0 G.2.1 d (.ref (d 18)) rv mm) rfl rfl ⟨(Nat.le_of_ble_eq_true rfl), (Nat.le_of_ble_eq_true rfl)⟩ hcs rfl rfl (Nat.le_of_ble_eq_true rfl) dL_law_346 ?_
      rintro r u ⟨rfl, q, rfl⟩
      exact ka_icmp_eq (tgt := 1695) hA dL_law_349 rfl (fun _ => kk _ ⟨a, d, .ref q, f, txb x2, mix mm (tmb m2), rfl, rfl, Or.inr ⟨T, v, K, I, h0.kp hk, by rw [k_WT_mix, List.append_assoc]; rfl⟩⟩) (fun hc => absurd rfl hc)
  · rcases hcase with ⟨h0, rfl⟩ | ⟨T, v, K, I, h0, rfl⟩
    ·
      refine ka_aload_n (i := 1) hA dL_law_329 rfl 1 rfl ?_
      refine l_arg h (Nat.le_of_ble_eq_true rfl) ll_330 ?_
      refine ka_callVi (w1 := k_WN G.2.1 d rv mm) (As := [.int (xs (6 * j + 1))]) (rest := []) hA (m_X_terrace_ok l G a n (xs (6 * j + 1)) x n1 n2 e1 e5 e6 e7 e8 e9) cd_X10_terrace wd_476 (hc_X_0 G.2.1 a (.ref (a 10)) x) rfl rfl ⟨(Nat.le_of_ble_eq_true rfl), (Nat.le_of_ble_eq_true rfl)⟩ hcs0 rfl rfl (Nat.le_of_ble_eq_true rfl) dL_law_336 ?_
      refine ka_aload_n (i := 2) hA dL_law_339 rfl 2 rfl ?_
      refine l_arg h (Nat.le_of_ble_eq_true rfl) ll_340 ?_
      rw [k_WN_B]
      refine kb_callMi (rm := rm_Mt) (As := [.int (xs (6 * j + 1))]) (rest := [.int (t7.1 2 2)]) hA (m_M_terrace_ok l G d .null rv n (xs (6 * j + 1)) mm n1 n3 e2 e3 e4 e10) cd_X12_terrace wd_1386 (hc_MB_0 G.2.1 d .null rv mm) rfl rfl ⟨(Nat.le_of_ble_eq_true rfl), (Nat.le_of_ble_eq_true rfl)⟩ hcs rfl rfl (Nat.le_of_ble_eq_true rfl) dL_law_346 ?_
      rintro r u ⟨rfl, b2, hb2, rfl⟩
      exact ka_icmp_eq (tgt := 1695) hA dL_law_349 rfl (fun _ => kk _ ⟨asg a, b2, .ref (b2 18), f, _, _, rfl, hb2 0 (by omega), Or.inr ⟨T2, hv T2, [], [], hR, rfl⟩⟩) (fun hc => absurd rfl hc)
    ·
      refine ka_aload_n (i := 1) hA dL_law_329 rfl 1 rfl ?_
      refine l_arg h (Nat.le_of_ble_eq_true rfl) ll_330 ?_
      refine ka_callVi (w1 := k_WT G.2.1 d rv mm) (As := [.int (xs (6 * j + 1))]) (rest := []) hA (m_X_terrace_ok l G a n (xs (6 * j + 1)) x n1 n2 e1 e5 e6 e7 e8 e9) cd_X10_terrace wd_476 (hc_X_0 G.2.1 a (.ref (a 10)) x) rfl rfl ⟨(Nat.le_of_ble_eq_true rfl), (Nat.le_of_ble_eq_true rfl)⟩ hcs0 rfl rfl (Nat.le_of_ble_eq_true rfl) dL_law_336 ?_
      refine ka_aload_n (i := 2) hA dL_law_339 rfl 2 rfl ?_
      refine l_arg h (Nat.le_of_ble_eq_true rfl) ll_340 ?_
      rw [k_WT_B, List.append_assoc]
      refine kb_callMi (rm := rm_Mt) (As := [.int (xs (6 * j + 1))]) (rest := [.int (t7.1 2 2)]) hA (m_M_terrace_ok l G d (.ref (d 18)) rv n (xs (6 * j + 1)) mm n1 n3 e2 e3 e4 e10) cd_X12_terrace wd_1386 (hc_MB_0 G.2.1 d (.ref (d 18)) rv mm) rfl rfl ⟨(Nat.le_of_ble_eq_true rfl), (Nat.le_of_ble_eq_true rfl)⟩ hcs rfl rfl (Nat.le_of_ble_eq_true rfl) dL_law_346 ?_
      rintro r u ⟨rfl, b2, hb2, rfl⟩
      refine ka_dropM ?_
      exact ka_icmp_eq (tgt := 1695) hA dL_law_349 rfl (fun _ => kk _ ⟨asg a, b2, .ref (b2 18), f, _, _, rfl, hb2 0 (by omega), Or.inr ⟨T2, hv T2, [], [], hR, rfl⟩⟩) (fun hc => absurd rfl hc)
theorem l_argG {R : Room} {pc : Nat} {st : List Value} {lv : List (Nat × Value)} (h : l_C p s m args meth c G A b L xs j) {k : Nat} (hk : k ≤ 5) (hd : l_ld k pc) {i0 i4 : Nat} (h0 : lv[i0]? = some (0, .ref b)) (h4 : lv[i4]? = some (4, .int (nI (6 * j)))) (kk : k_GoA p l e R s m args below meth c Q 7 G A cells slots w (pc + 6) lv (.int (xs (6 * j + k)) :: st)) : k_GoA p l e R s m args below meth c Q 7 G A cells slots w pc lv st := by
  have hA := h.1
  have h1 := h.2.2.2.2.1
  have h2 := h.2.2.2.2.2
  have he : nI (6 * j) + Int32.ofInt (k : Int) = nI (6 * j + k) := by
    rw [show Int32.ofInt (k : Int) = nI k from rfl, nI_add]
  refine ka_aload_n (i := 0) hA hd.1 rfl i0 h0 ?_
  refine ka_iload (i := 4) hA hd.2.1 i4 h4 ?_
  refine ka_iconst hA hd.2.2.1 rfl ?_
  refine ka_iadd hA hd.2.2.2.1 ?_
  rw [he]
  refine ka_sld hA h.2.1 h.2.2.1 h.2.2.2.1 (vp_in_nI (by omega) (by omega)) hd.2.2.2.2 ?_
  rw [nI_clamp (by omega)]
  exact kk
theorem th_call0 {R : Room} {cc : ByteArray} {nL pc : Nat} {lv : List (Nat × Value)} {w1 wc : va_W} {rest st As : List Value} {post : Int32 → va_W → Prop} (hA : k_Amb p s m args meth c cc nL "TaleSharesLaw" G A) (hE : th_E A s s.heap) (hM : th_L l G wc As post) (hL : k_fit 4 rm_Ll R) (hcs : cells + 1 ≤ R.cells ∧ slots + 6 ≤ R.slots) (hn : As.length = 3) (hst : st = As.reverse ++ rest) (hr : (rest.map fun v => v.category).sum ≤ 8) (hd : decode cc pc = .ok (.invokestatic 217, 3))
    (k : ∀ r u, post r u → k_GoA p l e R s m args below meth c Q nL G A (cells + 1) (slots + 6) (w1 ++ u) (pc + 3) lv (.int r :: rest)) : k_GoA p l e R s m args below meth c Q nL G A cells slots (w1 ++ wc) pc lv st := by
  have h := th_call (w1 := w1) (w2 := []) hA hE hM hL hcs hn hst hr hd (fun r u hp => by rw [List.append_nil]; exact k r u hp)
  rw [List.append_nil] at h
  exact h
theorem lc_led (h : l_C p s m args meth c G A b L xs j) (hfl : l.flags = flags0) (hE : th_E A s s.heap) (hn : big n) (hcs : cells + 1 ≤ 601024 ∧ slots + 6 ≤ 7293034) (hw : l_W G ax dm oo w) (kk : ∀ w2, l_W G ax dm oo w2 → k_GoA p l e room_1 s m args below meth c Q 7 G A (cells + 1) (slots + 6) w2 1695 (l_lv b ax dm oo j) []) : k_GoA p l e room_1 s m args below meth c Q 7 G A cells slots w 1601 (l_lv b ax dm oo j) [] := by
  have hA := h.1
  obtain ⟨a, d, rv, f, x, mm, rfl, rfl, hcase⟩ := hw
  rcases hcase with ⟨h0, rfl⟩ | ⟨T, v, K, I, h0, rfl⟩
  · have u0 : f_M_thrown_N (k_sI (k_sI mm 0 0 0) 0 0 1) = 1 := by unfold f_M_thrown_N; rw [sI1, if_pos ⟨rfl, rfl⟩]
    refine ka_aload_n (i := 1) hA dL_law_1601 rfl 1 rfl ?_
    refine l_arg h (Nat.le_of_ble_eq_true rfl) ll_1602 ?_
    refine ka_aload_n (i := 3) hA dL_law_1608 rfl 3 rfl ?_
    refine th_call0 (w1 := k_WN G.2.1 d rv mm) (As := [.ref (a 0), .int (xs (6 * j + 1)), .ref oo]) (rest := []) hA hE (m_L_led_no l G a (.ref (a 10)) n x oo f (h0.lh n (fun _ => true)) (xs (6 * j + 1)) hfl rfl) ⟨(Nat.le_of_ble_eq_true rfl), (Nat.le_of_ble_eq_true rfl)⟩ hcs rfl rfl (Nat.le_of_ble_eq_true rfl) dL_law_1609 ?_
    rintro r u ⟨rfl, rfl⟩
    refine ka_istore (i := 5) (lv' := (5, .int (1 : Int32)) :: l_lv b (a 0) (d 0) oo j) hA dL_law_1612 rfl (Nat.le_of_ble_eq_true rfl) rfl ?_
    refine ka_aload_n (i := 2) hA dL_law_1614 rfl 3 rfl ?_
    refine l_argG h (Nat.le_of_ble_eq_true rfl) ll_1615 (i0 := 1) (i4 := 5) rfl rfl ?_
    refine kb_callVi (As := [.int (xs (6 * j + 1))]) (rest := []) hA (m_M_led_N l G d rv (xs (6 * j + 1)) mm (r := 0) (t' := k_sI (k_sI mm 0 0 0) 0 0 1) rfl) cd_X12_led wd_1979 (hc_MN_0 G.2.1 d rv mm) rfl rfl ⟨(Nat.le_of_ble_eq_true rfl), (Nat.le_of_ble_eq_true rfl)⟩ hcs rfl rfl (Nat.le_of_ble_eq_true rfl) dL_law_1621 ?_
    refine ka_istore (i := 6) (lv' := (6, .int (0 : Int32)) :: (5, .int (1 : Int32)) :: l_lv b (a 0) (d 0) oo j) hA dL_law_1624 rfl (Nat.le_of_ble_eq_true rfl) rfl ?_
    refine ka_aload_n (i := 2) hA dL_law_1626 rfl 4 rfl ?_
    refine kb_callVi (As := []) (rest := []) hA (m_M_thrown_N l G d rv _ u0) cd_X12_thrown wd_1378 (hc_MN_0 G.2.1 d rv _) rfl rfl ⟨(Nat.le_of_ble_eq_true rfl), (Nat.le_of_ble_eq_true rfl)⟩ hcs rfl rfl (Nat.le_of_ble_eq_true rfl) dL_law_1627 ?_
    refine ka_iload (i := 5) hA dL_law_1630 1 rfl ?_
    refine ka_icmp_eq (tgt := 1637) hA dL_law_1632 rfl (fun _ => ?_) (fun hc => absurd rfl hc)
    refine ka_iload (i := 5) hA dL_law_1637 1 rfl ?_
    refine ka_if_ne (tgt := 1654) hA dL_law_1639 rfl (fun _ => ?_) (fun hc => absurd hc (by decide))
    refine ka_goto (tgt := 1695) hA dL_law_1654 rfl ?_
    refine ka_pick (lv' := l_lv b (a 0) (d 0) oo j) [2, 3, 4, 5, 6] rfl ?_
    exact kk _ ⟨a, d, rv, f, x, _, rfl, rfl, Or.inl ⟨(h0.th 0).th 1, rfl⟩⟩
  · obtain ⟨u, hR, ⟨k, hk5, hk, e2, u0⟩ | ⟨hk, e2, u0⟩⟩ := s_led h0 hn (xs (6 * j + 1))
    · have u0 : f_M_thrown u = 0 := u0
      refine ka_aload_n (i := 1) hA dL_law_1601 rfl 1 rfl ?_
      refine l_arg h (Nat.le_of_ble_eq_true rfl) ll_1602 ?_
      refine ka_aload_n (i := 3) hA dL_law_1608 rfl 3 rfl ?_
      refine th_call0 (w1 := k_WT G.2.1 d rv mm) (As := [.ref (a 0), .int (xs (6 * j + 1)), .ref oo]) (rest := []) hA hE (m_L_led_ok l G a (.ref (a 10)) n x oo f (h0.lh hn) (xs (6 * j + 1)) hk) ⟨(Nat.le_of_ble_eq_true rfl), (Nat.le_of_ble_eq_true rfl)⟩ hcs rfl rfl (Nat.le_of_ble_eq_true rfl) dL_law_1609 ?_
      rintro r u ⟨rfl, rfl⟩
      refine ka_istore (i := 5) (lv' := (5, .int (0 : Int32)) :: l_lv b (a 0) (d 0) oo j) hA dL_law_1612 rfl (Nat.le_of_ble_eq_true rfl) rfl ?_
      refine ka_aload_n (i := 2) hA dL_law_1614 rfl 3 rfl ?_
      refine l_argG h (Nat.le_of_ble_eq_true rfl) ll_1615 (i0 := 1) (i4 := 5) rfl rfl ?_
      refine kb_callVi (As := [.int (xs (6 * j + 1))]) (rest := []) hA (m_M_led l G d rv n (xs (6 * j + 1)) mm e2) cd_X12_led wd_1979 (hc_MT_0 G.2.1 d rv mm) rfl rfl ⟨(Nat.le_of_ble_eq_true rfl), (Nat.le_of_ble_eq_true rfl)⟩ hcs rfl rfl (Nat.le_of_ble_eq_true rfl) dL_law_1621 ?_
      refine ka_istore (i := 6) (lv' := (6, .int (nI k)) :: (5, .int (0 : Int32)) :: l_lv b (a 0) (d 0) oo j) hA dL_law_1624 rfl (Nat.le_of_ble_eq_true rfl) rfl ?_
      refine ka_aload_n (i := 2) hA dL_law_1626 rfl 4 rfl ?_
      refine kb_callVi (As := []) (rest := []) hA (m_M_thrown l G d rv _ u0) cd_X12_thrown wd_1378 (hc_MT_0 G.2.1 d rv _) rfl rfl ⟨(Nat.le_of_ble_eq_true rfl), (Nat.le_of_ble_eq_true rfl)⟩ hcs rfl rfl (Nat.le_of_ble_eq_true rfl) dL_law_1627 ?_
      refine ka_iload (i := 5) hA dL_law_1630 1 rfl ?_
      refine ka_icmp_eq (tgt := 1637) hA dL_law_1632 rfl (fun _ => ?_) (fun hc => absurd rfl hc)
      refine ka_iload (i := 5) hA dL_law_1637 1 rfl ?_
      refine ka_if_ne (tgt := 1654) hA dL_law_1639 rfl (fun hc => absurd rfl hc) (fun _ => ?_)
      refine ka_aload_n (i := 3) hA dL_law_1642 rfl 5 rfl ?_
      refine ka_iconst hA dL_law_1643 kc_i_0 ?_
      refine ka_lald (q0 := 66) (n := 1) (f := vp_updL f 0 (nI k).toInt64) hA rfl (show ¬ ((0 : Int32) < 0 ∨ 1 ≤ (0 : Int32).toNatClampNeg) by decide) dL_law_1644 ?_
      rw [show (0 : Int32).toNatClampNeg = 0 from rfl, pk_uLs]
      refine ka_iload (i := 6) hA dL_law_1645 0 rfl ?_
      refine ka_i2l hA dL_law_1647 ?_
      refine ka_lcmp hA dL_law_1648 ?_
      rw [lg_cmp_rf]
      refine ka_if_eq (tgt := 1654) hA dL_law_1649 rfl (fun _ => ?_) (fun hc => absurd rfl hc)
      refine ka_goto (tgt := 1695) hA dL_law_1654 rfl ?_
      refine ka_pick (lv' := l_lv b (a 0) (d 0) oo j) [2, 3, 4, 5, 6] rfl ?_
      exact kk _ ⟨a, d, rv, vp_updL f 0 (nI k).toInt64, x, u, rfl, rfl, Or.inr ⟨T, v, K, I, hR, rfl⟩⟩
    · have u0 : f_M_thrown u = 1 := u0
      refine ka_aload_n (i := 1) hA dL_law_1601 rfl 1 rfl ?_
      refine l_arg h (Nat.le_of_ble_eq_true rfl) ll_1602 ?_
      refine ka_aload_n (i := 3) hA dL_law_1608 rfl 3 rfl ?_
      refine th_call0 (w1 := k_WT G.2.1 d rv mm) (As := [.ref (a 0), .int (xs (6 * j + 1)), .ref oo]) (rest := []) hA hE (m_L_led_no l G a (.ref (a 10)) n x oo f (h0.lh hn) (xs (6 * j + 1)) hfl hk) ⟨(Nat.le_of_ble_eq_true rfl), (Nat.le_of_ble_eq_true rfl)⟩ hcs rfl rfl (Nat.le_of_ble_eq_true rfl) dL_law_1609 ?_
      rintro r u ⟨rfl, rfl⟩
      refine ka_istore (i := 5) (lv' := (5, .int (1 : Int32)) :: l_lv b (a 0) (d 0) oo j) hA dL_law_1612 rfl (Nat.le_of_ble_eq_true rfl) rfl ?_
      refine ka_aload_n (i := 2) hA dL_law_1614 rfl 3 rfl ?_
      refine l_argG h (Nat.le_of_ble_eq_true rfl) ll_1615 (i0 := 1) (i4 := 5) rfl rfl ?_
      refine kb_callVi (As := [.int (xs (6 * j + 1))]) (rest := []) hA (m_M_led l G d rv n (xs (6 * j + 1)) mm e2) cd_X12_led wd_1979 (hc_MT_0 G.2.1 d rv mm) rfl rfl ⟨(Nat.le_of_ble_eq_true rfl), (Nat.le_of_ble_eq_true rfl)⟩ hcs rfl rfl (Nat.le_of_ble_eq_true rfl) dL_law_1621 ?_
      refine ka_istore (i := 6) (lv' := (6, .int (0 : Int32)) :: (5, .int (1 : Int32)) :: l_lv b (a 0) (d 0) oo j) hA dL_law_1624 rfl (Nat.le_of_ble_eq_true rfl) rfl ?_
      refine ka_aload_n (i := 2) hA dL_law_1626 rfl 4 rfl ?_
      refine kb_callVi (As := []) (rest := []) hA (m_M_thrown l G d rv _ u0) cd_X12_thrown wd_1378 (hc_MT_0 G.2.1 d rv _) rfl rfl ⟨(Nat.le_of_ble_eq_true rfl), (Nat.le_of_ble_eq_true rfl)⟩ hcs rfl rfl (Nat.le_of_ble_eq_true rfl) dL_law_1627 ?_
      refine ka_iload (i := 5) hA dL_law_1630 1 rfl ?_
      refine ka_icmp_eq (tgt := 1637) hA dL_law_1632 rfl (fun _ => ?_) (fun hc => absurd rfl hc)
      refine ka_iload (i := 5) hA dL_law_1637 1 rfl ?_
      refine ka_if_ne (tgt := 1654) hA dL_law_1639 rfl (fun _ => ?_) (fun hc => absurd hc (by decide))
      refine ka_goto (tgt := 1695) hA dL_law_1654 rfl ?_
      refine ka_pick (lv' := l_lv b (a 0) (d 0) oo j) [2, 3, 4, 5, 6] rfl ?_
      exact kk _ ⟨a, d, rv, f, x, u, rfl, rfl, Or.inr ⟨T, v, K, I, hR, rfl⟩⟩
end LCT
