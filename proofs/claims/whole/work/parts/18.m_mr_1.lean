theorem dX12_readAll_0 : decode cX12_readAll 0 = .ok (.iconst 1, 1) := by decide +kernel
theorem dX12_readAll_1 : decode cX12_readAll 1 = .ok (.istore_n 1, 1) := by decide +kernel
theorem dX12_readAll_2 : decode cX12_readAll 2 = .ok (.iload_n 1, 1) := by decide +kernel
theorem dX12_readAll_3 : decode cX12_readAll 3 = .ok (.ifCond .eq 16, 3) := by decide +kernel
theorem dX12_readAll_6 : decode cX12_readAll 6 = .ok (.aload_n 0, 1) := by decide +kernel
theorem dX12_readAll_7 : decode cX12_readAll 7 = .ok (.invokevirtual 204, 3) := by decide +kernel
theorem dX12_readAll_10 : decode cX12_readAll 10 = .ok (.aload_n 0, 1) := by decide +kernel
theorem dX12_readAll_11 : decode cX12_readAll 11 = .ok (.iconst 4, 1) := by decide +kernel
theorem dX12_readAll_12 : decode cX12_readAll 12 = .ok (.invokevirtual 207, 3) := by decide +kernel
theorem dX12_readAll_15 : decode cX12_readAll 15 = .ok (.istore_n 1, 1) := by decide +kernel
theorem dX12_readAll_16 : decode cX12_readAll 16 = .ok (.goto (-14), 3) := by decide +kernel
theorem dX12_readAll_19 : decode cX12_readAll 19 = .ok (.aload_n 0, 1) := by decide +kernel
theorem dX12_readAll_20 : decode cX12_readAll 20 = .ok (.getfield 98, 3) := by decide +kernel
theorem dX12_readAll_23 : decode cX12_readAll 23 = .ok (.iconst 1, 1) := by decide +kernel
theorem dX12_readAll_24 : decode cX12_readAll 24 = .ok (.if_icmp .eq 8, 3) := by decide +kernel
theorem dX12_readAll_27 : decode cX12_readAll 27 = .ok (.aload_n 0, 1) := by decide +kernel
theorem dX12_readAll_28 : decode cX12_readAll 28 = .ok (.iconst 1, 1) := by decide +kernel
theorem dX12_readAll_29 : decode cX12_readAll 29 = .ok (.invokevirtual 141, 3) := by decide +kernel
theorem dX12_readAll_32 : decode cX12_readAll 32 = .ok (.aload_n 0, 1) := by decide +kernel
theorem dX12_readAll_33 : decode cX12_readAll 33 = .ok (.getfield 171, 3) := by decide +kernel
theorem dX12_readAll_36 : decode cX12_readAll 36 = .ok (.getfield 210, 3) := by decide +kernel
theorem dX12_readAll_39 : decode cX12_readAll 39 = .ok (.ifCond .ne 9, 3) := by decide +kernel
theorem dX12_readAll_42 : decode cX12_readAll 42 = .ok (.aload_n 0, 1) := by decide +kernel
theorem dX12_readAll_43 : decode cX12_readAll 43 = .ok (.bipush 6, 2) := by decide +kernel
theorem dX12_readAll_45 : decode cX12_readAll 45 = .ok (.invokevirtual 141, 3) := by decide +kernel
theorem dX12_readAll_48 : decode cX12_readAll 48 = .ok (.return_, 1) := by decide +kernel
theorem dX12_readLine_0 : decode cX12_readLine 0 = .ok (.aload_n 0, 1) := by decide +kernel
theorem dX12_readLine_1 : decode cX12_readLine 1 = .ok (.ldc 157, 2) := by decide +kernel
theorem dX12_readLine_3 : decode cX12_readLine 3 = .ok (.invokevirtual 137, 3) := by decide +kernel
theorem dX12_readLine_6 : decode cX12_readLine 6 = .ok (.ifCond .eq 10, 3) := by decide +kernel
theorem dX12_readLine_9 : decode cX12_readLine 9 = .ok (.aload_n 0, 1) := by decide +kernel
theorem dX12_readLine_10 : decode cX12_readLine 10 = .ok (.invokevirtual 213, 3) := by decide +kernel
theorem dX12_readLine_13 : decode cX12_readLine 13 = .ok (.goto 104, 3) := by decide +kernel
theorem dX12_readLine_16 : decode cX12_readLine 16 = .ok (.aload_n 0, 1) := by decide +kernel
theorem dX12_readLine_17 : decode cX12_readLine 17 = .ok (.ldc 159, 2) := by decide +kernel
theorem dX12_readLine_19 : decode cX12_readLine 19 = .ok (.invokevirtual 137, 3) := by decide +kernel
theorem dX12_readLine_22 : decode cX12_readLine 22 = .ok (.ifCond .eq 10, 3) := by decide +kernel
theorem dX12_readLine_25 : decode cX12_readLine 25 = .ok (.aload_n 0, 1) := by decide +kernel
theorem dX12_readLine_26 : decode cX12_readLine 26 = .ok (.invokevirtual 216, 3) := by decide +kernel
theorem dX12_readLine_29 : decode cX12_readLine 29 = .ok (.goto 88, 3) := by decide +kernel
theorem dX12_readLine_32 : decode cX12_readLine 32 = .ok (.aload_n 0, 1) := by decide +kernel
theorem dX12_readLine_33 : decode cX12_readLine 33 = .ok (.ldc 161, 2) := by decide +kernel
theorem dX12_readLine_35 : decode cX12_readLine 35 = .ok (.invokevirtual 137, 3) := by decide +kernel
theorem dX12_readLine_38 : decode cX12_readLine 38 = .ok (.ifCond .eq 10, 3) := by decide +kernel
theorem dX12_readLine_41 : decode cX12_readLine 41 = .ok (.aload_n 0, 1) := by decide +kernel
theorem dX12_readLine_42 : decode cX12_readLine 42 = .ok (.invokevirtual 219, 3) := by decide +kernel
theorem dX12_readLine_45 : decode cX12_readLine 45 = .ok (.goto 72, 3) := by decide +kernel
theorem dX12_readLine_48 : decode cX12_readLine 48 = .ok (.aload_n 0, 1) := by decide +kernel
theorem dX12_readLine_49 : decode cX12_readLine 49 = .ok (.ldc 163, 2) := by decide +kernel
theorem dX12_readLine_51 : decode cX12_readLine 51 = .ok (.invokevirtual 137, 3) := by decide +kernel
theorem dX12_readLine_54 : decode cX12_readLine 54 = .ok (.ifCond .eq 10, 3) := by decide +kernel
theorem dX12_readLine_57 : decode cX12_readLine 57 = .ok (.aload_n 0, 1) := by decide +kernel
theorem dX12_readLine_58 : decode cX12_readLine 58 = .ok (.invokevirtual 222, 3) := by decide +kernel
theorem dX12_readLine_61 : decode cX12_readLine 61 = .ok (.goto 56, 3) := by decide +kernel
theorem dX12_readLine_64 : decode cX12_readLine 64 = .ok (.aload_n 0, 1) := by decide +kernel
theorem dX12_readLine_65 : decode cX12_readLine 65 = .ok (.ldc 165, 2) := by decide +kernel
theorem dX12_readLine_67 : decode cX12_readLine 67 = .ok (.invokevirtual 137, 3) := by decide +kernel
theorem dX12_readLine_70 : decode cX12_readLine 70 = .ok (.ifCond .eq 10, 3) := by decide +kernel
theorem dX12_readLine_73 : decode cX12_readLine 73 = .ok (.aload_n 0, 1) := by decide +kernel
theorem dX12_readLine_74 : decode cX12_readLine 74 = .ok (.invokevirtual 225, 3) := by decide +kernel
theorem dX12_readLine_77 : decode cX12_readLine 77 = .ok (.goto 40, 3) := by decide +kernel
theorem dX12_readLine_80 : decode cX12_readLine 80 = .ok (.aload_n 0, 1) := by decide +kernel
theorem dX12_readLine_81 : decode cX12_readLine 81 = .ok (.ldc 167, 2) := by decide +kernel
theorem dX12_readLine_83 : decode cX12_readLine 83 = .ok (.invokevirtual 137, 3) := by decide +kernel
theorem dX12_readLine_86 : decode cX12_readLine 86 = .ok (.ifCond .eq 10, 3) := by decide +kernel
theorem dX12_readLine_89 : decode cX12_readLine 89 = .ok (.aload_n 0, 1) := by decide +kernel
theorem dX12_readLine_90 : decode cX12_readLine 90 = .ok (.invokevirtual 228, 3) := by decide +kernel
theorem dX12_readLine_93 : decode cX12_readLine 93 = .ok (.goto 24, 3) := by decide +kernel
theorem dX12_readLine_96 : decode cX12_readLine 96 = .ok (.aload_n 0, 1) := by decide +kernel
theorem dX12_readLine_97 : decode cX12_readLine 97 = .ok (.ldc 169, 2) := by decide +kernel
theorem dX12_readLine_99 : decode cX12_readLine 99 = .ok (.invokevirtual 137, 3) := by decide +kernel
theorem dX12_readLine_102 : decode cX12_readLine 102 = .ok (.ifCond .eq 10, 3) := by decide +kernel
theorem dX12_readLine_105 : decode cX12_readLine 105 = .ok (.aload_n 0, 1) := by decide +kernel
theorem dX12_readLine_106 : decode cX12_readLine 106 = .ok (.invokevirtual 231, 3) := by decide +kernel
theorem dX12_readLine_109 : decode cX12_readLine 109 = .ok (.goto 8, 3) := by decide +kernel
theorem dX12_readLine_112 : decode cX12_readLine 112 = .ok (.aload_n 0, 1) := by decide +kernel
theorem dX12_readLine_113 : decode cX12_readLine 113 = .ok (.iconst 1, 1) := by decide +kernel
theorem dX12_readLine_114 : decode cX12_readLine 114 = .ok (.invokevirtual 141, 3) := by decide +kernel
theorem dX12_readLine_117 : decode cX12_readLine 117 = .ok (.return_, 1) := by decide +kernel
theorem dX12_readNurse_0 : decode cX12_readNurse 0 = .ok (.aload_n 0, 1) := by decide +kernel
theorem dX12_readNurse_1 : decode cX12_readNurse 1 = .ok (.getfield 171, 3) := by decide +kernel
theorem dX12_readNurse_4 : decode cX12_readNurse 4 = .ok (.getfield 175, 3) := by decide +kernel
theorem dX12_readNurse_7 : decode cX12_readNurse 7 = .ok (.iconst (-1), 1) := by decide +kernel
theorem dX12_readNurse_8 : decode cX12_readNurse 8 = .ok (.if_icmp .eq 8, 3) := by decide +kernel
theorem dX12_readNurse_11 : decode cX12_readNurse 11 = .ok (.aload_n 0, 1) := by decide +kernel
theorem dX12_readNurse_12 : decode cX12_readNurse 12 = .ok (.iconst 3, 1) := by decide +kernel
theorem dX12_readNurse_13 : decode cX12_readNurse 13 = .ok (.invokevirtual 141, 3) := by decide +kernel
theorem dX12_readNurse_16 : decode cX12_readNurse 16 = .ok (.aload_n 0, 1) := by decide +kernel
theorem dX12_readNurse_17 : decode cX12_readNurse 17 = .ok (.invokevirtual 134, 3) := by decide +kernel
theorem dX12_readNurse_20 : decode cX12_readNurse 20 = .ok (.aload_n 0, 1) := by decide +kernel
theorem dX12_readNurse_21 : decode cX12_readNurse 21 = .ok (.ldc 234, 2) := by decide +kernel
theorem dX12_readNurse_23 : decode cX12_readNurse 23 = .ok (.iconst 0, 1) := by decide +kernel
theorem dX12_readNurse_24 : decode cX12_readNurse 24 = .ok (.iconst 4, 1) := by decide +kernel
theorem dX12_readNurse_25 : decode cX12_readNurse 25 = .ok (.invokevirtual 235, 3) := by decide +kernel
theorem dX12_readNurse_28 : decode cX12_readNurse 28 = .ok (.istore_n 1, 1) := by decide +kernel
theorem dX12_readNurse_29 : decode cX12_readNurse 29 = .ok (.aload_n 0, 1) := by decide +kernel
theorem dX12_readNurse_30 : decode cX12_readNurse 30 = .ok (.ldc 239, 2) := by decide +kernel
theorem dX12_readNurse_32 : decode cX12_readNurse 32 = .ok (.iconst 0, 1) := by decide +kernel
theorem dX12_readNurse_33 : decode cX12_readNurse 33 = .ok (.bipush 100, 2) := by decide +kernel
theorem dX12_readNurse_35 : decode cX12_readNurse 35 = .ok (.invokevirtual 235, 3) := by decide +kernel
theorem dX12_readNurse_38 : decode cX12_readNurse 38 = .ok (.istore_n 2, 1) := by decide +kernel
theorem dX12_readNurse_39 : decode cX12_readNurse 39 = .ok (.aload_n 0, 1) := by decide +kernel
theorem dX12_readNurse_40 : decode cX12_readNurse 40 = .ok (.getfield 98, 3) := by decide +kernel
theorem dX12_readNurse_43 : decode cX12_readNurse 43 = .ok (.bipush 6, 2) := by decide +kernel
theorem dX12_readNurse_45 : decode cX12_readNurse 45 = .ok (.if_icmp .ne 4, 3) := by decide +kernel
theorem dX12_readNurse_48 : decode cX12_readNurse 48 = .ok (.return_, 1) := by decide +kernel
theorem dX12_readNurse_49 : decode cX12_readNurse 49 = .ok (.aload_n 0, 1) := by decide +kernel
theorem dX12_readNurse_50 : decode cX12_readNurse 50 = .ok (.getfield 171, 3) := by decide +kernel
theorem dX12_readNurse_53 : decode cX12_readNurse 53 = .ok (.iload_n 1, 1) := by decide +kernel
theorem dX12_readNurse_54 : decode cX12_readNurse 54 = .ok (.putfield 175, 3) := by decide +kernel
theorem dX12_readNurse_57 : decode cX12_readNurse 57 = .ok (.aload_n 0, 1) := by decide +kernel
theorem dX12_readNurse_58 : decode cX12_readNurse 58 = .ok (.getfield 171, 3) := by decide +kernel
theorem dX12_readNurse_61 : decode cX12_readNurse 61 = .ok (.iload_n 2, 1) := by decide +kernel
theorem dX12_readNurse_62 : decode cX12_readNurse 62 = .ok (.putfield 241, 3) := by decide +kernel
theorem dX12_readNurse_65 : decode cX12_readNurse 65 = .ok (.return_, 1) := by decide +kernel
def f_M_readNurse_R_16 (n : Nat) (t : k_St) : Option k_St := k_cv (f_M_goesOn_R n t) (fun t_1 => k_cl (f_M_readPart_R n 7 (0 : Int32) (4 : Int32) t_1) (fun r_3 t_2 => k_cl (f_M_readPart_R n 8 (0 : Int32) (100 : Int32) t_2) (fun r_5 t_4 => (if (t_4.1 0 9) = (6 : Int32) then some t_4 else k_lt (k_sI t_4 18 0 r_3) (fun t_6 => k_lt (k_sI t_6 18 1 r_5) (fun t_7 => some t_7))))))
def f_M_readNurse_R (n : Nat) (t : k_St) : Option k_St := (if (t.1 18 0) = (-1 : Int32) then f_M_readNurse_R_16 n t else k_lt (f_M_flaw_R (3 : Int32) t) (fun t_1 => f_M_readNurse_R_16 n t_1))
theorem m_M_readNurse_R_16 {p : Program} (l : Launch) {e : Env} {s : State} {m : MethodId} {args : Array Value} {below : List Frame} {meth : Method} {c : Code} (G : k_G) (a : Nat → Nat) (tv : Value) (n : Nat) {w0 : va_W} {t' : k_St} (hA : k_Amb p s m args meth c cX12_readNurse 3 "TaleSharesModel" G (va_A w0 s.heap.size)) (hr : meth.sig.returnType = none) : ∀ (t : k_St), f_M_readNurse_R_16 n t = some t' → k_Go p l e (k_rm 9) s m args below meth c (k_QV G w0 (k_WR G.2.1 a tv t') args s below) 3 G (va_A w0 s.heap.size) (k_WR G.2.1 a tv t) 16 [(0, .ref (a 0))] [] := by
  intro t hf
  unfold f_M_readNurse_R_16 at hf
  obtain ⟨t_1, ht_1, hf⟩ := k_cv_e hf
  obtain ⟨r_3, t_2, ht_2, hf⟩ := k_cl_e hf
  obtain ⟨r_5, t_4, ht_4, hf⟩ := k_cl_e hf
  refine k_aload_n (i := 0) hA dX12_readNurse_16 rfl 0 rfl ?_
  refine k_callVv (As := []) (rest := []) hA (m_M_goesOn_R l G a tv n t ht_1) cd_X12_goesOn wd_1471 (hc_MR_0 G.2.1 a tv t) rfl rfl (Nat.le_of_ble_eq_true rfl) rfl rfl (Nat.le_of_ble_eq_true rfl) dX12_readNurse_17 ?_
  refine k_aload_n (i := 0) hA dX12_readNurse_20 rfl 0 rfl ?_
  refine k_ldcS hA sq_RX12_234 dX12_readNurse_21 ?_
  refine k_iconst hA dX12_readNurse_23 kc_i_0 ?_
  refine k_iconst hA dX12_readNurse_24 kc_i_4 ?_
  refine k_callVi (As := [.ref (G.2.2.1 7), .int (0 : Int32), .int (4 : Int32)]) (rest := []) hA (m_M_readPart_R l G a tv n 7 (by decide) (0 : Int32) (4 : Int32) t_1 ht_2) cd_X12_readPart wd_1513 (hc_MR_0 G.2.1 a tv t_1) rfl rfl (Nat.le_of_ble_eq_true rfl) rfl rfl (Nat.le_of_ble_eq_true rfl) dX12_readNurse_25 ?_
  refine k_istore_n (i := 1) (lv' := [(1, .int r_3), (0, .ref (a 0))]) hA dX12_readNurse_28 rfl rfl (Nat.le_of_ble_eq_true rfl) rfl ?_
  refine k_aload_n (i := 0) hA dX12_readNurse_29 rfl 1 rfl ?_
  refine k_ldcS hA sq_RX12_239 dX12_readNurse_30 ?_
  refine k_iconst hA dX12_readNurse_32 kc_i_0 ?_
  refine k_bipush hA dX12_readNurse_33 kc_b_100 ?_
  refine k_callVi (As := [.ref (G.2.2.1 8), .int (0 : Int32), .int (100 : Int32)]) (rest := []) hA (m_M_readPart_R l G a tv n 8 (by decide) (0 : Int32) (100 : Int32) t_2 ht_4) cd_X12_readPart wd_1513 (hc_MR_0 G.2.1 a tv t_2) rfl rfl (Nat.le_of_ble_eq_true rfl) rfl rfl (Nat.le_of_ble_eq_true rfl) dX12_readNurse_35 ?_
  refine k_istore_n (i := 2) (lv' := [(2, .int r_5), (1, .int r_3), (0, .ref (a 0))]) hA dX12_readNurse_38 rfl rfl (Nat.le_of_ble_eq_true rfl) rfl ?_
  refine k_aload_n (i := 0) hA dX12_readNurse_39 rfl 2 rfl ?_
  refine gt_MR_0_9 hA wd_1257 dX12_readNurse_40 ?_
  refine k_bipush hA dX12_readNurse_43 kc_b_6 ?_
  refine k_icmp_ne (tgt := 49) hA dX12_readNurse_45 rfl (fun hc => ?_) (fun hc => ?_)
  · have hf := k_iff hc hf
    obtain ⟨t_6, et_6, hf⟩ := k_lt_e hf
    obtain ⟨t_7, et_7, hf⟩ := k_lt_e hf
    obtain rfl := k_r1 hf
    refine k_aload_n (i := 0) hA dX12_readNurse_49 rfl 2 rfl ?_
    refine gt_MR_0_4 hA wd_1252 dX12_readNurse_50 ?_
    refine k_iload_n (i := 1) hA dX12_readNurse_53 rfl 1 rfl ?_
    refine pt_MR_18_0N hA rfl nf_175 et_6 dX12_readNurse_54 ?_
    refine k_aload_n (i := 0) hA dX12_readNurse_57 rfl 2 rfl ?_
    refine gt_MR_0_4 hA wd_1252 dX12_readNurse_58 ?_
    refine k_iload_n (i := 2) hA dX12_readNurse_61 rfl 0 rfl ?_
    refine pt_MR_18_1N hA rfl nf_241 et_7 dX12_readNurse_62 ?_
    exact k_vret hA hr dX12_readNurse_65
  have hf := k_ift hc hf
  obtain rfl := k_r1 hf
  exact k_vret hA hr dX12_readNurse_48

theorem m_M_readNurse_R (l : Launch) (G : k_G) (a : Nat → Nat) (tv : Value) (n : Nat) (t : k_St) {t' : k_St} (hf : f_M_readNurse_R n t = some t') : k_CV l G yX12_readNurse cX12_readNurse 3 none 9 (k_WR G.2.1 a tv t) [.ref (a 0)] (k_WR G.2.1 a tv t') := by
  refine k_startV (lv := [(0, .ref (a 0))]) (by decide +kernel) (Nat.le_of_ble_eq_true rfl) rfl ?_
  intro p e s m args below meth c hA hr
  have hA : k_Amb p s m args meth c cX12_readNurse 3 "TaleSharesModel" G _ := hA
  unfold f_M_readNurse_R at hf
  refine k_aload_n (i := 0) hA dX12_readNurse_0 rfl 0 rfl ?_
  refine gt_MR_0_4 hA wd_1252 dX12_readNurse_1 ?_
  refine gt_MR_18_0N hA rfl nf_175 dX12_readNurse_4 ?_
  refine k_iconst hA dX12_readNurse_7 kc_i_m1 ?_
  refine k_icmp_eq (tgt := 16) hA dX12_readNurse_8 rfl (fun hc => ?_) (fun hc => ?_)
  · have hf := k_ift hc hf
    exact m_M_readNurse_R_16 l G a tv n hA hr t hf
  have hf := k_iff hc hf
  obtain ⟨t_1, ht_1, hf⟩ := k_lt_e hf
  refine k_aload_n (i := 0) hA dX12_readNurse_11 rfl 0 rfl ?_
  refine k_iconst hA dX12_readNurse_12 kc_i_3 ?_
  refine k_callVv (As := [.int (3 : Int32)]) (rest := []) hA (m_M_flaw_R l G a tv (3 : Int32) t ht_1.symm) cd_X12_flaw wd_1508 (hc_MR_0 G.2.1 a tv t) rfl rfl (Nat.le_of_ble_eq_true rfl) rfl rfl (Nat.le_of_ble_eq_true rfl) dX12_readNurse_13 ?_
  exact m_M_readNurse_R_16 l G a tv n hA hr t_1 hf

def f_M_readLine_R (n : Nat) (t : k_St) : Option k_St := k_cp (f_M_isWord_R n 0 t) (fun r_1 => (if (k_b r_1) = 0 then k_cp (f_M_isWord_R n 1 t) (fun r_2 => (if (k_b r_2) = 0 then k_cp (f_M_isWord_R n 2 t) (fun r_3 => (if (k_b r_3) = 0 then k_cp (f_M_isWord_R n 3 t) (fun r_4 => (if (k_b r_4) = 0 then k_cp (f_M_isWord_R n 4 t) (fun r_5 => (if (k_b r_5) = 0 then k_cp (f_M_isWord_R n 5 t) (fun r_6 => (if (k_b r_6) = 0 then k_cp (f_M_isWord_R n 6 t) (fun r_7 => (if (k_b r_7) = 0 then k_lt (f_M_flaw_R (1 : Int32) t) (fun t_8 => some t_8) else k_cv (f_M_readMixed_R n t) (fun t_9 => some t_9))) else k_cv (f_M_readSilent_R n t) (fun t_10 => some t_10))) else k_cv (f_M_readHeard_R n t) (fun t_11 => some t_11))) else k_cv (f_M_readHouse_R n t) (fun t_12 => some t_12))) else k_cv (f_M_readFollows_R n t) (fun t_13 => some t_13))) else k_cv (f_M_readPiece_R n t) (fun t_14 => some t_14))) else k_cv (f_M_readNurse_R n t) (fun t_15 => some t_15)))
theorem m_M_readLine_R (l : Launch) (G : k_G) (a : Nat → Nat) (tv : Value) (n : Nat) (t : k_St) {t' : k_St} (hf : f_M_readLine_R n t = some t') : k_CV l G yX12_readLine cX12_readLine 1 none 11 (k_WR G.2.1 a tv t) [.ref (a 0)] (k_WR G.2.1 a tv t') := by
  refine k_startV (lv := [(0, .ref (a 0))]) (by decide +kernel) (Nat.le_of_ble_eq_true rfl) rfl ?_
  intro p e s m args below meth c hA hr
  have hA : k_Amb p s m args meth c cX12_readLine 1 "TaleSharesModel" G _ := hA
  unfold f_M_readLine_R at hf
  obtain ⟨r_1, hr_1, hf⟩ := k_cp_e hf
  refine k_aload_n (i := 0) hA dX12_readLine_0 rfl 0 rfl ?_
  refine k_ldcS hA sq_RX12_157 dX12_readLine_1 ?_
  refine k_callVi (As := [.ref (G.2.2.1 0)]) (rest := []) hA (m_M_isWord_R l G a tv n 0 (by decide) t hr_1) cd_X12_isWord wd_1495 (hc_MR_0 G.2.1 a tv t) rfl rfl (Nat.le_of_ble_eq_true rfl) rfl rfl (Nat.le_of_ble_eq_true rfl) dX12_readLine_3 ?_
  refine k_if_eq (tgt := 16) hA dX12_readLine_6 rfl (fun hc => ?_) (fun hc => ?_)
  · have hf := k_ift hc hf
    obtain ⟨r_2, hr_2, hf⟩ := k_cp_e hf
    refine k_aload_n (i := 0) hA dX12_readLine_16 rfl 0 rfl ?_
    refine k_ldcS hA sq_RX12_159 dX12_readLine_17 ?_
    refine k_callVi (As := [.ref (G.2.2.1 1)]) (rest := []) hA (m_M_isWord_R l G a tv n 1 (by decide) t hr_2) cd_X12_isWord wd_1495 (hc_MR_0 G.2.1 a tv t) rfl rfl (Nat.le_of_ble_eq_true rfl) rfl rfl (Nat.le_of_ble_eq_true rfl) dX12_readLine_19 ?_
    refine k_if_eq (tgt := 32) hA dX12_readLine_22 rfl (fun hc => ?_) (fun hc => ?_)
    · have hf := k_ift hc hf
      obtain ⟨r_3, hr_3, hf⟩ := k_cp_e hf
      refine k_aload_n (i := 0) hA dX12_readLine_32 rfl 0 rfl ?_
      refine k_ldcS hA sq_RX12_161 dX12_readLine_33 ?_
      refine k_callVi (As := [.ref (G.2.2.1 2)]) (rest := []) hA (m_M_isWord_R l G a tv n 2 (by decide) t hr_3) cd_X12_isWord wd_1495 (hc_MR_0 G.2.1 a tv t) rfl rfl (Nat.le_of_ble_eq_true rfl) rfl rfl (Nat.le_of_ble_eq_true rfl) dX12_readLine_35 ?_
      refine k_if_eq (tgt := 48) hA dX12_readLine_38 rfl (fun hc => ?_) (fun hc => ?_)
      · have hf := k_ift hc hf
        obtain ⟨r_4, hr_4, hf⟩ := k_cp_e hf
        refine k_aload_n (i := 0) hA dX12_readLine_48 rfl 0 rfl ?_
        refine k_ldcS hA sq_RX12_163 dX12_readLine_49 ?_
        refine k_callVi (As := [.ref (G.2.2.1 3)]) (rest := []) hA (m_M_isWord_R l G a tv n 3 (by decide) t hr_4) cd_X12_isWord wd_1495 (hc_MR_0 G.2.1 a tv t) rfl rfl (Nat.le_of_ble_eq_true rfl) rfl rfl (Nat.le_of_ble_eq_true rfl) dX12_readLine_51 ?_
        refine k_if_eq (tgt := 64) hA dX12_readLine_54 rfl (fun hc => ?_) (fun hc => ?_)
        · have hf := k_ift hc hf
          obtain ⟨r_5, hr_5, hf⟩ := k_cp_e hf
          refine k_aload_n (i := 0) hA dX12_readLine_64 rfl 0 rfl ?_
          refine k_ldcS hA sq_RX12_165 dX12_readLine_65 ?_
          refine k_callVi (As := [.ref (G.2.2.1 4)]) (rest := []) hA (m_M_isWord_R l G a tv n 4 (by decide) t hr_5) cd_X12_isWord wd_1495 (hc_MR_0 G.2.1 a tv t) rfl rfl (Nat.le_of_ble_eq_true rfl) rfl rfl (Nat.le_of_ble_eq_true rfl) dX12_readLine_67 ?_
          refine k_if_eq (tgt := 80) hA dX12_readLine_70 rfl (fun hc => ?_) (fun hc => ?_)
          · have hf := k_ift hc hf
            obtain ⟨r_6, hr_6, hf⟩ := k_cp_e hf
            refine k_aload_n (i := 0) hA dX12_readLine_80 rfl 0 rfl ?_
            refine k_ldcS hA sq_RX12_167 dX12_readLine_81 ?_
            refine k_callVi (As := [.ref (G.2.2.1 5)]) (rest := []) hA (m_M_isWord_R l G a tv n 5 (by decide) t hr_6) cd_X12_isWord wd_1495 (hc_MR_0 G.2.1 a tv t) rfl rfl (Nat.le_of_ble_eq_true rfl) rfl rfl (Nat.le_of_ble_eq_true rfl) dX12_readLine_83 ?_
            refine k_if_eq (tgt := 96) hA dX12_readLine_86 rfl (fun hc => ?_) (fun hc => ?_)
            · have hf := k_ift hc hf
              obtain ⟨r_7, hr_7, hf⟩ := k_cp_e hf
              refine k_aload_n (i := 0) hA dX12_readLine_96 rfl 0 rfl ?_
              refine k_ldcS hA sq_RX12_169 dX12_readLine_97 ?_
              refine k_callVi (As := [.ref (G.2.2.1 6)]) (rest := []) hA (m_M_isWord_R l G a tv n 6 (by decide) t hr_7) cd_X12_isWord wd_1495 (hc_MR_0 G.2.1 a tv t) rfl rfl (Nat.le_of_ble_eq_true rfl) rfl rfl (Nat.le_of_ble_eq_true rfl) dX12_readLine_99 ?_
              refine k_if_eq (tgt := 112) hA dX12_readLine_102 rfl (fun hc => ?_) (fun hc => ?_)
              · have hf := k_ift hc hf
                obtain ⟨t_8, ht_8, hf⟩ := k_lt_e hf
                obtain rfl := k_r1 hf
                refine k_aload_n (i := 0) hA dX12_readLine_112 rfl 0 rfl ?_
                refine k_iconst hA dX12_readLine_113 kc_i_1 ?_
                refine k_callVv (As := [.int (1 : Int32)]) (rest := []) hA (m_M_flaw_R l G a tv (1 : Int32) t ht_8.symm) cd_X12_flaw wd_1508 (hc_MR_0 G.2.1 a tv t) rfl rfl (Nat.le_of_ble_eq_true rfl) rfl rfl (Nat.le_of_ble_eq_true rfl) dX12_readLine_114 ?_
                exact k_vret hA hr dX12_readLine_117
              have hf := k_iff hc hf
              obtain ⟨t_9, ht_9, hf⟩ := k_cv_e hf
              obtain rfl := k_r1 hf
              refine k_aload_n (i := 0) hA dX12_readLine_105 rfl 0 rfl ?_
              refine k_callVv (As := []) (rest := []) hA (m_M_readMixed_R l G a tv n t ht_9) cd_X12_readMixed wd_1593 (hc_MR_0 G.2.1 a tv t) rfl rfl (Nat.le_of_ble_eq_true rfl) rfl rfl (Nat.le_of_ble_eq_true rfl) dX12_readLine_106 ?_
              refine k_goto (tgt := 117) hA dX12_readLine_109 rfl ?_
              exact k_vret hA hr dX12_readLine_117
            have hf := k_iff hc hf
            obtain ⟨t_10, ht_10, hf⟩ := k_cv_e hf
            obtain rfl := k_r1 hf
            refine k_aload_n (i := 0) hA dX12_readLine_89 rfl 0 rfl ?_
            refine k_callVv (As := []) (rest := []) hA (m_M_readSilent_R l G a tv n t ht_10) cd_X12_readSilent wd_1589 (hc_MR_0 G.2.1 a tv t) rfl rfl (Nat.le_of_ble_eq_true rfl) rfl rfl (Nat.le_of_ble_eq_true rfl) dX12_readLine_90 ?_
            refine k_goto (tgt := 117) hA dX12_readLine_93 rfl ?_
            exact k_vret hA hr dX12_readLine_117
          have hf := k_iff hc hf
          obtain ⟨t_11, ht_11, hf⟩ := k_cv_e hf
          obtain rfl := k_r1 hf
          refine k_aload_n (i := 0) hA dX12_readLine_73 rfl 0 rfl ?_
          refine k_callVv (As := []) (rest := []) hA (m_M_readHeard_R l G a tv n t ht_11) cd_X12_readHeard wd_1585 (hc_MR_0 G.2.1 a tv t) rfl rfl (Nat.le_of_ble_eq_true rfl) rfl rfl (Nat.le_of_ble_eq_true rfl) dX12_readLine_74 ?_
          refine k_goto (tgt := 117) hA dX12_readLine_77 rfl ?_
          exact k_vret hA hr dX12_readLine_117
        have hf := k_iff hc hf
        obtain ⟨t_12, ht_12, hf⟩ := k_cv_e hf
        obtain rfl := k_r1 hf
        refine k_aload_n (i := 0) hA dX12_readLine_57 rfl 0 rfl ?_
        refine k_callVv (As := []) (rest := []) hA (m_M_readHouse_R l G a tv n t ht_12) cd_X12_readHouse wd_1578 (hc_MR_0 G.2.1 a tv t) rfl rfl (Nat.le_of_ble_eq_true rfl) rfl rfl (Nat.le_of_ble_eq_true rfl) dX12_readLine_58 ?_
        refine k_goto (tgt := 117) hA dX12_readLine_61 rfl ?_
        exact k_vret hA hr dX12_readLine_117
      have hf := k_iff hc hf
      obtain ⟨t_13, ht_13, hf⟩ := k_cv_e hf
      obtain rfl := k_r1 hf
      refine k_aload_n (i := 0) hA dX12_readLine_41 rfl 0 rfl ?_
      refine k_callVv (As := []) (rest := []) hA (m_M_readFollows_R l G a tv n t ht_13) cd_X12_readFollows wd_1563 (hc_MR_0 G.2.1 a tv t) rfl rfl (Nat.le_of_ble_eq_true rfl) rfl rfl (Nat.le_of_ble_eq_true rfl) dX12_readLine_42 ?_
      refine k_goto (tgt := 117) hA dX12_readLine_45 rfl ?_
      exact k_vret hA hr dX12_readLine_117
    have hf := k_iff hc hf
    obtain ⟨t_14, ht_14, hf⟩ := k_cv_e hf
    obtain rfl := k_r1 hf
    refine k_aload_n (i := 0) hA dX12_readLine_25 rfl 0 rfl ?_
    refine k_callVv (As := []) (rest := []) hA (m_M_readPiece_R l G a tv n t ht_14) cd_X12_readPiece wd_1530 (hc_MR_0 G.2.1 a tv t) rfl rfl (Nat.le_of_ble_eq_true rfl) rfl rfl (Nat.le_of_ble_eq_true rfl) dX12_readLine_26 ?_
    refine k_goto (tgt := 117) hA dX12_readLine_29 rfl ?_
    exact k_vret hA hr dX12_readLine_117
  have hf := k_iff hc hf
  obtain ⟨t_15, ht_15, hf⟩ := k_cv_e hf
  obtain rfl := k_r1 hf
  refine k_aload_n (i := 0) hA dX12_readLine_9 rfl 0 rfl ?_
  refine k_callVv (As := []) (rest := []) hA (m_M_readNurse_R l G a tv n t ht_15) cd_X12_readNurse wd_1504 (hc_MR_0 G.2.1 a tv t) rfl rfl (Nat.le_of_ble_eq_true rfl) rfl rfl (Nat.le_of_ble_eq_true rfl) dX12_readLine_10 ?_
  refine k_goto (tgt := 117) hA dX12_readLine_13 rfl ?_
  exact k_vret hA hr dX12_readLine_117

def f_M_readAll_R_32 (n : Nat) (t : k_St) : Option k_St := (if (t.1 18 2) = 0 then k_lt (f_M_flaw_R (6 : Int32) t) (fun t_1 => some t_1) else some t)
def f_M_readAll_R_2 (n : Nat) : Nat → Int32 → k_St → Option k_St
  | 0, _, _ => none
  | k + 1, x1, t => (if x1 = 0 then (if (t.1 0 9) = (1 : Int32) then f_M_readAll_R_32 n t else k_lt (f_M_flaw_R (1 : Int32) t) (fun t_1 => f_M_readAll_R_32 n t_1)) else k_cv (f_M_readLine_R n t) (fun t_2 => k_cl (f_M_eats_R n (4 : Int32) t_2) (fun r_4 t_3 => k_lt (k_b r_4) (fun x1_5 => f_M_readAll_R_2 n k x1_5 t_3))))
def f_M_readAll_R (n : Nat) (t : k_St) : Option k_St := f_M_readAll_R_2 n n (1 : Int32) t
theorem m_M_readAll_R_32 {p : Program} (l : Launch) {e : Env} {s : State} {m : MethodId} {args : Array Value} {below : List Frame} {meth : Method} {c : Code} (G : k_G) (a : Nat → Nat) (tv : Value) (n : Nat) {w0 : va_W} {t' : k_St} (hA : k_Amb p s m args meth c cX12_readAll 2 "TaleSharesModel" G (va_A w0 s.heap.size)) (hr : meth.sig.returnType = none) : ∀ (t : k_St), f_M_readAll_R_32 n t = some t' → k_Go p l e (k_rm 12) s m args below meth c (k_QV G w0 (k_WR G.2.1 a tv t') args s below) 2 G (va_A w0 s.heap.size) (k_WR G.2.1 a tv t) 32 [(0, .ref (a 0))] [] := by
  intro t hf
  unfold f_M_readAll_R_32 at hf
  refine k_aload_n (i := 0) hA dX12_readAll_32 rfl 0 rfl ?_
  refine gt_MR_0_4 hA wd_1252 dX12_readAll_33 ?_
  refine gt_MR_18_2N hA rfl nf_210 dX12_readAll_36 ?_
  refine k_if_ne (tgt := 48) hA dX12_readAll_39 rfl (fun hc => ?_) (fun hc => ?_)
  · have hf := k_iff hc hf
    obtain rfl := k_r1 hf
    exact k_vret hA hr dX12_readAll_48
  have hf := k_ift hc hf
  obtain ⟨t_1, ht_1, hf⟩ := k_lt_e hf
  obtain rfl := k_r1 hf
  refine k_aload_n (i := 0) hA dX12_readAll_42 rfl 0 rfl ?_
  refine k_bipush hA dX12_readAll_43 kc_b_6 ?_
  refine k_callVv (As := [.int (6 : Int32)]) (rest := []) hA (m_M_flaw_R l G a tv (6 : Int32) t ht_1.symm) cd_X12_flaw wd_1508 (hc_MR_0 G.2.1 a tv t) rfl rfl (Nat.le_of_ble_eq_true rfl) rfl rfl (Nat.le_of_ble_eq_true rfl) dX12_readAll_45 ?_
  exact k_vret hA hr dX12_readAll_48

theorem m_M_readAll_R_2 {p : Program} (l : Launch) {e : Env} {s : State} {m : MethodId} {args : Array Value} {below : List Frame} {meth : Method} {c : Code} (G : k_G) (a : Nat → Nat) (tv : Value) (n : Nat) {w0 : va_W} {t' : k_St} (hA : k_Amb p s m args meth c cX12_readAll 2 "TaleSharesModel" G (va_A w0 s.heap.size)) (hr : meth.sig.returnType = none) : ∀ (k : Nat) (x1 : Int32) (t : k_St), f_M_readAll_R_2 n k x1 t = some t' → k_Go p l e (k_rm 12) s m args below meth c (k_QV G w0 (k_WR G.2.1 a tv t') args s below) 2 G (va_A w0 s.heap.size) (k_WR G.2.1 a tv t) 2 [(0, .ref (a 0)), (1, .int x1)] [] := by
  intro k
  induction k with
  | zero => intro x1 t hf; cases hf
  | succ k ih =>
  intro x1 t hf
  rw [f_M_readAll_R_2] at hf
  refine k_iload_n (i := 1) hA dX12_readAll_2 rfl 1 rfl ?_
  refine k_if_eq (tgt := 19) hA dX12_readAll_3 rfl (fun hc => ?_) (fun hc => ?_)
  · have hf := k_ift hc hf
    refine k_aload_n (i := 0) hA dX12_readAll_19 rfl 0 rfl ?_
    refine gt_MR_0_9 hA wd_1257 dX12_readAll_20 ?_
    refine k_iconst hA dX12_readAll_23 kc_i_1 ?_
    refine k_icmp_eq (tgt := 32) hA dX12_readAll_24 rfl (fun hc => ?_) (fun hc => ?_)
    · have hf := k_ift hc hf
      refine k_pick (lv' := [(0, .ref (a 0))]) [0] rfl ?_
      exact m_M_readAll_R_32 l G a tv n hA hr t hf
    have hf := k_iff hc hf
    obtain ⟨t_1, ht_1, hf⟩ := k_lt_e hf
    refine k_aload_n (i := 0) hA dX12_readAll_27 rfl 0 rfl ?_
    refine k_iconst hA dX12_readAll_28 kc_i_1 ?_
    refine k_callVv (As := [.int (1 : Int32)]) (rest := []) hA (m_M_flaw_R l G a tv (1 : Int32) t ht_1.symm) cd_X12_flaw wd_1508 (hc_MR_0 G.2.1 a tv t) rfl rfl (Nat.le_of_ble_eq_true rfl) rfl rfl (Nat.le_of_ble_eq_true rfl) dX12_readAll_29 ?_
    refine k_pick (lv' := [(0, .ref (a 0))]) [0] rfl ?_
    exact m_M_readAll_R_32 l G a tv n hA hr t_1 hf
  have hf := k_iff hc hf
  obtain ⟨t_2, ht_2, hf⟩ := k_cv_e hf
  obtain ⟨r_4, t_3, ht_3, hf⟩ := k_cl_e hf
  obtain ⟨x1_5, ex1_5, hf⟩ := k_lt_e hf
  refine k_aload_n (i := 0) hA dX12_readAll_6 rfl 0 rfl ?_
  refine k_callVv (As := []) (rest := []) hA (m_M_readLine_R l G a tv n t ht_2) cd_X12_readLine wd_1490 (hc_MR_0 G.2.1 a tv t) rfl rfl (Nat.le_of_ble_eq_true rfl) rfl rfl (Nat.le_of_ble_eq_true rfl) dX12_readAll_7 ?_
  refine k_aload_n (i := 0) hA dX12_readAll_10 rfl 0 rfl ?_
  refine k_iconst hA dX12_readAll_11 kc_i_4 ?_
  refine k_callVi (As := [.int (4 : Int32)]) (rest := []) hA (m_M_eats_R l G a tv n (4 : Int32) t_2 ht_3) cd_X12_eats wd_1597 (hc_MR_0 G.2.1 a tv t_2) rfl rfl (Nat.le_of_ble_eq_true rfl) rfl rfl (Nat.le_of_ble_eq_true rfl) dX12_readAll_12 ?_
  refine k_istore_n (i := 1) (lv' := [(1, .int x1_5), (0, .ref (a 0))]) hA dX12_readAll_15 rfl ex1_5 (Nat.le_of_ble_eq_true rfl) rfl ?_
  refine k_goto (tgt := 2) hA dX12_readAll_16 rfl ?_
  refine k_pick (lv' := [(0, .ref (a 0)), (1, .int x1_5)]) [1, 0] rfl ?_
  exact ih x1_5 t_3 hf

theorem m_M_readAll_R (l : Launch) (G : k_G) (a : Nat → Nat) (tv : Value) (n : Nat) (t : k_St) {t' : k_St} (hf : f_M_readAll_R n t = some t') : k_CV l G yX12_readAll cX12_readAll 2 none 12 (k_WR G.2.1 a tv t) [.ref (a 0)] (k_WR G.2.1 a tv t') := by
  refine k_startV (lv := [(0, .ref (a 0))]) (by decide +kernel) (Nat.le_of_ble_eq_true rfl) rfl ?_
  intro p e s m args below meth c hA hr
  have hA : k_Amb p s m args meth c cX12_readAll 2 "TaleSharesModel" G _ := hA
  unfold f_M_readAll_R at hf
  refine k_iconst hA dX12_readAll_0 kc_i_1 ?_
  refine k_istore_n (i := 1) (lv' := [(1, .int (1 : Int32)), (0, .ref (a 0))]) hA dX12_readAll_1 rfl rfl (Nat.le_of_ble_eq_true rfl) rfl ?_
  refine k_pick (lv' := [(0, .ref (a 0)), (1, .int (1 : Int32))]) [1, 0] rfl ?_
  exact m_M_readAll_R_2 l G a tv n hA hr n (1 : Int32) t hf

