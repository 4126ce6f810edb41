
def f_M_walks_N (n : Nat) (t : k_St) : Option (Int32 × k_St) := k_lt (k_sI t 0 0 (0 : Int32)) (fun t_1 => k_lt (f_M_refusesHouses_N t_1) (fun x1_2 => (if x1_2 ≤ 0 then k_cl (f_M_timetable_N n t_1) (fun r_4 t_3 => (if r_4 = (9999 : Int32) then k_lt (f_M_good_N (-2 : Int32) t_3) (fun q_6 => some (q_6.1, q_6.2)) else k_lt (f_M_good_N r_4 t_3) (fun q_5 => some (q_5.1, q_5.2)))) else k_lt (f_M_refused_N x1_2 t_1) (fun q_7 => some (q_7.1, q_7.2)))))
theorem m_M_walks_N (l : Launch) (G : k_G) (a : Nat → Nat) (rv : Value) (n : Nat) (t : k_St) {r : Int32} {t' : k_St} (hf : f_M_walks_N n t = some (r, t')) : k_CI l G yX12_walks cX12_walks 3 (some .int) 3 (k_WN G.2.1 a rv t) [.ref (a 0)] r (k_WN G.2.1 a rv t') := by
  refine k_startI (lv := [(0, .ref (a 0))]) (by decide +kernel) (Nat.le_of_ble_eq_true rfl) rfl ?_
  intro p e s m args below meth c hA hr
  have hA : k_Amb p s m args meth c cX12_walks 3 "TaleSharesModel" G _ := hA
  unfold f_M_walks_N at hf
  obtain ⟨t_1, et_1, hf⟩ := k_lt_e hf
  obtain ⟨x1_2, ex1_2, hf⟩ := k_lt_e hf
  refine k_aload_n (i := 0) hA dX12_walks_0 rfl 0 rfl ?_
  refine k_iconst hA dX12_walks_1 kc_i_0 ?_
  refine pt_MN_0_0 hA wd_1248 et_1 dX12_walks_2 ?_
  refine k_aload_n (i := 0) hA dX12_walks_5 rfl 0 rfl ?_
  refine k_callVi (As := []) (rest := []) hA (m_M_refusesHouses_N l G a rv t_1 rfl) cd_X12_refusesHouses wd_1796 (hc_MN_0 G.2.1 a rv t_1) rfl rfl (Nat.le_of_ble_eq_true rfl) rfl rfl (Nat.le_of_ble_eq_true rfl) dX12_walks_6 ?_
  refine k_istore_n (i := 1) (lv' := [(1, .int x1_2), (0, .ref (a 0))]) hA dX12_walks_9 rfl ex1_2 (Nat.le_of_ble_eq_true rfl) rfl ?_
  refine k_iload_n (i := 1) hA dX12_walks_10 rfl 0 rfl ?_
  refine k_if_le (tgt := 20) hA dX12_walks_11 rfl (fun hc => ?_) (fun hc => ?_)
  · have hf := k_ift hc hf
    obtain ⟨r_4, t_3, ht_3, hf⟩ := k_cl_e hf
    refine k_aload_n (i := 0) hA dX12_walks_20 rfl 1 rfl ?_
    refine k_callVi (As := []) (rest := []) hA (m_M_timetable_N l G a rv n t_1 ht_3) cd_X12_timetable wd_1800 (hc_MN_0 G.2.1 a rv t_1) rfl rfl (Nat.le_of_ble_eq_true rfl) rfl rfl (Nat.le_of_ble_eq_true rfl) dX12_walks_21 ?_
    refine k_istore_n (i := 2) (lv' := [(2, .int r_4), (1, .int x1_2), (0, .ref (a 0))]) hA dX12_walks_24 rfl rfl (Nat.le_of_ble_eq_true rfl) rfl ?_
    refine k_aload_n (i := 0) hA dX12_walks_25 rfl 2 rfl ?_
    refine k_iload_n (i := 2) hA dX12_walks_26 rfl 0 rfl ?_
    refine k_sipush hA dX12_walks_27 kc_s_9999 ?_
    refine k_icmp_ne (tgt := 38) hA dX12_walks_30 rfl (fun hc => ?_) (fun hc => ?_)
    · have hf := k_iff hc hf
      obtain ⟨⟨rq_5, tq_5⟩, hq_5, hf⟩ := k_lt_e hf
      dsimp only at hf
      obtain ⟨rfl, rfl⟩ := k_r2 hf
      refine k_iload_n (i := 2) hA dX12_walks_38 rfl 0 rfl ?_
      refine k_callVi (As := [.int r_4]) (rest := []) hA (m_M_good_N l G a rv r_4 t_3 hq_5.symm) cd_X12_good wd_1601 (hc_MN_0 G.2.1 a rv t_3) rfl rfl (Nat.le_of_ble_eq_true rfl) rfl rfl (Nat.le_of_ble_eq_true rfl) dX12_walks_39 ?_
      exact k_iret hA hr rfl dX12_walks_42
    have hf := k_ift hc hf
    obtain ⟨⟨rq_6, tq_6⟩, hq_6, hf⟩ := k_lt_e hf
    dsimp only at hf
    obtain ⟨rfl, rfl⟩ := k_r2 hf
    refine k_bipush hA dX12_walks_33 kc_b_m2 ?_
    refine k_goto (tgt := 39) hA dX12_walks_35 rfl ?_
    refine k_callVi (As := [.int (-2 : Int32)]) (rest := []) hA (m_M_good_N l G a rv (-2 : Int32) t_3 hq_6.symm) cd_X12_good wd_1601 (hc_MN_0 G.2.1 a rv t_3) rfl rfl (Nat.le_of_ble_eq_true rfl) rfl rfl (Nat.le_of_ble_eq_true rfl) dX12_walks_39 ?_
    exact k_iret hA hr rfl dX12_walks_42
  have hf := k_iff hc hf
  obtain ⟨⟨rq_7, tq_7⟩, hq_7, hf⟩ := k_lt_e hf
  dsimp only at hf
  obtain ⟨rfl, rfl⟩ := k_r2 hf
  refine k_aload_n (i := 0) hA dX12_walks_14 rfl 1 rfl ?_
  refine k_iload_n (i := 1) hA dX12_walks_15 rfl 0 rfl ?_
  refine k_callVi (As := [.int x1_2]) (rest := []) hA (m_M_refused_N l G a rv x1_2 t_1 hq_7.symm) cd_X12_refused wd_1390 (hc_MN_0 G.2.1 a rv t_1) rfl rfl (Nat.le_of_ble_eq_true rfl) rfl rfl (Nat.le_of_ble_eq_true rfl) dX12_walks_16 ?_
  exact k_iret hA hr rfl dX12_walks_19

def f_M_visit_N (n : Nat) (x1 : Int32) (t : k_St) : Option (Int32 × k_St) := k_lt (k_sI t 0 0 (0 : Int32)) (fun t_1 => (if (k_b (f_M_isHouse_N t_1 x1)) = 0 then k_lt (f_M_refused_N (1 : Int32) t_1) (fun q_2 => some (q_2.1, q_2.2)) else k_cl (f_M_timetable_N n t_1) (fun r_4 t_3 => (if r_4 = (9999 : Int32) then k_lt (f_M_refused_N (1 : Int32) t_3) (fun q_7 => some (q_7.1, q_7.2)) else k_gi x1 5 (k_lt (f_M_good_N (t_3.1 14 x1.toNatClampNeg) t_3) (fun q_6 => some (q_6.1, q_6.2)))))))
theorem m_M_visit_N (l : Launch) (G : k_G) (a : Nat → Nat) (rv : Value) (n : Nat) (x1 : Int32) (t : k_St) {r : Int32} {t' : k_St} (hf : f_M_visit_N n x1 t = some (r, t')) : k_CI l G yX12_visit cX12_visit 2 (some .int) 3 (k_WN G.2.1 a rv t) [.ref (a 0), .int x1] r (k_WN G.2.1 a rv t') := by
  refine k_startI (lv := [(0, .ref (a 0)), (1, .int x1)]) (by decide +kernel) (Nat.le_of_ble_eq_true rfl) rfl ?_
  intro p e s m args below meth c hA hr
  have hA : k_Amb p s m args meth c cX12_visit 2 "TaleSharesModel" G _ := hA
  unfold f_M_visit_N at hf
  obtain ⟨t_1, et_1, hf⟩ := k_lt_e hf
  refine k_aload_n (i := 0) hA dX12_visit_0 rfl 0 rfl ?_
  refine k_iconst hA dX12_visit_1 kc_i_0 ?_
  refine pt_MN_0_0 hA wd_1248 et_1 dX12_visit_2 ?_
  refine k_aload_n (i := 0) hA dX12_visit_5 rfl 0 rfl ?_
  refine k_iload_n (i := 1) hA dX12_visit_6 rfl 1 rfl ?_
  refine k_callVi (As := [.int x1]) (rest := []) hA (m_M_isHouse_N l G a rv t_1 x1 rfl) cd_X12_isHouse wd_1625 (hc_MN_0 G.2.1 a rv t_1) rfl rfl (Nat.le_of_ble_eq_true rfl) rfl rfl (Nat.le_of_ble_eq_true rfl) dX12_visit_7 ?_
  refine k_if_eq (tgt := 23) hA dX12_visit_10 rfl (fun hc => ?_) (fun hc => ?_)
  · have hf := k_ift hc hf
    obtain ⟨⟨rq_2, tq_2⟩, hq_2, hf⟩ := k_lt_e hf
    dsimp only at hf
    obtain ⟨rfl, rfl⟩ := k_r2 hf
    refine k_aload_n (i := 0) hA dX12_visit_23 rfl 0 rfl ?_
    refine k_iconst hA dX12_visit_24 kc_i_1 ?_
    refine k_callVi (As := [.int (1 : Int32)]) (rest := []) hA (m_M_refused_N l G a rv (1 : Int32) t_1 hq_2.symm) cd_X12_refused wd_1390 (hc_MN_0 G.2.1 a rv t_1) rfl rfl (Nat.le_of_ble_eq_true rfl) rfl rfl (Nat.le_of_ble_eq_true rfl) dX12_visit_25 ?_
    exact k_iret hA hr rfl dX12_visit_28
  have hf := k_iff hc hf
  obtain ⟨r_4, t_3, ht_3, hf⟩ := k_cl_e hf
  refine k_aload_n (i := 0) hA dX12_visit_13 rfl 0 rfl ?_
  refine k_callVi (As := []) (rest := []) hA (m_M_timetable_N l G a rv n t_1 ht_3) cd_X12_timetable wd_1800 (hc_MN_0 G.2.1 a rv t_1) rfl rfl (Nat.le_of_ble_eq_true rfl) rfl rfl (Nat.le_of_ble_eq_true rfl) dX12_visit_14 ?_
  refine k_sipush hA dX12_visit_17 kc_s_9999 ?_
  refine k_icmp_ne (tgt := 29) hA dX12_visit_20 rfl (fun hc => ?_) (fun hc => ?_)
  · have hf := k_iff hc hf
    obtain ⟨hi_5, hf⟩ := k_gi_e hf
    obtain ⟨⟨rq_6, tq_6⟩, hq_6, hf⟩ := k_lt_e hf
    dsimp only at hf
    obtain ⟨rfl, rfl⟩ := k_r2 hf
    refine k_aload_n (i := 0) hA dX12_visit_29 rfl 0 rfl ?_
    refine k_aload_n (i := 0) hA dX12_visit_30 rfl 0 rfl ?_
    refine gt_MN_0_35 hA wd_1283 dX12_visit_31 ?_
    refine k_iload_n (i := 1) hA dX12_visit_34 rfl 1 rfl ?_
    refine ld_MN_14 hA hi_5 dX12_visit_35 ?_
    refine k_callVi (As := [.int (t_3.1 14 x1.toNatClampNeg)]) (rest := []) hA (m_M_good_N l G a rv (t_3.1 14 x1.toNatClampNeg) t_3 hq_6.symm) cd_X12_good wd_1601 (hc_MN_0 G.2.1 a rv t_3) rfl rfl (Nat.le_of_ble_eq_true rfl) rfl rfl (Nat.le_of_ble_eq_true rfl) dX12_visit_36 ?_
    exact k_iret hA hr rfl dX12_visit_39
  have hf := k_ift hc hf
  obtain ⟨⟨rq_7, tq_7⟩, hq_7, hf⟩ := k_lt_e hf
  dsimp only at hf
  obtain ⟨rfl, rfl⟩ := k_r2 hf
  refine k_aload_n (i := 0) hA dX12_visit_23 rfl 0 rfl ?_
  refine k_iconst hA dX12_visit_24 kc_i_1 ?_
  refine k_callVi (As := [.int (1 : Int32)]) (rest := []) hA (m_M_refused_N l G a rv (1 : Int32) t_3 hq_7.symm) cd_X12_refused wd_1390 (hc_MN_0 G.2.1 a rv t_3) rfl rfl (Nat.le_of_ble_eq_true rfl) rfl rfl (Nat.le_of_ble_eq_true rfl) dX12_visit_25 ?_
  exact k_iret hA hr rfl dX12_visit_28

def f_M_hourOf_N (n : Nat) (x1 : Int32) (t : k_St) : Option (Int32 × k_St) := k_lt (k_sI t 0 0 (0 : Int32)) (fun t_1 => (if (k_b (f_M_isHouse_N t_1 x1)) = 0 then k_lt (f_M_refused_N (1 : Int32) t_1) (fun q_7 => some (q_7.1, q_7.2)) else k_cl (f_M_timetable_N n t_1) (fun r_3 t_2 => (if r_3 = (9999 : Int32) then k_lt (f_M_good_N (-2 : Int32) t_2) (fun q_6 => some (q_6.1, q_6.2)) else k_gi x1 5 (k_lt (f_M_good_N (t_2.1 15 x1.toNatClampNeg) t_2) (fun q_5 => some (q_5.1, q_5.2)))))))
theorem m_M_hourOf_N (l : Launch) (G : k_G) (a : Nat → Nat) (rv : Value) (n : Nat) (x1 : Int32) (t : k_St) {r : Int32} {t' : k_St} (hf : f_M_hourOf_N n x1 t = some (r, t')) : k_CI l G yX12_hourOf cX12_hourOf 2 (some .int) 3 (k_WN G.2.1 a rv t) [.ref (a 0), .int x1] r (k_WN G.2.1 a rv t') := by
  refine k_startI (lv := [(0, .ref (a 0)), (1, .int x1)]) (by decide +kernel) (Nat.le_of_ble_eq_true rfl) rfl ?_
  intro p e s m args below meth c hA hr
  have hA : k_Amb p s m args meth c cX12_hourOf 2 "TaleSharesModel" G _ := hA
  unfold f_M_hourOf_N at hf
  obtain ⟨t_1, et_1, hf⟩ := k_lt_e hf
  refine k_aload_n (i := 0) hA dX12_hourOf_0 rfl 0 rfl ?_
  refine k_iconst hA dX12_hourOf_1 kc_i_0 ?_
  refine pt_MN_0_0 hA wd_1248 et_1 dX12_hourOf_2 ?_
  refine k_aload_n (i := 0) hA dX12_hourOf_5 rfl 0 rfl ?_
  refine k_iload_n (i := 1) hA dX12_hourOf_6 rfl 1 rfl ?_
  refine k_callVi (As := [.int x1]) (rest := []) hA (m_M_isHouse_N l G a rv t_1 x1 rfl) cd_X12_isHouse wd_1625 (hc_MN_0 G.2.1 a rv t_1) rfl rfl (Nat.le_of_ble_eq_true rfl) rfl rfl (Nat.le_of_ble_eq_true rfl) dX12_hourOf_7 ?_
  refine k_if_ne (tgt := 19) hA dX12_hourOf_10 rfl (fun hc => ?_) (fun hc => ?_)
  · have hf := k_iff hc hf
    obtain ⟨r_3, t_2, ht_2, hf⟩ := k_cl_e hf
    refine k_aload_n (i := 0) hA dX12_hourOf_19 rfl 0 rfl ?_
    refine k_aload_n (i := 0) hA dX12_hourOf_20 rfl 0 rfl ?_
    refine k_callVi (As := []) (rest := [.ref (a 0)]) hA (m_M_timetable_N l G a rv n t_1 ht_2) cd_X12_timetable wd_1800 (hc_MN_0 G.2.1 a rv t_1) rfl rfl (Nat.le_of_ble_eq_true rfl) rfl rfl (Nat.le_of_ble_eq_true rfl) dX12_hourOf_21 ?_
    refine k_sipush hA dX12_hourOf_24 kc_s_9999 ?_
    refine k_icmp_ne (tgt := 35) hA dX12_hourOf_27 rfl (fun hc => ?_) (fun hc => ?_)
    · have hf := k_iff hc hf
      obtain ⟨hi_4, hf⟩ := k_gi_e hf
      obtain ⟨⟨rq_5, tq_5⟩, hq_5, hf⟩ := k_lt_e hf
      dsimp only at hf
      obtain ⟨rfl, rfl⟩ := k_r2 hf
      refine k_aload_n (i := 0) hA dX12_hourOf_35 rfl 0 rfl ?_
      refine gt_MN_0_36 hA wd_1284 dX12_hourOf_36 ?_
      refine k_iload_n (i := 1) hA dX12_hourOf_39 rfl 1 rfl ?_
      refine ld_MN_15 hA hi_4 dX12_hourOf_40 ?_
      refine k_callVi (As := [.int (t_2.1 15 x1.toNatClampNeg)]) (rest := []) hA (m_M_good_N l G a rv (t_2.1 15 x1.toNatClampNeg) t_2 hq_5.symm) cd_X12_good wd_1601 (hc_MN_0 G.2.1 a rv t_2) rfl rfl (Nat.le_of_ble_eq_true rfl) rfl rfl (Nat.le_of_ble_eq_true rfl) dX12_hourOf_41 ?_
      exact k_iret hA hr rfl dX12_hourOf_44
    have hf := k_ift hc hf
    obtain ⟨⟨rq_6, tq_6⟩, hq_6, hf⟩ := k_lt_e hf
    dsimp only at hf
    obtain ⟨rfl, rfl⟩ := k_r2 hf
    refine k_bipush hA dX12_hourOf_30 kc_b_m2 ?_
    refine k_goto (tgt := 41) hA dX12_hourOf_32 rfl ?_
    refine k_callVi (As := [.int (-2 : Int32)]) (rest := []) hA (m_M_good_N l G a rv (-2 : Int32) t_2 hq_6.symm) cd_X12_good wd_1601 (hc_MN_0 G.2.1 a rv t_2) rfl rfl (Nat.le_of_ble_eq_true rfl) rfl rfl (Nat.le_of_ble_eq_true rfl) dX12_hourOf_41 ?_
    exact k_iret hA hr rfl dX12_hourOf_44
  have hf := k_ift hc hf
  obtain ⟨⟨rq_7, tq_7⟩, hq_7, hf⟩ := k_lt_e hf
  dsimp only at hf
  obtain ⟨rfl, rfl⟩ := k_r2 hf
  refine k_aload_n (i := 0) hA dX12_hourOf_13 rfl 0 rfl ?_
  refine k_iconst hA dX12_hourOf_14 kc_i_1 ?_
  refine k_callVi (As := [.int (1 : Int32)]) (rest := []) hA (m_M_refused_N l G a rv (1 : Int32) t_1 hq_7.symm) cd_X12_refused wd_1390 (hc_MN_0 G.2.1 a rv t_1) rfl rfl (Nat.le_of_ble_eq_true rfl) rfl rfl (Nat.le_of_ble_eq_true rfl) dX12_hourOf_15 ?_
  exact k_iret hA hr rfl dX12_hourOf_18

def f_M_orders_N (n : Nat) (t : k_St) : Option (Int32 × k_St) := k_lt (k_sI t 0 0 (0 : Int32)) (fun t_1 => k_lt (f_M_refusesHouses_N t_1) (fun x1_2 => (if x1_2 ≤ 0 then k_cl (f_M_timetable_N n t_1) (fun r_4 t_3 => k_lt (f_M_good_N (t_3.1 0 37) t_3) (fun q_5 => some (q_5.1, q_5.2))) else k_lt (f_M_refused_N x1_2 t_1) (fun q_6 => some (q_6.1, q_6.2)))))
theorem m_M_orders_N (l : Launch) (G : k_G) (a : Nat → Nat) (rv : Value) (n : Nat) (t : k_St) {r : Int32} {t' : k_St} (hf : f_M_orders_N n t = some (r, t')) : k_CI l G yX12_orders cX12_orders 2 (some .int) 3 (k_WN G.2.1 a rv t) [.ref (a 0)] r (k_WN G.2.1 a rv t') := by
  refine k_startI (lv := [(0, .ref (a 0))]) (by decide +kernel) (Nat.le_of_ble_eq_true rfl) rfl ?_
  intro p e s m args below meth c hA hr
  have hA : k_Amb p s m args meth c cX12_orders 2 "TaleSharesModel" G _ := hA
  unfold f_M_orders_N at hf
  obtain ⟨t_1, et_1, hf⟩ := k_lt_e hf
  obtain ⟨x1_2, ex1_2, hf⟩ := k_lt_e hf
  refine k_aload_n (i := 0) hA dX12_orders_0 rfl 0 rfl ?_
  refine k_iconst hA dX12_orders_1 kc_i_0 ?_
  refine pt_MN_0_0 hA wd_1248 et_1 dX12_orders_2 ?_
  refine k_aload_n (i := 0) hA dX12_orders_5 rfl 0 rfl ?_
  refine k_callVi (As := []) (rest := []) hA (m_M_refusesHouses_N l G a rv t_1 rfl) cd_X12_refusesHouses wd_1796 (hc_MN_0 G.2.1 a rv t_1) rfl rfl (Nat.le_of_ble_eq_true rfl) rfl rfl (Nat.le_of_ble_eq_true rfl) dX12_orders_6 ?_
  refine k_istore_n (i := 1) (lv' := [(1, .int x1_2), (0, .ref (a 0))]) hA dX12_orders_9 rfl ex1_2 (Nat.le_of_ble_eq_true rfl) rfl ?_
  refine k_iload_n (i := 1) hA dX12_orders_10 rfl 0 rfl ?_
  refine k_if_le (tgt := 20) hA dX12_orders_11 rfl (fun hc => ?_) (fun hc => ?_)
  · have hf := k_ift hc hf
    obtain ⟨r_4, t_3, ht_3, hf⟩ := k_cl_e hf
    obtain ⟨⟨rq_5, tq_5⟩, hq_5, hf⟩ := k_lt_e hf
    dsimp only at hf
    obtain ⟨rfl, rfl⟩ := k_r2 hf
    refine k_aload_n (i := 0) hA dX12_orders_20 rfl 1 rfl ?_
    refine k_callVi (As := []) (rest := []) hA (m_M_timetable_N l G a rv n t_1 ht_3) cd_X12_timetable wd_1800 (hc_MN_0 G.2.1 a rv t_1) rfl rfl (Nat.le_of_ble_eq_true rfl) rfl rfl (Nat.le_of_ble_eq_true rfl) dX12_orders_21 ?_
    refine k_pop hA dX12_orders_24 rfl ?_
    refine k_aload_n (i := 0) hA dX12_orders_25 rfl 1 rfl ?_
    refine k_aload_n (i := 0) hA dX12_orders_26 rfl 1 rfl ?_
    refine gt_MN_0_37 hA wd_1285 dX12_orders_27 ?_
    refine k_callVi (As := [.int (t_3.1 0 37)]) (rest := []) hA (m_M_good_N l G a rv (t_3.1 0 37) t_3 hq_5.symm) cd_X12_good wd_1601 (hc_MN_0 G.2.1 a rv t_3) rfl rfl (Nat.le_of_ble_eq_true rfl) rfl rfl (Nat.le_of_ble_eq_true rfl) dX12_orders_30 ?_
    exact k_iret hA hr rfl dX12_orders_33
  have hf := k_iff hc hf
  obtain ⟨⟨rq_6, tq_6⟩, hq_6, hf⟩ := k_lt_e hf
  dsimp only at hf
  obtain ⟨rfl, rfl⟩ := k_r2 hf
  refine k_aload_n (i := 0) hA dX12_orders_14 rfl 1 rfl ?_
  refine k_iload_n (i := 1) hA dX12_orders_15 rfl 0 rfl ?_
  refine k_callVi (As := [.int x1_2]) (rest := []) hA (m_M_refused_N l G a rv x1_2 t_1 hq_6.symm) cd_X12_refused wd_1390 (hc_MN_0 G.2.1 a rv t_1) rfl rfl (Nat.le_of_ble_eq_true rfl) rfl rfl (Nat.le_of_ble_eq_true rfl) dX12_orders_16 ?_
  exact k_iret hA hr rfl dX12_orders_19

def f_M_refusesMixed_N (t : k_St) : Int32 := (1 : Int32)
theorem m_M_refusesMixed_N (l : Launch) (G : k_G) (a : Nat → Nat) (rv : Value) (t : k_St) {r : Int32} (hf : f_M_refusesMixed_N t = r) : k_CI l G yX12_refusesMixed cX12_refusesMixed 1 (some .int) 1 (k_WN G.2.1 a rv t) [.ref (a 0)] r (k_WN G.2.1 a rv t) := by
  refine k_startI (lv := [(0, .ref (a 0))]) (by decide +kernel) (Nat.le_of_ble_eq_true rfl) rfl ?_
  intro p e s m args below meth c hA hr
  have hA : k_Amb p s m args meth c cX12_refusesMixed 1 "TaleSharesModel" G _ := hA
  unfold f_M_refusesMixed_N at hf
  subst hf
  refine k_aload_n (i := 0) hA dX12_refusesMixed_0 rfl 0 rfl ?_
  refine gt_MN_0_3 hA wd_1251 dX12_refusesMixed_1 ?_
  refine k_ifnonnullN hA dX12_refusesMixed_4 ?_
  refine k_iconst hA dX12_refusesMixed_7 kc_i_1 ?_
  refine k_goto (tgt := 27) hA dX12_refusesMixed_8 rfl ?_
  exact k_iret hA hr rfl dX12_refusesMixed_27

def f_M_slipsAll_N (t : k_St) : Option (Int32 × k_St) := k_lt (k_sI t 0 41 (0 : Int32)) (fun t_1 => k_lt (k_sI t_1 0 40 (0 : Int32)) (fun t_2 => none))
theorem m_M_slipsAll_N (l : Launch) (G : k_G) (a : Nat → Nat) (rv : Value) (t : k_St) {r : Int32} {t' : k_St} (hf : f_M_slipsAll_N t = some (r, t')) : k_CI l G yX12_slipsAll cX12_slipsAll 4 (some .int) 1 (k_WN G.2.1 a rv t) [.ref (a 0)] r (k_WN G.2.1 a rv t') := by
  refine k_startI (lv := [(0, .ref (a 0))]) (by decide +kernel) (Nat.le_of_ble_eq_true rfl) rfl ?_
  intro p e s m args below meth c hA hr
  have hA : k_Amb p s m args meth c cX12_slipsAll 4 "TaleSharesModel" G _ := hA
  unfold f_M_slipsAll_N at hf
  obtain ⟨t_1, et_1, hf⟩ := k_lt_e hf
  obtain ⟨t_2, et_2, hf⟩ := k_lt_e hf
  cases hf

def f_M_slips_N (t : k_St) : Option (Int32 × k_St) := k_lt (k_sI t 0 0 (0 : Int32)) (fun t_1 => k_lt (f_M_refusesMixed_N t_1) (fun x1_2 => (if x1_2 ≤ 0 then k_cl (f_M_slipsAll_N t_1) (fun r_4 t_3 => k_lt (f_M_good_N r_4 t_3) (fun q_5 => some (q_5.1, q_5.2))) else k_lt (f_M_refused_N x1_2 t_1) (fun q_6 => some (q_6.1, q_6.2)))))
theorem m_M_slips_N (l : Launch) (G : k_G) (a : Nat → Nat) (rv : Value) (t : k_St) {r : Int32} {t' : k_St} (hf : f_M_slips_N t = some (r, t')) : k_CI l G yX12_slips cX12_slips 2 (some .int) 2 (k_WN G.2.1 a rv t) [.ref (a 0)] r (k_WN G.2.1 a rv t') := by
  refine k_startI (lv := [(0, .ref (a 0))]) (by decide +kernel) (Nat.le_of_ble_eq_true rfl) rfl ?_
  intro p e s m args below meth c hA hr
  have hA : k_Amb p s m args meth c cX12_slips 2 "TaleSharesModel" G _ := hA
  unfold f_M_slips_N at hf
  obtain ⟨t_1, et_1, hf⟩ := k_lt_e hf
  obtain ⟨x1_2, ex1_2, hf⟩ := k_lt_e hf
  refine k_aload_n (i := 0) hA dX12_slips_0 rfl 0 rfl ?_
  refine k_iconst hA dX12_slips_1 kc_i_0 ?_
  refine pt_MN_0_0 hA wd_1248 et_1 dX12_slips_2 ?_
  refine k_aload_n (i := 0) hA dX12_slips_5 rfl 0 rfl ?_
  refine k_callVi (As := []) (rest := []) hA (m_M_refusesMixed_N l G a rv t_1 rfl) cd_X12_refusesMixed wd_1832 (hc_MN_0 G.2.1 a rv t_1) rfl rfl (Nat.le_of_ble_eq_true rfl) rfl rfl (Nat.le_of_ble_eq_true rfl) dX12_slips_6 ?_
  refine k_istore_n (i := 1) (lv' := [(1, .int x1_2), (0, .ref (a 0))]) hA dX12_slips_9 rfl ex1_2 (Nat.le_of_ble_eq_true rfl) rfl ?_
  refine k_iload_n (i := 1) hA dX12_slips_10 rfl 0 rfl ?_
  refine k_if_le (tgt := 22) hA dX12_slips_11 rfl (fun hc => ?_) (fun hc => ?_)
  · have hf := k_ift hc hf
    obtain ⟨r_4, t_3, ht_3, hf⟩ := k_cl_e hf
    obtain ⟨⟨rq_5, tq_5⟩, hq_5, hf⟩ := k_lt_e hf
    dsimp only at hf
    obtain ⟨rfl, rfl⟩ := k_r2 hf
    refine k_aload_n (i := 0) hA dX12_slips_22 rfl 1 rfl ?_
    refine k_aload_n (i := 0) hA dX12_slips_23 rfl 1 rfl ?_
    refine k_callVi (As := []) (rest := [.ref (a 0)]) hA (m_M_slipsAll_N l G a rv t_1 ht_3) cd_X12_slipsAll wd_1836 (hc_MN_0 G.2.1 a rv t_1) rfl rfl (Nat.le_of_ble_eq_true rfl) rfl rfl (Nat.le_of_ble_eq_true rfl) dX12_slips_24 ?_
    refine k_callVi (As := [.int r_4]) (rest := []) hA (m_M_good_N l G a rv r_4 t_3 hq_5.symm) cd_X12_good wd_1601 (hc_MN_0 G.2.1 a rv t_3) rfl rfl (Nat.le_of_ble_eq_true rfl) rfl rfl (Nat.le_of_ble_eq_true rfl) dX12_slips_27 ?_
    exact k_iret hA hr rfl dX12_slips_30
  have hf := k_iff hc hf
  obtain ⟨⟨rq_6, tq_6⟩, hq_6, hf⟩ := k_lt_e hf
  dsimp only at hf
  obtain ⟨rfl, rfl⟩ := k_r2 hf
  refine k_aload_n (i := 0) hA dX12_slips_14 rfl 1 rfl ?_
  refine k_iload_n (i := 1) hA dX12_slips_15 rfl 0 rfl ?_
  refine k_callVi (As := [.int x1_2]) (rest := []) hA (m_M_refused_N l G a rv x1_2 t_1 hq_6.symm) cd_X12_refused wd_1390 (hc_MN_0 G.2.1 a rv t_1) rfl rfl (Nat.le_of_ble_eq_true rfl) rfl rfl (Nat.le_of_ble_eq_true rfl) dX12_slips_16 ?_
  refine k_goto (tgt := 30) hA dX12_slips_19 rfl ?_
  exact k_iret hA hr rfl dX12_slips_30

def f_M_meant_N (x1 : Int32) (t : k_St) : Option (Int32 × k_St) := k_lt (k_sI t 0 0 (0 : Int32)) (fun t_1 => k_lt (f_M_refusesMixed_N t_1) (fun x2_2 => (if x2_2 ≤ 0 then k_cl (f_M_slipsAll_N t_1) (fun r_4 t_3 => (if x1 < 0 then k_lt (f_M_refused_N (1 : Int32) t_3) (fun q_5 => some (q_5.1, q_5.2)) else (if (t_3.1 0 40) ≤ x1 then k_lt (f_M_refused_N (1 : Int32) t_3) (fun q_6 => some (q_6.1, q_6.2)) else k_gi x1 8 (k_lt (f_M_good_N (t_3.1 17 x1.toNatClampNeg) t_3) (fun q_8 => some (q_8.1, q_8.2)))))) else k_lt (f_M_refused_N x2_2 t_1) (fun q_9 => some (q_9.1, q_9.2)))))
theorem m_M_meant_N (l : Launch) (G : k_G) (a : Nat → Nat) (rv : Value) (x1 : Int32) (t : k_St) {r : Int32} {t' : k_St} (hf : f_M_meant_N x1 t = some (r, t')) : k_CI l G yX12_meant cX12_meant 3 (some .int) 2 (k_WN G.2.1 a rv t) [.ref (a 0), .int x1] r (k_WN G.2.1 a rv t') := by
  refine k_startI (lv := [(0, .ref (a 0)), (1, .int x1)]) (by decide +kernel) (Nat.le_of_ble_eq_true rfl) rfl ?_
  intro p e s m args below meth c hA hr
  have hA : k_Amb p s m args meth c cX12_meant 3 "TaleSharesModel" G _ := hA
  unfold f_M_meant_N at hf
  obtain ⟨t_1, et_1, hf⟩ := k_lt_e hf
  obtain ⟨x2_2, ex2_2, hf⟩ := k_lt_e hf
  refine k_aload_n (i := 0) hA dX12_meant_0 rfl 0 rfl ?_
  refine k_iconst hA dX12_meant_1 kc_i_0 ?_
  refine pt_MN_0_0 hA wd_1248 et_1 dX12_meant_2 ?_
  refine k_aload_n (i := 0) hA dX12_meant_5 rfl 0 rfl ?_
  refine k_callVi (As := []) (rest := []) hA (m_M_refusesMixed_N l G a rv t_1 rfl) cd_X12_refusesMixed wd_1832 (hc_MN_0 G.2.1 a rv t_1) rfl rfl (Nat.le_of_ble_eq_true rfl) rfl rfl (Nat.le_of_ble_eq_true rfl) dX12_meant_6 ?_
  refine k_istore_n (i := 2) (lv' := [(2, .int x2_2), (0, .ref (a 0)), (1, .int x1)]) hA dX12_meant_9 rfl ex2_2 (Nat.le_of_ble_eq_true rfl) rfl ?_
  refine k_iload_n (i := 2) hA dX12_meant_10 rfl 0 rfl ?_
  refine k_if_le (tgt := 20) hA dX12_meant_11 rfl (fun hc => ?_) (fun hc => ?_)
  · have hf := k_ift hc hf
    obtain ⟨r_4, t_3, ht_3, hf⟩ := k_cl_e hf
    refine k_aload_n (i := 0) hA dX12_meant_20 rfl 1 rfl ?_
    refine k_callVi (As := []) (rest := []) hA (m_M_slipsAll_N l G a rv t_1 ht_3) cd_X12_slipsAll wd_1836 (hc_MN_0 G.2.1 a rv t_1) rfl rfl (Nat.le_of_ble_eq_true rfl) rfl rfl (Nat.le_of_ble_eq_true rfl) dX12_meant_21 ?_
    refine k_pop hA dX12_meant_24 rfl ?_
    refine k_iload_n (i := 1) hA dX12_meant_25 rfl 2 rfl ?_
    refine k_if_lt (tgt := 50) hA dX12_meant_26 rfl (fun hc => ?_) (fun hc => ?_)
    · have hf := k_ift hc hf
      obtain ⟨⟨rq_5, tq_5⟩, hq_5, hf⟩ := k_lt_e hf
      dsimp only at hf
      obtain ⟨rfl, rfl⟩ := k_r2 hf
      refine k_aload_n (i := 0) hA dX12_meant_50 rfl 1 rfl ?_
      refine k_iconst hA dX12_meant_51 kc_i_1 ?_
      refine k_callVi (As := [.int (1 : Int32)]) (rest := []) hA (m_M_refused_N l G a rv (1 : Int32) t_3 hq_5.symm) cd_X12_refused wd_1390 (hc_MN_0 G.2.1 a rv t_3) rfl rfl (Nat.le_of_ble_eq_true rfl) rfl rfl (Nat.le_of_ble_eq_true rfl) dX12_meant_52 ?_
      exact k_iret hA hr rfl dX12_meant_55
    have hf := k_iff hc hf
    refine k_iload_n (i := 1) hA dX12_meant_29 rfl 2 rfl ?_
    refine k_aload_n (i := 0) hA dX12_meant_30 rfl 1 rfl ?_
    refine gt_MN_0_40 hA wd_1288 dX12_meant_31 ?_
    refine k_icmp_ge (tgt := 50) hA dX12_meant_34 rfl (fun hc => ?_) (fun hc => ?_)
    · have hf := k_ift hc hf
      obtain ⟨⟨rq_6, tq_6⟩, hq_6, hf⟩ := k_lt_e hf
      dsimp only at hf
      obtain ⟨rfl, rfl⟩ := k_r2 hf
      refine k_aload_n (i := 0) hA dX12_meant_50 rfl 1 rfl ?_
      refine k_iconst hA dX12_meant_51 kc_i_1 ?_
      refine k_callVi (As := [.int (1 : Int32)]) (rest := []) hA (m_M_refused_N l G a rv (1 : Int32) t_3 hq_6.symm) cd_X12_refused wd_1390 (hc_MN_0 G.2.1 a rv t_3) rfl rfl (Nat.le_of_ble_eq_true rfl) rfl rfl (Nat.le_of_ble_eq_true rfl) dX12_meant_52 ?_
      exact k_iret hA hr rfl dX12_meant_55
    have hf := k_iff hc hf
    obtain ⟨hi_7, hf⟩ := k_gi_e hf
    obtain ⟨⟨rq_8, tq_8⟩, hq_8, hf⟩ := k_lt_e hf
    dsimp only at hf
    obtain ⟨rfl, rfl⟩ := k_r2 hf
    refine k_aload_n (i := 0) hA dX12_meant_37 rfl 1 rfl ?_
    refine k_aload_n (i := 0) hA dX12_meant_38 rfl 1 rfl ?_
    refine gt_MN_0_39 hA wd_1287 dX12_meant_39 ?_
    refine k_iload_n (i := 1) hA dX12_meant_42 rfl 2 rfl ?_
    refine ld_MN_17 hA hi_7 dX12_meant_43 ?_
    refine k_callVi (As := [.int (t_3.1 17 x1.toNatClampNeg)]) (rest := []) hA (m_M_good_N l G a rv (t_3.1 17 x1.toNatClampNeg) t_3 hq_8.symm) cd_X12_good wd_1601 (hc_MN_0 G.2.1 a rv t_3) rfl rfl (Nat.le_of_ble_eq_true rfl) rfl rfl (Nat.le_of_ble_eq_true rfl) dX12_meant_44 ?_
    refine k_goto (tgt := 55) hA dX12_meant_47 rfl ?_
    exact k_iret hA hr rfl dX12_meant_55
  have hf := k_iff hc hf
  obtain ⟨⟨rq_9, tq_9⟩, hq_9, hf⟩ := k_lt_e hf
  dsimp only at hf
  obtain ⟨rfl, rfl⟩ := k_r2 hf
  refine k_aload_n (i := 0) hA dX12_meant_14 rfl 1 rfl ?_
  refine k_iload_n (i := 2) hA dX12_meant_15 rfl 0 rfl ?_
  refine k_callVi (As := [.int x2_2]) (rest := []) hA (m_M_refused_N l G a rv x2_2 t_1 hq_9.symm) cd_X12_refused wd_1390 (hc_MN_0 G.2.1 a rv t_1) rfl rfl (Nat.le_of_ble_eq_true rfl) rfl rfl (Nat.le_of_ble_eq_true rfl) dX12_meant_16 ?_
  exact k_iret hA hr rfl dX12_meant_19

def f_M_meanings_N (t : k_St) : Option (Int32 × k_St) := k_lt (k_sI t 0 0 (0 : Int32)) (fun t_1 => k_lt (f_M_refusesMixed_N t_1) (fun x1_2 => (if x1_2 ≤ 0 then k_cl (f_M_slipsAll_N t_1) (fun r_4 t_3 => k_lt (f_M_good_N (t_3.1 0 41) t_3) (fun q_5 => some (q_5.1, q_5.2))) else k_lt (f_M_refused_N x1_2 t_1) (fun q_6 => some (q_6.1, q_6.2)))))
theorem m_M_meanings_N (l : Launch) (G : k_G) (a : Nat → Nat) (rv : Value) (t : k_St) {r : Int32} {t' : k_St} (hf : f_M_meanings_N t = some (r, t')) : k_CI l G yX12_meanings cX12_meanings 2 (some .int) 2 (k_WN G.2.1 a rv t) [.ref (a 0)] r (k_WN G.2.1 a rv t') := by
  refine k_startI (lv := [(0, .ref (a 0))]) (by decide +kernel) (Nat.le_of_ble_eq_true rfl) rfl ?_
  intro p e s m args below meth c hA hr
  have hA : k_Amb p s m args meth c cX12_meanings 2 "TaleSharesModel" G _ := hA
  unfold f_M_meanings_N at hf
  obtain ⟨t_1, et_1, hf⟩ := k_lt_e hf
  obtain ⟨x1_2, ex1_2, hf⟩ := k_lt_e hf
  refine k_aload_n (i := 0) hA dX12_meanings_0 rfl 0 rfl ?_
  refine k_iconst hA dX12_meanings_1 kc_i_0 ?_
  refine pt_MN_0_0 hA wd_1248 et_1 dX12_meanings_2 ?_
  refine k_aload_n (i := 0) hA dX12_meanings_5 rfl 0 rfl ?_
  refine k_callVi (As := []) (rest := []) hA (m_M_refusesMixed_N l G a rv t_1 rfl) cd_X12_refusesMixed wd_1832 (hc_MN_0 G.2.1 a rv t_1) rfl rfl (Nat.le_of_ble_eq_true rfl) rfl rfl (Nat.le_of_ble_eq_true rfl) dX12_meanings_6 ?_
  refine k_istore_n (i := 1) (lv' := [(1, .int x1_2), (0, .ref (a 0))]) hA dX12_meanings_9 rfl ex1_2 (Nat.le_of_ble_eq_true rfl) rfl ?_
  refine k_iload_n (i := 1) hA dX12_meanings_10 rfl 0 rfl ?_
  refine k_if_le (tgt := 20) hA dX12_meanings_11 rfl (fun hc => ?_) (fun hc => ?_)
  · have hf := k_ift hc hf
    obtain ⟨r_4, t_3, ht_3, hf⟩ := k_cl_e hf
    obtain ⟨⟨rq_5, tq_5⟩, hq_5, hf⟩ := k_lt_e hf
    dsimp only at hf
    obtain ⟨rfl, rfl⟩ := k_r2 hf
    refine k_aload_n (i := 0) hA dX12_meanings_20 rfl 1 rfl ?_
    refine k_callVi (As := []) (rest := []) hA (m_M_slipsAll_N l G a rv t_1 ht_3) cd_X12_slipsAll wd_1836 (hc_MN_0 G.2.1 a rv t_1) rfl rfl (Nat.le_of_ble_eq_true rfl) rfl rfl (Nat.le_of_ble_eq_true rfl) dX12_meanings_21 ?_
    refine k_pop hA dX12_meanings_24 rfl ?_
    refine k_aload_n (i := 0) hA dX12_meanings_25 rfl 1 rfl ?_
    refine k_aload_n (i := 0) hA dX12_meanings_26 rfl 1 rfl ?_
    refine gt_MN_0_41 hA wd_1289 dX12_meanings_27 ?_
    refine k_callVi (As := [.int (t_3.1 0 41)]) (rest := []) hA (m_M_good_N l G a rv (t_3.1 0 41) t_3 hq_5.symm) cd_X12_good wd_1601 (hc_MN_0 G.2.1 a rv t_3) rfl rfl (Nat.le_of_ble_eq_true rfl) rfl rfl (Nat.le_of_ble_eq_true rfl) dX12_meanings_30 ?_
    exact k_iret hA hr rfl dX12_meanings_33
  have hf := k_iff hc hf
  obtain ⟨⟨rq_6, tq_6⟩, hq_6, hf⟩ := k_lt_e hf
  dsimp only at hf
  obtain ⟨rfl, rfl⟩ := k_r2 hf
  refine k_aload_n (i := 0) hA dX12_meanings_14 rfl 1 rfl ?_
  refine k_iload_n (i := 1) hA dX12_meanings_15 rfl 0 rfl ?_
  refine k_callVi (As := [.int x1_2]) (rest := []) hA (m_M_refused_N l G a rv x1_2 t_1 hq_6.symm) cd_X12_refused wd_1390 (hc_MN_0 G.2.1 a rv t_1) rfl rfl (Nat.le_of_ble_eq_true rfl) rfl rfl (Nat.le_of_ble_eq_true rfl) dX12_meanings_16 ?_
  exact k_iret hA hr rfl dX12_meanings_19

def f_M_refusesWorth_N (t : k_St) (x1 : Int32) : Int32 := (1 : Int32)
theorem m_M_refusesWorth_N (l : Launch) (G : k_G) (a : Nat → Nat) (rv : Value) (t : k_St) (x1 : Int32) {r : Int32} (hf : f_M_refusesWorth_N t x1 = r) : k_CI l G yX12_refusesWorth cX12_refusesWorth 2 (some .int) 1 (k_WN G.2.1 a rv t) [.ref (a 0), .int x1] r (k_WN G.2.1 a rv t) := by
  refine k_startI (lv := [(0, .ref (a 0)), (1, .int x1)]) (by decide +kernel) (Nat.le_of_ble_eq_true rfl) rfl ?_
  intro p e s m args below meth c hA hr
  have hA : k_Amb p s m args meth c cX12_refusesWorth 2 "TaleSharesModel" G _ := hA
  unfold f_M_refusesWorth_N at hf
  subst hf
  refine k_aload_n (i := 0) hA dX12_refusesWorth_0 rfl 0 rfl ?_
  refine gt_MN_0_3 hA wd_1251 dX12_refusesWorth_1 ?_
  refine k_ifnonnullN hA dX12_refusesWorth_4 ?_
  refine k_iconst hA dX12_refusesWorth_7 kc_i_1 ?_
  refine k_goto (tgt := 26) hA dX12_refusesWorth_8 rfl ?_
  exact k_iret hA hr rfl dX12_refusesWorth_26

def f_M_lost_N (x1 : Int32) (t : k_St) : Int32 × k_St := k_lt (f_M_refused_N x1 t) (fun q_1 => ((-100 : Int32), q_1.2))
theorem m_M_lost_N (l : Launch) (G : k_G) (a : Nat → Nat) (rv : Value) (x1 : Int32) (t : k_St) {r : Int32} {t' : k_St} (hf : f_M_lost_N x1 t = (r, t')) : k_CI l G yX12_lost cX12_lost 2 (some .int) 2 (k_WN G.2.1 a rv t) [.ref (a 0), .int x1] r (k_WN G.2.1 a rv t') := by
  refine k_startI (lv := [(0, .ref (a 0)), (1, .int x1)]) (by decide +kernel) (Nat.le_of_ble_eq_true rfl) rfl ?_
  intro p e s m args below meth c hA hr
  have hA : k_Amb p s m args meth c cX12_lost 2 "TaleSharesModel" G _ := hA
  unfold f_M_lost_N at hf
  obtain ⟨⟨rq_1, tq_1⟩, hq_1, hf⟩ := k_lt_e hf
  dsimp only at hf
  obtain ⟨rfl, rfl⟩ := k_p2 hf
  refine k_aload_n (i := 0) hA dX12_lost_0 rfl 0 rfl ?_
  refine k_iload_n (i := 1) hA dX12_lost_1 rfl 1 rfl ?_
  refine k_callVi (As := [.int x1]) (rest := []) hA (m_M_refused_N l G a rv x1 t hq_1.symm) cd_X12_refused wd_1390 (hc_MN_0 G.2.1 a rv t) rfl rfl (Nat.le_of_ble_eq_true rfl) rfl rfl (Nat.le_of_ble_eq_true rfl) dX12_lost_2 ?_
  refine k_pop hA dX12_lost_5 rfl ?_
  refine k_bipush hA dX12_lost_6 kc_b_m100 ?_
  exact k_iret hA hr rfl dX12_lost_8

def f_M_father_N_40 (x1 : Int32) (x2 : Int32) (x3 : Int32) (x4 : Int32) (x5 : Int32) (t : k_St) : Int32 × k_St := (if x5 ≤ 0 then (if x4 = 0 then k_lt (f_M_good_N (f_M_gets x1 x2 x3) t) (fun q_1 => (q_1.1, q_1.2)) else k_lt (f_M_good_N (f_M_gets x1 x3 x2) t) (fun q_2 => (q_2.1, q_2.2))) else k_lt (f_M_lost_N x5 t) (fun q_3 => (q_3.1, q_3.2)))
def f_M_father_N_37 (x1 : Int32) (x2 : Int32) (x3 : Int32) (x4 : Int32) (t : k_St) : Int32 × k_St := f_M_father_N_40 x1 x2 x3 x4 (2 : Int32) t
def f_M_father_N (x1 : Int32) (x2 : Int32) (x3 : Int32) (x4 : Int32) (t : k_St) : Int32 × k_St := k_lt (k_sI t 0 0 (0 : Int32)) (fun t_1 => k_lt (f_M_refusesWorth_N t_1 x1) (fun x5_2 => (if x5_2 = 0 then (if (k_b (f_M_in x2 (0 : Int32) (6 : Int32))) = 0 then f_M_father_N_37 x1 x2 x3 x4 t_1 else (if (k_b (f_M_in x3 (0 : Int32) (6 : Int32))) = 0 then f_M_father_N_37 x1 x2 x3 x4 t_1 else f_M_father_N_40 x1 x2 x3 x4 x5_2 t_1)) else f_M_father_N_40 x1 x2 x3 x4 x5_2 t_1)))
theorem m_M_father_N_40 {p : Program} (l : Launch) {e : Env} {s : State} {m : MethodId} {args : Array Value} {below : List Frame} {meth : Method} {c : Code} (G : k_G) (a : Nat → Nat) (rv : Value) {w0 : va_W} {r : Int32} {t' : k_St} (hA : k_Amb p s m args meth c cX12_father 6 "TaleSharesModel" G (va_A w0 s.heap.size)) (hr : meth.sig.returnType = (some .int)) : ∀ (x1 : Int32) (x2 : Int32) (x3 : Int32) (x4 : Int32) (x5 : Int32) (t : k_St), f_M_father_N_40 x1 x2 x3 x4 x5 t = (r, t') → k_Go p l e (k_rm 3) s m args below meth c (k_QI G w0 r (k_WN G.2.1 a rv t') args s below) 6 G (va_A w0 s.heap.size) (k_WN G.2.1 a rv t) 40 [(0, .ref (a 0)), (1, .int x1), (2, .int x2), (3, .int x3), (4, .int x4), (5, .int x5)] [] := by
  intro x1 x2 x3 x4 x5 t hf
  unfold f_M_father_N_40 at hf
  refine k_iload hA dX12_father_40 5 rfl ?_
  refine k_if_le (tgt := 54) hA dX12_father_42 rfl (fun hc => ?_) (fun hc => ?_)
  · have hf := k_ift hc hf
    refine k_aload_n (i := 0) hA dX12_father_54 rfl 0 rfl ?_
    refine k_iload hA dX12_father_55 4 rfl ?_
    refine k_if_eq (tgt := 69) hA dX12_father_57 rfl (fun hc => ?_) (fun hc => ?_)
    · have hf := k_ift hc hf
      obtain ⟨⟨rq_1, tq_1⟩, hq_1, hf⟩ := k_lt_e hf
      dsimp only at hf
      obtain ⟨rfl, rfl⟩ := k_p2 hf
      refine k_iload_n (i := 1) hA dX12_father_69 rfl 1 rfl ?_
      refine k_iload_n (i := 2) hA dX12_father_70 rfl 2 rfl ?_
      refine k_iload_n (i := 3) hA dX12_father_71 rfl 3 rfl ?_
      refine k_callSi (As := [.int x1, .int x2, .int x3]) (rest := [.ref (a 0)]) hA (m_M_gets l G (k_WN G.2.1 a rv t) x1 x2 x3 rfl) cd_X12_gets wd_1870 (Nat.le_of_ble_eq_true rfl) rfl rfl (Nat.le_of_ble_eq_true rfl) dX12_father_72 ?_
      refine k_callVi (As := [.int (f_M_gets x1 x2 x3)]) (rest := []) hA (m_M_good_N l G a rv (f_M_gets x1 x2 x3) t hq_1.symm) cd_X12_good wd_1601 (hc_MN_0 G.2.1 a rv t) rfl rfl (Nat.le_of_ble_eq_true rfl) rfl rfl (Nat.le_of_ble_eq_true rfl) dX12_father_75 ?_
      exact k_iret hA hr rfl dX12_father_78
    have hf := k_iff hc hf
    obtain ⟨⟨rq_2, tq_2⟩, hq_2, hf⟩ := k_lt_e hf
    dsimp only at hf
    obtain ⟨rfl, rfl⟩ := k_p2 hf
    refine k_iload_n (i := 1) hA dX12_father_60 rfl 1 rfl ?_
    refine k_iload_n (i := 3) hA dX12_father_61 rfl 3 rfl ?_
    refine k_iload_n (i := 2) hA dX12_father_62 rfl 2 rfl ?_
    refine k_callSi (As := [.int x1, .int x3, .int x2]) (rest := [.ref (a 0)]) hA (m_M_gets l G (k_WN G.2.1 a rv t) x1 x3 x2 rfl) cd_X12_gets wd_1870 (Nat.le_of_ble_eq_true rfl) rfl rfl (Nat.le_of_ble_eq_true rfl) dX12_father_63 ?_
    refine k_goto (tgt := 75) hA dX12_father_66 rfl ?_
    refine k_callVi (As := [.int (f_M_gets x1 x3 x2)]) (rest := []) hA (m_M_good_N l G a rv (f_M_gets x1 x3 x2) t hq_2.symm) cd_X12_good wd_1601 (hc_MN_0 G.2.1 a rv t) rfl rfl (Nat.le_of_ble_eq_true rfl) rfl rfl (Nat.le_of_ble_eq_true rfl) dX12_father_75 ?_
    exact k_iret hA hr rfl dX12_father_78
  have hf := k_iff hc hf
  obtain ⟨⟨rq_3, tq_3⟩, hq_3, hf⟩ := k_lt_e hf
  dsimp only at hf
  obtain ⟨rfl, rfl⟩ := k_p2 hf
  refine k_aload_n (i := 0) hA dX12_father_45 rfl 0 rfl ?_
  refine k_iload hA dX12_father_46 5 rfl ?_
  refine k_callVi (As := [.int x5]) (rest := []) hA (m_M_lost_N l G a rv x5 t hq_3.symm) cd_X12_lost wd_1866 (hc_MN_0 G.2.1 a rv t) rfl rfl (Nat.le_of_ble_eq_true rfl) rfl rfl (Nat.le_of_ble_eq_true rfl) dX12_father_48 ?_
  refine k_goto (tgt := 78) hA dX12_father_51 rfl ?_
  exact k_iret hA hr rfl dX12_father_78

theorem m_M_father_N_37 {p : Program} (l : Launch) {e : Env} {s : State} {m : MethodId} {args : Array Value} {below : List Frame} {meth : Method} {c : Code} (G : k_G) (a : Nat → Nat) (rv : Value) {w0 : va_W} {r : Int32} {t' : k_St} (hA : k_Amb p s m args meth c cX12_father 6 "TaleSharesModel" G (va_A w0 s.heap.size)) (hr : meth.sig.returnType = (some .int)) : ∀ (x1 : Int32) (x2 : Int32) (x3 : Int32) (x4 : Int32) (t : k_St), f_M_father_N_37 x1 x2 x3 x4 t = (r, t') → k_Go p l e (k_rm 3) s m args below meth c (k_QI G w0 r (k_WN G.2.1 a rv t') args s below) 6 G (va_A w0 s.heap.size) (k_WN G.2.1 a rv t) 37 [(0, .ref (a 0)), (1, .int x1), (2, .int x2), (3, .int x3), (4, .int x4)] [] := by
  intro x1 x2 x3 x4 t hf
  unfold f_M_father_N_37 at hf
  refine k_iconst hA dX12_father_37 kc_i_2 ?_
  refine k_istore (lv' := [(5, .int (2 : Int32)), (0, .ref (a 0)), (1, .int x1), (2, .int x2), (3, .int x3), (4, .int x4)]) hA dX12_father_38 rfl (Nat.le_of_ble_eq_true rfl) rfl ?_
  refine k_pick (lv' := [(0, .ref (a 0)), (1, .int x1), (2, .int x2), (3, .int x3), (4, .int x4), (5, .int (2 : Int32))]) [1, 2, 3, 4, 5, 0] rfl ?_
  exact m_M_father_N_40 l G a rv hA hr x1 x2 x3 x4 (2 : Int32) t hf

theorem m_M_father_N (l : Launch) (G : k_G) (a : Nat → Nat) (rv : Value) (x1 : Int32) (x2 : Int32) (x3 : Int32) (x4 : Int32) (t : k_St) {r : Int32} {t' : k_St} (hf : f_M_father_N x1 x2 x3 x4 t = (r, t')) : k_CI l G yX12_father cX12_father 6 (some .int) 3 (k_WN G.2.1 a rv t) [.ref (a 0), .int x1, .int x2, .int x3, .int x4] r (k_WN G.2.1 a rv t') := by
  refine k_startI (lv := [(0, .ref (a 0)), (1, .int x1), (2, .int x2), (3, .int x3), (4, .int x4)]) (by decide +kernel) (Nat.le_of_ble_eq_true rfl) rfl ?_
  intro p e s m args below meth c hA hr
  have hA : k_Amb p s m args meth c cX12_father 6 "TaleSharesModel" G _ := hA
  unfold f_M_father_N at hf
  obtain ⟨t_1, et_1, hf⟩ := k_lt_e hf
  obtain ⟨x5_2, ex5_2, hf⟩ := k_lt_e hf
  refine k_aload_n (i := 0) hA dX12_father_0 rfl 0 rfl ?_
  refine k_iconst hA dX12_father_1 kc_i_0 ?_
  refine pt_MN_0_0 hA wd_1248 et_1 dX12_father_2 ?_
  refine k_aload_n (i := 0) hA dX12_father_5 rfl 0 rfl ?_
  refine k_iload_n (i := 1) hA dX12_father_6 rfl 1 rfl ?_
  refine k_callVi (As := [.int x1]) (rest := []) hA (m_M_refusesWorth_N l G a rv t_1 x1 rfl) cd_X12_refusesWorth wd_1862 (hc_MN_0 G.2.1 a rv t_1) rfl rfl (Nat.le_of_ble_eq_true rfl) rfl rfl (Nat.le_of_ble_eq_true rfl) dX12_father_7 ?_
  refine k_istore (lv' := [(5, .int x5_2), (0, .ref (a 0)), (1, .int x1), (2, .int x2), (3, .int x3), (4, .int x4)]) hA dX12_father_10 ex5_2 (Nat.le_of_ble_eq_true rfl) rfl ?_
  refine k_iload hA dX12_father_12 0 rfl ?_
  refine k_if_ne (tgt := 40) hA dX12_father_14 rfl (fun hc => ?_) (fun hc => ?_)
  · have hf := k_iff hc hf
    refine k_pick (lv' := [(0, .ref (a 0)), (1, .int x1), (2, .int x2), (3, .int x3), (4, .int x4), (5, .int x5_2)]) [1, 2, 3, 4, 5, 0] rfl ?_
    exact m_M_father_N_40 l G a rv hA hr x1 x2 x3 x4 x5_2 t_1 hf
  have hf := k_ift hc hf
  refine k_iload_n (i := 2) hA dX12_father_17 rfl 3 rfl ?_
  refine k_iconst hA dX12_father_18 kc_i_0 ?_
  refine k_bipush hA dX12_father_19 kc_b_6 ?_
  refine k_callSi (As := [.int x2, .int (0 : Int32), .int (6 : Int32)]) (rest := []) hA (m_M_in l G (k_WN G.2.1 a rv t_1) x2 (0 : Int32) (6 : Int32) rfl) cd_X12_in wd_1525 (Nat.le_of_ble_eq_true rfl) rfl rfl (Nat.le_of_ble_eq_true rfl) dX12_father_21 ?_
  refine k_if_eq (tgt := 37) hA dX12_father_24 rfl (fun hc => ?_) (fun hc => ?_)
  · have hf := k_ift hc hf
    refine k_pick (lv' := [(0, .ref (a 0)), (1, .int x1), (2, .int x2), (3, .int x3), (4, .int x4)]) [1, 2, 3, 4, 5] rfl ?_
    exact m_M_father_N_37 l G a rv hA hr x1 x2 x3 x4 t_1 hf
  have hf := k_iff hc hf
  refine k_iload_n (i := 3) hA dX12_father_27 rfl 4 rfl ?_
  refine k_iconst hA dX12_father_28 kc_i_0 ?_
  refine k_bipush hA dX12_father_29 kc_b_6 ?_
  refine k_callSi (As := [.int x3, .int (0 : Int32), .int (6 : Int32)]) (rest := []) hA (m_M_in l G (k_WN G.2.1 a rv t_1) x3 (0 : Int32) (6 : Int32) rfl) cd_X12_in wd_1525 (Nat.le_of_ble_eq_true rfl) rfl rfl (Nat.le_of_ble_eq_true rfl) dX12_father_31 ?_
  refine k_if_ne (tgt := 40) hA dX12_father_34 rfl (fun hc => ?_) (fun hc => ?_)
  · have hf := k_iff hc hf
    refine k_pick (lv' := [(0, .ref (a 0)), (1, .int x1), (2, .int x2), (3, .int x3), (4, .int x4), (5, .int x5_2)]) [1, 2, 3, 4, 5, 0] rfl ?_
    exact m_M_father_N_40 l G a rv hA hr x1 x2 x3 x4 x5_2 t_1 hf
  have hf := k_ift hc hf
  refine k_pick (lv' := [(0, .ref (a 0)), (1, .int x1), (2, .int x2), (3, .int x3), (4, .int x4)]) [1, 2, 3, 4, 5] rfl ?_
  exact m_M_father_N_37 l G a rv hA hr x1 x2 x3 x4 t_1 hf

def f_M_rests_N_26 (n : Nat) : Nat → Int32 → Int32 → Int32 → k_St → Option (Int32 × k_St)
  | 0, _, _, _, _ => none
  | k + 1, x1, x3, x4, t => (if (49 : Int32) ≤ x4 then k_lt (f_M_good_N x3 t) (fun q_1 => some (q_1.1, q_1.2)) else k_cp (f_M_isRest n x1 (x4 / (7 : Int32)) (x4 - x4 / (7 : Int32) * (7 : Int32))) (fun r_2 => (if (k_b r_2) = 0 then k_lt (x3 + (0 : Int32)) (fun x3_3 => k_lt (x4 + (1 : Int32)) (fun x4_4 => f_M_rests_N_26 n k x1 x3_3 x4_4 t)) else k_lt (x3 + (1 : Int32)) (fun x3_5 => k_lt (x4 + (1 : Int32)) (fun x4_6 => f_M_rests_N_26 n k x1 x3_5 x4_6 t)))))
def f_M_rests_N (n : Nat) (x1 : Int32) (t : k_St) : Option (Int32 × k_St) := k_lt (k_sI t 0 0 (0 : Int32)) (fun t_1 => k_lt (f_M_refusesWorth_N t_1 x1) (fun x2_2 => (if x2_2 ≤ 0 then f_M_rests_N_26 n n x1 (0 : Int32) (0 : Int32) t_1 else k_lt (f_M_refused_N x2_2 t_1) (fun q_3 => some (q_3.1, q_3.2)))))
theorem m_M_rests_N_26 {p : Program} (l : Launch) {e : Env} {s : State} {m : MethodId} {args : Array Value} {below : List Frame} {meth : Method} {c : Code} (G : k_G) (a : Nat → Nat) (rv : Value) (n : Nat) {w0 : va_W} {r : Int32} {t' : k_St} (hA : k_Amb p s m args meth c cX12_rests 5 "TaleSharesModel" G (va_A w0 s.heap.size)) (hr : meth.sig.returnType = (some .int)) : ∀ (k : Nat) (x1 : Int32) (x3 : Int32) (x4 : Int32) (t : k_St), f_M_rests_N_26 n k x1 x3 x4 t = some (r, t') → k_Go p l e (k_rm 3) s m args below meth c (k_QI G w0 r (k_WN G.2.1 a rv t') args s below) 5 G (va_A w0 s.heap.size) (k_WN G.2.1 a rv t) 26 [(0, .ref (a 0)), (1, .int x1), (3, .int x3), (4, .int x4)] [] := by
  intro k
  induction k with
  | zero => intro x1 x3 x4 t hf; cases hf
  | succ k ih =>
  intro x1 x3 x4 t hf
  rw [f_M_rests_N_26] at hf
  refine k_iload hA dX12_rests_26 3 rfl ?_
  refine k_bipush hA dX12_rests_28 kc_b_49 ?_
  refine k_icmp_ge (tgt := 64) hA dX12_rests_30 rfl (fun hc => ?_) (fun hc => ?_)
  · have hf := k_ift hc hf
    obtain ⟨⟨rq_1, tq_1⟩, hq_1, hf⟩ := k_lt_e hf
    dsimp only at hf
    obtain ⟨rfl, rfl⟩ := k_r2 hf
    refine k_aload_n (i := 0) hA dX12_rests_64 rfl 0 rfl ?_
    refine k_iload_n (i := 3) hA dX12_rests_65 rfl 2 rfl ?_
    refine k_callVi (As := [.int x3]) (rest := []) hA (m_M_good_N l G a rv x3 t hq_1.symm) cd_X12_good wd_1601 (hc_MN_0 G.2.1 a rv t) rfl rfl (Nat.le_of_ble_eq_true rfl) rfl rfl (Nat.le_of_ble_eq_true rfl) dX12_rests_66 ?_
    exact k_iret hA hr rfl dX12_rests_69
  have hf := k_iff hc hf
  obtain ⟨r_2, hr_2, hf⟩ := k_cp_e hf
  refine k_iload_n (i := 3) hA dX12_rests_33 rfl 2 rfl ?_
  refine k_iload_n (i := 1) hA dX12_rests_34 rfl 1 rfl ?_
  refine k_iload hA dX12_rests_35 3 rfl ?_
  refine k_bipush hA dX12_rests_37 kc_b_7 ?_
  refine k_idiv hA dX12_rests_39 (by decide) ?_
  refine k_iload hA dX12_rests_40 3 rfl ?_
  refine k_bipush hA dX12_rests_42 kc_b_7 ?_
  refine k_irem hA dX12_rests_44 (by decide) ?_
  refine k_callSi (As := [.int x1, .int (x4 / (7 : Int32)), .int (x4 - x4 / (7 : Int32) * (7 : Int32))]) (rest := [.int x3]) hA (m_M_isRest l G (k_WN G.2.1 a rv t) n x1 (x4 / (7 : Int32)) (x4 - x4 / (7 : Int32) * (7 : Int32)) hr_2) cd_X12_isRest wd_1877 (Nat.le_of_ble_eq_true rfl) rfl rfl (Nat.le_of_ble_eq_true rfl) dX12_rests_45 ?_
  refine k_if_eq (tgt := 55) hA dX12_rests_48 rfl (fun hc => ?_) (fun hc => ?_)
  · have hf := k_ift hc hf
    obtain ⟨x3_3, ex3_3, hf⟩ := k_lt_e hf
    obtain ⟨x4_4, ex4_4, hf⟩ := k_lt_e hf
    refine k_iconst hA dX12_rests_55 kc_i_0 ?_
    refine k_iadd hA dX12_rests_56 ?_
    refine k_istore_n (i := 3) (lv' := [(3, .int x3_3), (0, .ref (a 0)), (1, .int x1), (4, .int x4)]) hA dX12_rests_57 rfl ex3_3 (Nat.le_of_ble_eq_true rfl) rfl ?_
    refine k_iinc (j := 3) (v := x4_4) (lv' := [(4, .int x4_4), (3, .int x3_3), (0, .ref (a 0)), (1, .int x1)]) hA dX12_rests_58 rfl (k_inc ex4_4 kc_i_1) (Nat.le_of_ble_eq_true rfl) rfl ?_
    refine k_goto (tgt := 26) hA dX12_rests_61 rfl ?_
    refine k_pick (lv' := [(0, .ref (a 0)), (1, .int x1), (3, .int x3_3), (4, .int x4_4)]) [2, 3, 1, 0] rfl ?_
    exact ih x1 x3_3 x4_4 t hf
  have hf := k_iff hc hf
  obtain ⟨x3_5, ex3_5, hf⟩ := k_lt_e hf
  obtain ⟨x4_6, ex4_6, hf⟩ := k_lt_e hf
  refine k_iconst hA dX12_rests_51 kc_i_1 ?_
  refine k_goto (tgt := 56) hA dX12_rests_52 rfl ?_
  refine k_iadd hA dX12_rests_56 ?_
  refine k_istore_n (i := 3) (lv' := [(3, .int x3_5), (0, .ref (a 0)), (1, .int x1), (4, .int x4)]) hA dX12_rests_57 rfl ex3_5 (Nat.le_of_ble_eq_true rfl) rfl ?_
  refine k_iinc (j := 3) (v := x4_6) (lv' := [(4, .int x4_6), (3, .int x3_5), (0, .ref (a 0)), (1, .int x1)]) hA dX12_rests_58 rfl (k_inc ex4_6 kc_i_1) (Nat.le_of_ble_eq_true rfl) rfl ?_
  refine k_goto (tgt := 26) hA dX12_rests_61 rfl ?_
  refine k_pick (lv' := [(0, .ref (a 0)), (1, .int x1), (3, .int x3_5), (4, .int x4_6)]) [2, 3, 1, 0] rfl ?_
  exact ih x1 x3_5 x4_6 t hf

theorem m_M_rests_N (l : Launch) (G : k_G) (a : Nat → Nat) (rv : Value) (n : Nat) (x1 : Int32) (t : k_St) {r : Int32} {t' : k_St} (hf : f_M_rests_N n x1 t = some (r, t')) : k_CI l G yX12_rests cX12_rests 5 (some .int) 3 (k_WN G.2.1 a rv t) [.ref (a 0), .int x1] r (k_WN G.2.1 a rv t') := by
  refine k_startI (lv := [(0, .ref (a 0)), (1, .int x1)]) (by decide +kernel) (Nat.le_of_ble_eq_true rfl) rfl ?_
  intro p e s m args below meth c hA hr
  have hA : k_Amb p s m args meth c cX12_rests 5 "TaleSharesModel" G _ := hA
  unfold f_M_rests_N at hf
  obtain ⟨t_1, et_1, hf⟩ := k_lt_e hf
  obtain ⟨x2_2, ex2_2, hf⟩ := k_lt_e hf
  refine k_aload_n (i := 0) hA dX12_rests_0 rfl 0 rfl ?_
  refine k_iconst hA dX12_rests_1 kc_i_0 ?_
  refine pt_MN_0_0 hA wd_1248 et_1 dX12_rests_2 ?_
  refine k_aload_n (i := 0) hA dX12_rests_5 rfl 0 rfl ?_
  refine k_iload_n (i := 1) hA dX12_rests_6 rfl 1 rfl ?_
  refine k_callVi (As := [.int x1]) (rest := []) hA (m_M_refusesWorth_N l G a rv t_1 x1 rfl) cd_X12_refusesWorth wd_1862 (hc_MN_0 G.2.1 a rv t_1) rfl rfl (Nat.le_of_ble_eq_true rfl) rfl rfl (Nat.le_of_ble_eq_true rfl) dX12_rests_7 ?_
  refine k_istore_n (i := 2) (lv' := [(2, .int x2_2), (0, .ref (a 0)), (1, .int x1)]) hA dX12_rests_10 rfl ex2_2 (Nat.le_of_ble_eq_true rfl) rfl ?_
  refine k_iload_n (i := 2) hA dX12_rests_11 rfl 0 rfl ?_
  refine k_if_le (tgt := 21) hA dX12_rests_12 rfl (fun hc => ?_) (fun hc => ?_)
  · have hf := k_ift hc hf
    refine k_iconst hA dX12_rests_21 kc_i_0 ?_
    refine k_istore_n (i := 3) (lv' := [(3, .int (0 : Int32)), (2, .int x2_2), (0, .ref (a 0)), (1, .int x1)]) hA dX12_rests_22 rfl rfl (Nat.le_of_ble_eq_true rfl) rfl ?_
    refine k_iconst hA dX12_rests_23 kc_i_0 ?_
    refine k_istore (lv' := [(4, .int (0 : Int32)), (3, .int (0 : Int32)), (2, .int x2_2), (0, .ref (a 0)), (1, .int x1)]) hA dX12_rests_24 rfl (Nat.le_of_ble_eq_true rfl) rfl ?_
    refine k_pick (lv' := [(0, .ref (a 0)), (1, .int x1), (3, .int (0 : Int32)), (4, .int (0 : Int32))]) [3, 4, 1, 0] rfl ?_
    exact m_M_rests_N_26 l G a rv n hA hr n x1 (0 : Int32) (0 : Int32) t_1 hf
  have hf := k_iff hc hf
  obtain ⟨⟨rq_3, tq_3⟩, hq_3, hf⟩ := k_lt_e hf
  dsimp only at hf
  obtain ⟨rfl, rfl⟩ := k_r2 hf
  refine k_aload_n (i := 0) hA dX12_rests_15 rfl 1 rfl ?_
  refine k_iload_n (i := 2) hA dX12_rests_16 rfl 0 rfl ?_
  refine k_callVi (As := [.int x2_2]) (rest := []) hA (m_M_refused_N l G a rv x2_2 t_1 hq_3.symm) cd_X12_refused wd_1390 (hc_MN_0 G.2.1 a rv t_1) rfl rfl (Nat.le_of_ble_eq_true rfl) rfl rfl (Nat.le_of_ble_eq_true rfl) dX12_rests_17 ?_
  exact k_iret hA hr rfl dX12_rests_20

def f_M_rest_N_23 (n : Nat) : Nat → Int32 → Int32 → k_St → Option (Int32 × k_St)
  | 0, _, _, _ => none
  | k + 1, x1, x3, t => (if (49 : Int32) ≤ x3 then k_lt (f_M_good_N (-2 : Int32) t) (fun q_1 => some (q_1.1, q_1.2)) else k_cp (f_M_isRest n x1 (x3 / (7 : Int32)) (x3 - x3 / (7 : Int32) * (7 : Int32))) (fun r_2 => (if (k_b r_2) = 0 then k_lt (x3 + (1 : Int32)) (fun x3_3 => f_M_rest_N_23 n k x1 x3_3 t) else k_lt (f_M_good_N (((10 : Int32) * (x3 / (7 : Int32))) + (x3 - x3 / (7 : Int32) * (7 : Int32))) t) (fun q_4 => some (q_4.1, q_4.2)))))
def f_M_rest_N (n : Nat) (x1 : Int32) (t : k_St) : Option (Int32 × k_St) := k_lt (k_sI t 0 0 (0 : Int32)) (fun t_1 => k_lt (f_M_refusesWorth_N t_1 x1) (fun x2_2 => (if x2_2 ≤ 0 then f_M_rest_N_23 n n x1 (0 : Int32) t_1 else k_lt (f_M_refused_N x2_2 t_1) (fun q_3 => some (q_3.1, q_3.2)))))
theorem m_M_rest_N_23 {p : Program} (l : Launch) {e : Env} {s : State} {m : MethodId} {args : Array Value} {below : List Frame} {meth : Method} {c : Code} (G : k_G) (a : Nat → Nat) (rv : Value) (n : Nat) {w0 : va_W} {r : Int32} {t' : k_St} (hA : k_Amb p s m args meth c cX12_rest 4 "TaleSharesModel" G (va_A w0 s.heap.size)) (hr : meth.sig.returnType = (some .int)) : ∀ (k : Nat) (x1 : Int32) (x3 : Int32) (t : k_St), f_M_rest_N_23 n k x1 x3 t = some (r, t') → k_Go p l e (k_rm 3) s m args below meth c (k_QI G w0 r (k_WN G.2.1 a rv t') args s below) 4 G (va_A w0 s.heap.size) (k_WN G.2.1 a rv t) 23 [(0, .ref (a 0)), (1, .int x1), (3, .int x3)] [] := by
  intro k
  induction k with
  | zero => intro x1 x3 t hf; cases hf
  | succ k ih =>
  intro x1 x3 t hf
  rw [f_M_rest_N_23] at hf
  refine k_iload_n (i := 3) hA dX12_rest_23 rfl 2 rfl ?_
  refine k_bipush hA dX12_rest_24 kc_b_49 ?_
  refine k_icmp_ge (tgt := 67) hA dX12_rest_26 rfl (fun hc => ?_) (fun hc => ?_)
  · have hf := k_ift hc hf
    obtain ⟨⟨rq_1, tq_1⟩, hq_1, hf⟩ := k_lt_e hf
    dsimp only at hf
    obtain ⟨rfl, rfl⟩ := k_r2 hf
    refine k_aload_n (i := 0) hA dX12_rest_67 rfl 0 rfl ?_
    refine k_bipush hA dX12_rest_68 kc_b_m2 ?_
    refine k_callVi (As := [.int (-2 : Int32)]) (rest := []) hA (m_M_good_N l G a rv (-2 : Int32) t hq_1.symm) cd_X12_good wd_1601 (hc_MN_0 G.2.1 a rv t) rfl rfl (Nat.le_of_ble_eq_true rfl) rfl rfl (Nat.le_of_ble_eq_true rfl) dX12_rest_70 ?_
    exact k_iret hA hr rfl dX12_rest_73
  have hf := k_iff hc hf
  obtain ⟨r_2, hr_2, hf⟩ := k_cp_e hf
  refine k_iload_n (i := 1) hA dX12_rest_29 rfl 1 rfl ?_
  refine k_iload_n (i := 3) hA dX12_rest_30 rfl 2 rfl ?_
  refine k_bipush hA dX12_rest_31 kc_b_7 ?_
  refine k_idiv hA dX12_rest_33 (by decide) ?_
  refine k_iload_n (i := 3) hA dX12_rest_34 rfl 2 rfl ?_
  refine k_bipush hA dX12_rest_35 kc_b_7 ?_
  refine k_irem hA dX12_rest_37 (by decide) ?_
  refine k_callSi (As := [.int x1, .int (x3 / (7 : Int32)), .int (x3 - x3 / (7 : Int32) * (7 : Int32))]) (rest := []) hA (m_M_isRest l G (k_WN G.2.1 a rv t) n x1 (x3 / (7 : Int32)) (x3 - x3 / (7 : Int32) * (7 : Int32)) hr_2) cd_X12_isRest wd_1877 (Nat.le_of_ble_eq_true rfl) rfl rfl (Nat.le_of_ble_eq_true rfl) dX12_rest_38 ?_
  refine k_if_eq (tgt := 61) hA dX12_rest_41 rfl (fun hc => ?_) (fun hc => ?_)
  · have hf := k_ift hc hf
    obtain ⟨x3_3, ex3_3, hf⟩ := k_lt_e hf
    refine k_iinc (j := 2) (v := x3_3) (lv' := [(3, .int x3_3), (0, .ref (a 0)), (1, .int x1)]) hA dX12_rest_61 rfl (k_inc ex3_3 kc_i_1) (Nat.le_of_ble_eq_true rfl) rfl ?_
    refine k_goto (tgt := 23) hA dX12_rest_64 rfl ?_
    refine k_pick (lv' := [(0, .ref (a 0)), (1, .int x1), (3, .int x3_3)]) [1, 2, 0] rfl ?_
    exact ih x1 x3_3 t hf
  have hf := k_iff hc hf
  obtain ⟨⟨rq_4, tq_4⟩, hq_4, hf⟩ := k_lt_e hf
  dsimp only at hf
  obtain ⟨rfl, rfl⟩ := k_r2 hf
  refine k_aload_n (i := 0) hA dX12_rest_44 rfl 0 rfl ?_
  refine k_bipush hA dX12_rest_45 kc_b_10 ?_
  refine k_iload_n (i := 3) hA dX12_rest_47 rfl 2 rfl ?_
  refine k_bipush hA dX12_rest_48 kc_b_7 ?_
  refine k_idiv hA dX12_rest_50 (by decide) ?_
  refine k_imul hA dX12_rest_51 ?_
  refine k_iload_n (i := 3) hA dX12_rest_52 rfl 2 rfl ?_
  refine k_bipush hA dX12_rest_53 kc_b_7 ?_
  refine k_irem hA dX12_rest_55 (by decide) ?_
  refine k_iadd hA dX12_rest_56 ?_
  refine k_callVi (As := [.int (((10 : Int32) * (x3 / (7 : Int32))) + (x3 - x3 / (7 : Int32) * (7 : Int32)))]) (rest := []) hA (m_M_good_N l G a rv (((10 : Int32) * (x3 / (7 : Int32))) + (x3 - x3 / (7 : Int32) * (7 : Int32))) t hq_4.symm) cd_X12_good wd_1601 (hc_MN_0 G.2.1 a rv t) rfl rfl (Nat.le_of_ble_eq_true rfl) rfl rfl (Nat.le_of_ble_eq_true rfl) dX12_rest_57 ?_
  exact k_iret hA hr rfl dX12_rest_60

theorem m_M_rest_N (l : Launch) (G : k_G) (a : Nat → Nat) (rv : Value) (n : Nat) (x1 : Int32) (t : k_St) {r : Int32} {t' : k_St} (hf : f_M_rest_N n x1 t = some (r, t')) : k_CI l G yX12_rest cX12_rest 4 (some .int) 3 (k_WN G.2.1 a rv t) [.ref (a 0), .int x1] r (k_WN G.2.1 a rv t') := by
  refine k_startI (lv := [(0, .ref (a 0)), (1, .int x1)]) (by decide +kernel) (Nat.le_of_ble_eq_true rfl) rfl ?_
  intro p e s m args below meth c hA hr
  have hA : k_Amb p s m args meth c cX12_rest 4 "TaleSharesModel" G _ := hA
  unfold f_M_rest_N at hf
  obtain ⟨t_1, et_1, hf⟩ := k_lt_e hf
  obtain ⟨x2_2, ex2_2, hf⟩ := k_lt_e hf
  refine k_aload_n (i := 0) hA dX12_rest_0 rfl 0 rfl ?_
  refine k_iconst hA dX12_rest_1 kc_i_0 ?_
  refine pt_MN_0_0 hA wd_1248 et_1 dX12_rest_2 ?_
  refine k_aload_n (i := 0) hA dX12_rest_5 rfl 0 rfl ?_
  refine k_iload_n (i := 1) hA dX12_rest_6 rfl 1 rfl ?_
  refine k_callVi (As := [.int x1]) (rest := []) hA (m_M_refusesWorth_N l G a rv t_1 x1 rfl) cd_X12_refusesWorth wd_1862 (hc_MN_0 G.2.1 a rv t_1) rfl rfl (Nat.le_of_ble_eq_true rfl) rfl rfl (Nat.le_of_ble_eq_true rfl) dX12_rest_7 ?_
  refine k_istore_n (i := 2) (lv' := [(2, .int x2_2), (0, .ref (a 0)), (1, .int x1)]) hA dX12_rest_10 rfl ex2_2 (Nat.le_of_ble_eq_true rfl) rfl ?_
  refine k_iload_n (i := 2) hA dX12_rest_11 rfl 0 rfl ?_
  refine k_if_le (tgt := 21) hA dX12_rest_12 rfl (fun hc => ?_) (fun hc => ?_)
  · have hf := k_ift hc hf
    refine k_iconst hA dX12_rest_21 kc_i_0 ?_
    refine k_istore_n (i := 3) (lv' := [(3, .int (0 : Int32)), (2, .int x2_2), (0, .ref (a 0)), (1, .int x1)]) hA dX12_rest_22 rfl rfl (Nat.le_of_ble_eq_true rfl) rfl ?_
    refine k_pick (lv' := [(0, .ref (a 0)), (1, .int x1), (3, .int (0 : Int32))]) [2, 3, 0] rfl ?_
    exact m_M_rest_N_23 l G a rv n hA hr n x1 (0 : Int32) t_1 hf
  have hf := k_iff hc hf
  obtain ⟨⟨rq_3, tq_3⟩, hq_3, hf⟩ := k_lt_e hf
  dsimp only at hf
  obtain ⟨rfl, rfl⟩ := k_r2 hf
  refine k_aload_n (i := 0) hA dX12_rest_15 rfl 1 rfl ?_
  refine k_iload_n (i := 2) hA dX12_rest_16 rfl 0 rfl ?_
  refine k_callVi (As := [.int x2_2]) (rest := []) hA (m_M_refused_N l G a rv x2_2 t_1 hq_3.symm) cd_X12_refused wd_1390 (hc_MN_0 G.2.1 a rv t_1) rfl rfl (Nat.le_of_ble_eq_true rfl) rfl rfl (Nat.le_of_ble_eq_true rfl) dX12_rest_17 ?_
  exact k_iret hA hr rfl dX12_rest_20

def f_M_refusesSleep_N (t : k_St) (x1 : Int32) (x2 : Int32) : Int32 := (1 : Int32)
theorem m_M_refusesSleep_N (l : Launch) (G : k_G) (a : Nat → Nat) (rv : Value) (t : k_St) (x1 : Int32) (x2 : Int32) {r : Int32} (hf : f_M_refusesSleep_N t x1 x2 = r) : k_CI l G yX12_refusesSleep cX12_refusesSleep 3 (some .int) 1 (k_WN G.2.1 a rv t) [.ref (a 0), .int x1, .int x2] r (k_WN G.2.1 a rv t) := by
  refine k_startI (lv := [(0, .ref (a 0)), (1, .int x1), (2, .int x2)]) (by decide +kernel) (Nat.le_of_ble_eq_true rfl) rfl ?_
  intro p e s m args below meth c hA hr
  have hA : k_Amb p s m args meth c cX12_refusesSleep 3 "TaleSharesModel" G _ := hA
  unfold f_M_refusesSleep_N at hf
  subst hf
  refine k_aload_n (i := 0) hA dX12_refusesSleep_0 rfl 0 rfl ?_
  refine gt_MN_0_3 hA wd_1251 dX12_refusesSleep_1 ?_
  refine k_ifnonnullN hA dX12_refusesSleep_4 ?_
  refine k_iconst hA dX12_refusesSleep_7 kc_i_1 ?_
  refine k_goto (tgt := 35) hA dX12_refusesSleep_8 rfl ?_
  exact k_iret hA hr rfl dX12_refusesSleep_35

def f_M_tellsJust_N (t : k_St) (x1 : Int32) (x2 : Int32) : Option Int64 := none
theorem m_M_tellsJust_N (l : Launch) (G : k_G) (a : Nat → Nat) (rv : Value) (t : k_St) (x1 : Int32) (x2 : Int32) {r : Int64} (hf : f_M_tellsJust_N t x1 x2 = some r) : k_CL l G yX12_tellsJust cX12_tellsJust 5 (some .long) 1 (k_WN G.2.1 a rv t) [.ref (a 0), .int x1, .int x2] r (k_WN G.2.1 a rv t) := by
  refine k_startL (lv := [(0, .ref (a 0)), (1, .int x1), (2, .int x2)]) (by decide +kernel) (Nat.le_of_ble_eq_true rfl) rfl ?_
  intro p e s m args below meth c hA hr
  have hA : k_Amb p s m args meth c cX12_tellsJust 5 "TaleSharesModel" G _ := hA
  unfold f_M_tellsJust_N at hf
  cases hf

def f_M_fraction_N (n : Nat) (x1 : Int64) (x3 : Int64) (x5 : Int32) (t : k_St) : Option (Int64 × k_St) := k_lt (f_M_good_N (0 : Int32) t) (fun q_1 => (if x5 = 0 then k_cp (f_M_common n x1 x3) (fun r_2 => k_gd (¬ r_2 = 0) (some ((x1 / r_2), q_1.2))) else k_cp (f_M_common n x1 x3) (fun r_4 => k_gd (¬ r_4 = 0) (some ((x3 / r_4), q_1.2)))))
theorem m_M_fraction_N (l : Launch) (G : k_G) (a : Nat → Nat) (rv : Value) (n : Nat) (x1 : Int64) (x3 : Int64) (x5 : Int32) (t : k_St) {r : Int64} {t' : k_St} (hf : f_M_fraction_N n x1 x3 x5 t = some (r, t')) : k_CL l G yX12_fraction cX12_fraction 6 (some .long) 2 (k_WN G.2.1 a rv t) [.ref (a 0), .long x1, .long x3, .int x5] r (k_WN G.2.1 a rv t') := by
  refine k_startL (lv := [(0, .ref (a 0)), (1, .long x1), (3, .long x3), (5, .int x5)]) (by decide +kernel) (Nat.le_of_ble_eq_true rfl) rfl ?_
  intro p e s m args below meth c hA hr
  have hA : k_Amb p s m args meth c cX12_fraction 6 "TaleSharesModel" G _ := hA
  unfold f_M_fraction_N at hf
  obtain ⟨⟨rq_1, tq_1⟩, hq_1, hf⟩ := k_lt_e hf
  dsimp only at hf
  refine k_aload_n (i := 0) hA dX12_fraction_0 rfl 0 rfl ?_
  refine k_iconst hA dX12_fraction_1 kc_i_0 ?_
  refine k_callVi (As := [.int (0 : Int32)]) (rest := []) hA (m_M_good_N l G a rv (0 : Int32) t hq_1.symm) cd_X12_good wd_1601 (hc_MN_0 G.2.1 a rv t) rfl rfl (Nat.le_of_ble_eq_true rfl) rfl rfl (Nat.le_of_ble_eq_true rfl) dX12_fraction_2 ?_
  refine k_pop hA dX12_fraction_5 rfl ?_
  refine k_iload hA dX12_fraction_6 3 rfl ?_
  refine k_if_eq (tgt := 15) hA dX12_fraction_8 rfl (fun hc => ?_) (fun hc => ?_)
  · have hf := k_ift hc hf
    obtain ⟨r_2, hr_2, hf⟩ := k_cp_e hf
    obtain ⟨hn_3, hf⟩ := k_gd_e hf
    obtain ⟨rfl, rfl⟩ := k_r2 hf
    refine k_lload_n (i := 1) hA dX12_fraction_15 rfl 1 rfl ?_
    refine k_lload_n (i := 1) hA dX12_fraction_16 rfl 1 rfl ?_
    refine k_lload_n (i := 3) hA dX12_fraction_17 rfl 2 rfl ?_
    refine k_callSl (As := [.long x1, .long x3]) (rest := [.long x1]) hA (m_M_common l G (k_WN G.2.1 a rv tq_1) n x1 x3 hr_2) cd_X12_common wd_1904 (Nat.le_of_ble_eq_true rfl) rfl rfl (Nat.le_of_ble_eq_true rfl) dX12_fraction_18 ?_
    refine k_ldiv hA dX12_fraction_21 hn_3 ?_
    exact k_lret hA hr dX12_fraction_22
  have hf := k_iff hc hf
  obtain ⟨r_4, hr_4, hf⟩ := k_cp_e hf
  obtain ⟨hn_5, hf⟩ := k_gd_e hf
  obtain ⟨rfl, rfl⟩ := k_r2 hf
  refine k_lload_n (i := 3) hA dX12_fraction_11 rfl 2 rfl ?_
  refine k_goto (tgt := 16) hA dX12_fraction_12 rfl ?_
  refine k_lload_n (i := 1) hA dX12_fraction_16 rfl 1 rfl ?_
  refine k_lload_n (i := 3) hA dX12_fraction_17 rfl 2 rfl ?_
  refine k_callSl (As := [.long x1, .long x3]) (rest := [.long x3]) hA (m_M_common l G (k_WN G.2.1 a rv tq_1) n x1 x3 hr_4) cd_X12_common wd_1904 (Nat.le_of_ble_eq_true rfl) rfl rfl (Nat.le_of_ble_eq_true rfl) dX12_fraction_18 ?_
  refine k_ldiv hA dX12_fraction_21 hn_5 ?_
  exact k_lret hA hr dX12_fraction_22

def f_M_tells_N (n : Nat) (x1 : Int32) (x2 : Int32) (x3 : Int32) (t : k_St) : Option (Int64 × k_St) := k_lt (k_sI t 0 0 (0 : Int32)) (fun t_1 => k_lt (f_M_refusesSleep_N t_1 x1 x2) (fun x4_2 => (if x4_2 ≤ 0 then k_cp (f_M_tellsJust_N t_1 x1 x2) (fun r_3 => k_cp (f_M_power n (100 : Int64) x1) (fun r_4 => k_cl (f_M_fraction_N n r_3 r_4 x3 t_1) (fun r_6 t_5 => some (r_6, t_5)))) else k_lt (f_M_refused_N x4_2 t_1) (fun q_7 => some (q_7.1.toInt64, q_7.2)))))
theorem m_M_tells_N (l : Launch) (G : k_G) (a : Nat → Nat) (rv : Value) (n : Nat) (x1 : Int32) (x2 : Int32) (x3 : Int32) (t : k_St) {r : Int64} {t' : k_St} (hf : f_M_tells_N n x1 x2 x3 t = some (r, t')) : k_CL l G yX12_tells cX12_tells 5 (some .long) 3 (k_WN G.2.1 a rv t) [.ref (a 0), .int x1, .int x2, .int x3] r (k_WN G.2.1 a rv t') := by
  refine k_startL (lv := [(0, .ref (a 0)), (1, .int x1), (2, .int x2), (3, .int x3)]) (by decide +kernel) (Nat.le_of_ble_eq_true rfl) rfl ?_
  intro p e s m args below meth c hA hr
  have hA : k_Amb p s m args meth c cX12_tells 5 "TaleSharesModel" G _ := hA
  unfold f_M_tells_N at hf
  obtain ⟨t_1, et_1, hf⟩ := k_lt_e hf
  obtain ⟨x4_2, ex4_2, hf⟩ := k_lt_e hf
  refine k_aload_n (i := 0) hA dX12_tells_0 rfl 0 rfl ?_
  refine k_iconst hA dX12_tells_1 kc_i_0 ?_
  refine pt_MN_0_0 hA wd_1248 et_1 dX12_tells_2 ?_
  refine k_aload_n (i := 0) hA dX12_tells_5 rfl 0 rfl ?_
  refine k_iload_n (i := 1) hA dX12_tells_6 rfl 1 rfl ?_
  refine k_iload_n (i := 2) hA dX12_tells_7 rfl 2 rfl ?_
  refine k_callVi (As := [.int x1, .int x2]) (rest := []) hA (m_M_refusesSleep_N l G a rv t_1 x1 x2 rfl) cd_X12_refusesSleep wd_1888 (hc_MN_0 G.2.1 a rv t_1) rfl rfl (Nat.le_of_ble_eq_true rfl) rfl rfl (Nat.le_of_ble_eq_true rfl) dX12_tells_8 ?_
  refine k_istore (lv' := [(4, .int x4_2), (0, .ref (a 0)), (1, .int x1), (2, .int x2), (3, .int x3)]) hA dX12_tells_11 ex4_2 (Nat.le_of_ble_eq_true rfl) rfl ?_
  refine k_iload hA dX12_tells_13 0 rfl ?_
  refine k_if_le (tgt := 26) hA dX12_tells_15 rfl (fun hc => ?_) (fun hc => ?_)
  · have hf := k_ift hc hf
    obtain ⟨r_3, hr_3, hf⟩ := k_cp_e hf
    obtain ⟨r_4, hr_4, hf⟩ := k_cp_e hf
    obtain ⟨r_6, t_5, ht_5, hf⟩ := k_cl_e hf
    obtain ⟨rfl, rfl⟩ := k_r2 hf
    refine k_aload_n (i := 0) hA dX12_tells_26 rfl 1 rfl ?_
    refine k_aload_n (i := 0) hA dX12_tells_27 rfl 1 rfl ?_
    refine k_iload_n (i := 1) hA dX12_tells_28 rfl 2 rfl ?_
    refine k_iload_n (i := 2) hA dX12_tells_29 rfl 3 rfl ?_
    refine k_callVl (As := [.int x1, .int x2]) (rest := [.ref (a 0)]) hA (m_M_tellsJust_N l G a rv t_1 x1 x2 hr_3) cd_X12_tellsJust wd_1892 (hc_MN_0 G.2.1 a rv t_1) rfl rfl (Nat.le_of_ble_eq_true rfl) rfl rfl (Nat.le_of_ble_eq_true rfl) dX12_tells_30 ?_
    refine k_ldc2 hA wd_1896 dX12_tells_33 ?_
    refine k_iload_n (i := 1) hA dX12_tells_36 rfl 2 rfl ?_
    refine k_callSl (As := [.long (100 : Int64), .int x1]) (rest := [.long r_3, .ref (a 0)]) hA (m_M_power l G (k_WN G.2.1 a rv t_1) n (100 : Int64) x1 hr_4) cd_X12_power wd_1897 (Nat.le_of_ble_eq_true rfl) rfl rfl (Nat.le_of_ble_eq_true rfl) dX12_tells_37 ?_
    refine k_iload_n (i := 3) hA dX12_tells_40 rfl 4 rfl ?_
    refine k_callVl (As := [.long r_3, .long r_4, .int x3]) (rest := []) hA (m_M_fraction_N l G a rv n r_3 r_4 x3 t_1 ht_5) cd_X12_fraction wd_1900 (hc_MN_0 G.2.1 a rv t_1) rfl rfl (Nat.le_of_ble_eq_true rfl) rfl rfl (Nat.le_of_ble_eq_true rfl) dX12_tells_41 ?_
    exact k_lret hA hr dX12_tells_44
  have hf := k_iff hc hf
  obtain ⟨⟨rq_7, tq_7⟩, hq_7, hf⟩ := k_lt_e hf
  dsimp only at hf
  obtain ⟨rfl, rfl⟩ := k_r2 hf
  refine k_aload_n (i := 0) hA dX12_tells_18 rfl 1 rfl ?_
  refine k_iload hA dX12_tells_19 0 rfl ?_
  refine k_callVi (As := [.int x4_2]) (rest := []) hA (m_M_refused_N l G a rv x4_2 t_1 hq_7.symm) cd_X12_refused wd_1390 (hc_MN_0 G.2.1 a rv t_1) rfl rfl (Nat.le_of_ble_eq_true rfl) rfl rfl (Nat.le_of_ble_eq_true rfl) dX12_tells_21 ?_
  refine k_i2l hA dX12_tells_24 ?_
  exact k_lret hA hr dX12_tells_25

def f_M_mean_N_29 (n : Nat) : Nat → Int32 → Int32 → Int64 → Int32 → k_St → Option (Int64 × k_St)
  | 0, _, _, _, _, _ => none
  | k + 1, x1, x2, x4, x6, t => (if x1 < x6 then k_cp (f_M_power n (100 : Int64) x1) (fun r_1 => k_cl (f_M_fraction_N n x4 r_1 x2 t) (fun r_3 t_2 => some (r_3, t_2))) else k_cp (f_M_tellsJust_N t x1 x6) (fun r_4 => k_lt (x4 + ((x6.toInt64) * r_4)) (fun x4_5 => k_lt (x6 + (1 : Int32)) (fun x6_6 => f_M_mean_N_29 n k x1 x2 x4_5 x6_6 t))))
def f_M_mean_N (n : Nat) (x1 : Int32) (x2 : Int32) (t : k_St) : Option (Int64 × k_St) := k_lt (k_sI t 0 0 (0 : Int32)) (fun t_1 => k_lt (f_M_refusesSleep_N t_1 x1 (0 : Int32)) (fun x3_2 => (if x3_2 ≤ 0 then f_M_mean_N_29 n n x1 x2 (0 : Int64) (1 : Int32) t_1 else k_lt (f_M_refused_N x3_2 t_1) (fun q_3 => some (q_3.1.toInt64, q_3.2)))))
theorem m_M_mean_N_29 {p : Program} (l : Launch) {e : Env} {s : State} {m : MethodId} {args : Array Value} {below : List Frame} {meth : Method} {c : Code} (G : k_G) (a : Nat → Nat) (rv : Value) (n : Nat) {w0 : va_W} {r : Int64} {t' : k_St} (hA : k_Amb p s m args meth c cX12_mean 7 "TaleSharesModel" G (va_A w0 s.heap.size)) (hr : meth.sig.returnType = (some .long)) : ∀ (k : Nat) (x1 : Int32) (x2 : Int32) (x4 : Int64) (x6 : Int32) (t : k_St), f_M_mean_N_29 n k x1 x2 x4 x6 t = some (r, t') → k_Go p l e (k_rm 3) s m args below meth c (k_QL G w0 r (k_WN G.2.1 a rv t') args s below) 7 G (va_A w0 s.heap.size) (k_WN G.2.1 a rv t) 29 [(0, .ref (a 0)), (1, .int x1), (2, .int x2), (4, .long x4), (6, .int x6)] [] := by
  intro k
  induction k with
  | zero => intro x1 x2 x4 x6 t hf; cases hf
  | succ k ih =>
  intro x1 x2 x4 x6 t hf
  rw [f_M_mean_N_29] at hf
  refine k_iload hA dX12_mean_29 4 rfl ?_
  refine k_iload_n (i := 1) hA dX12_mean_31 rfl 1 rfl ?_
  refine k_icmp_gt (tgt := 57) hA dX12_mean_32 rfl (fun hc => ?_) (fun hc => ?_)
  · have hf := k_ift hc hf
    obtain ⟨r_1, hr_1, hf⟩ := k_cp_e hf
    obtain ⟨r_3, t_2, ht_2, hf⟩ := k_cl_e hf
    obtain ⟨rfl, rfl⟩ := k_r2 hf
    refine k_aload_n (i := 0) hA dX12_mean_57 rfl 0 rfl ?_
    refine k_lload hA dX12_mean_58 3 rfl ?_
    refine k_ldc2 hA wd_1896 dX12_mean_60 ?_
    refine k_iload_n (i := 1) hA dX12_mean_63 rfl 1 rfl ?_
    refine k_callSl (As := [.long (100 : Int64), .int x1]) (rest := [.long x4, .ref (a 0)]) hA (m_M_power l G (k_WN G.2.1 a rv t) n (100 : Int64) x1 hr_1) cd_X12_power wd_1897 (Nat.le_of_ble_eq_true rfl) rfl rfl (Nat.le_of_ble_eq_true rfl) dX12_mean_64 ?_
    refine k_iload_n (i := 2) hA dX12_mean_67 rfl 2 rfl ?_
    refine k_callVl (As := [.long x4, .long r_1, .int x2]) (rest := []) hA (m_M_fraction_N l G a rv n x4 r_1 x2 t ht_2) cd_X12_fraction wd_1900 (hc_MN_0 G.2.1 a rv t) rfl rfl (Nat.le_of_ble_eq_true rfl) rfl rfl (Nat.le_of_ble_eq_true rfl) dX12_mean_68 ?_
    exact k_lret hA hr dX12_mean_71
  have hf := k_iff hc hf
  obtain ⟨r_4, hr_4, hf⟩ := k_cp_e hf
  obtain ⟨x4_5, ex4_5, hf⟩ := k_lt_e hf
  obtain ⟨x6_6, ex6_6, hf⟩ := k_lt_e hf
  refine k_lload hA dX12_mean_35 3 rfl ?_
  refine k_iload hA dX12_mean_37 4 rfl ?_
  refine k_i2l hA dX12_mean_39 ?_
  refine k_aload_n (i := 0) hA dX12_mean_40 rfl 0 rfl ?_
  refine k_iload_n (i := 1) hA dX12_mean_41 rfl 1 rfl ?_
  refine k_iload hA dX12_mean_42 4 rfl ?_
  refine k_callVl (As := [.int x1, .int x6]) (rest := [.long (x6.toInt64), .long x4]) hA (m_M_tellsJust_N l G a rv t x1 x6 hr_4) cd_X12_tellsJust wd_1892 (hc_MN_0 G.2.1 a rv t) rfl rfl (Nat.le_of_ble_eq_true rfl) rfl rfl (Nat.le_of_ble_eq_true rfl) dX12_mean_44 ?_
  refine k_lmul hA dX12_mean_47 ?_
  refine k_ladd hA dX12_mean_48 ?_
  refine k_lstore (lv' := [(4, .long x4_5), (0, .ref (a 0)), (1, .int x1), (2, .int x2), (6, .int x6)]) hA dX12_mean_49 ex4_5 (Nat.le_of_ble_eq_true rfl) rfl ?_
  refine k_iinc (j := 4) (v := x6_6) (lv' := [(6, .int x6_6), (4, .long x4_5), (0, .ref (a 0)), (1, .int x1), (2, .int x2)]) hA dX12_mean_51 rfl (k_inc ex6_6 kc_i_1) (Nat.le_of_ble_eq_true rfl) rfl ?_
  refine k_goto (tgt := 29) hA dX12_mean_54 rfl ?_
  refine k_pick (lv' := [(0, .ref (a 0)), (1, .int x1), (2, .int x2), (4, .long x4_5), (6, .int x6_6)]) [2, 3, 4, 1, 0] rfl ?_
  exact ih x1 x2 x4_5 x6_6 t hf

theorem m_M_mean_N (l : Launch) (G : k_G) (a : Nat → Nat) (rv : Value) (n : Nat) (x1 : Int32) (x2 : Int32) (t : k_St) {r : Int64} {t' : k_St} (hf : f_M_mean_N n x1 x2 t = some (r, t')) : k_CL l G yX12_mean cX12_mean 7 (some .long) 3 (k_WN G.2.1 a rv t) [.ref (a 0), .int x1, .int x2] r (k_WN G.2.1 a rv t') := by
  refine k_startL (lv := [(0, .ref (a 0)), (1, .int x1), (2, .int x2)]) (by decide +kernel) (Nat.le_of_ble_eq_true rfl) rfl ?_
  intro p e s m args below meth c hA hr
  have hA : k_Amb p s m args meth c cX12_mean 7 "TaleSharesModel" G _ := hA
  unfold f_M_mean_N at hf
  obtain ⟨t_1, et_1, hf⟩ := k_lt_e hf
  obtain ⟨x3_2, ex3_2, hf⟩ := k_lt_e hf
  refine k_aload_n (i := 0) hA dX12_mean_0 rfl 0 rfl ?_
  refine k_iconst hA dX12_mean_1 kc_i_0 ?_
  refine pt_MN_0_0 hA wd_1248 et_1 dX12_mean_2 ?_
  refine k_aload_n (i := 0) hA dX12_mean_5 rfl 0 rfl ?_
  refine k_iload_n (i := 1) hA dX12_mean_6 rfl 1 rfl ?_
  refine k_iconst hA dX12_mean_7 kc_i_0 ?_
  refine k_callVi (As := [.int x1, .int (0 : Int32)]) (rest := []) hA (m_M_refusesSleep_N l G a rv t_1 x1 (0 : Int32) rfl) cd_X12_refusesSleep wd_1888 (hc_MN_0 G.2.1 a rv t_1) rfl rfl (Nat.le_of_ble_eq_true rfl) rfl rfl (Nat.le_of_ble_eq_true rfl) dX12_mean_8 ?_
  refine k_istore_n (i := 3) (lv' := [(3, .int x3_2), (0, .ref (a 0)), (1, .int x1), (2, .int x2)]) hA dX12_mean_11 rfl ex3_2 (Nat.le_of_ble_eq_true rfl) rfl ?_
  refine k_iload_n (i := 3) hA dX12_mean_12 rfl 0 rfl ?_
  refine k_if_le (tgt := 23) hA dX12_mean_13 rfl (fun hc => ?_) (fun hc => ?_)
  · have hf := k_ift hc hf
    refine k_lconst hA dX12_mean_23 kc_l_0 ?_
    refine k_lstore (lv' := [(4, .long (0 : Int64)), (3, .int x3_2), (0, .ref (a 0)), (1, .int x1), (2, .int x2)]) hA dX12_mean_24 rfl (Nat.le_of_ble_eq_true rfl) rfl ?_
    refine k_iconst hA dX12_mean_26 kc_i_1 ?_
    refine k_istore (lv' := [(6, .int (1 : Int32)), (4, .long (0 : Int64)), (3, .int x3_2), (0, .ref (a 0)), (1, .int x1), (2, .int x2)]) hA dX12_mean_27 rfl (Nat.le_of_ble_eq_true rfl) rfl ?_
    refine k_pick (lv' := [(0, .ref (a 0)), (1, .int x1), (2, .int x2), (4, .long (0 : Int64)), (6, .int (1 : Int32))]) [3, 4, 5, 1, 0] rfl ?_
    exact m_M_mean_N_29 l G a rv n hA hr n x1 x2 (0 : Int64) (1 : Int32) t_1 hf
  have hf := k_iff hc hf
  obtain ⟨⟨rq_3, tq_3⟩, hq_3, hf⟩ := k_lt_e hf
  dsimp only at hf
  obtain ⟨rfl, rfl⟩ := k_r2 hf
  refine k_aload_n (i := 0) hA dX12_mean_16 rfl 1 rfl ?_
  refine k_iload_n (i := 3) hA dX12_mean_17 rfl 0 rfl ?_
  refine k_callVi (As := [.int x3_2]) (rest := []) hA (m_M_refused_N l G a rv x3_2 t_1 hq_3.symm) cd_X12_refused wd_1390 (hc_MN_0 G.2.1 a rv t_1) rfl rfl (Nat.le_of_ble_eq_true rfl) rfl rfl (Nat.le_of_ble_eq_true rfl) dX12_mean_18 ?_
  refine k_i2l hA dX12_mean_21 ?_
  exact k_lret hA hr dX12_mean_22

def f_M_refusesEvenings_N (x1 : Int32) (x2 : Int32) (x3 : Int32) : Int32 := (if x1 = 0 then (1 : Int32) else (if (k_b (f_M_in x2 (0 : Int32) (65536 : Int32))) = 0 then (2 : Int32) else (if (k_b (f_M_in x3 (0 : Int32) (60 : Int32))) = 0 then (2 : Int32) else (0 : Int32))))
theorem m_M_refusesEvenings_N (l : Launch) (G : k_G) (a : Nat → Nat) (rv : Value) (t : k_St) (x1 : Int32) (x2 : Int32) (x3 : Int32) {r : Int32} (hf : f_M_refusesEvenings_N x1 x2 x3 = r) : k_CI l G yX12_refusesEvenings cX12_refusesEvenings 4 (some .int) 2 (k_WN G.2.1 a rv t) [.ref (a 0), .int x1, .int x2, .int x3] r (k_WN G.2.1 a rv t) := by
  refine k_startI (lv := [(0, .ref (a 0)), (1, .int x1), (2, .int x2), (3, .int x3)]) (by decide +kernel) (Nat.le_of_ble_eq_true rfl) rfl ?_
  intro p e s m args below meth c hA hr
  have hA : k_Amb p s m args meth c cX12_refusesEvenings 4 "TaleSharesModel" G _ := hA
  unfold f_M_refusesEvenings_N at hf
  refine k_iload_n (i := 1) hA dX12_refusesEvenings_0 rfl 1 rfl ?_
  refine k_if_ne (tgt := 8) hA dX12_refusesEvenings_1 rfl (fun hc => ?_) (fun hc => ?_)
  · have hf := k_iff hc hf
    refine k_iload_n (i := 2) hA dX12_refusesEvenings_8 rfl 2 rfl ?_
    refine k_iconst hA dX12_refusesEvenings_9 kc_i_0 ?_
    refine k_ldcw hA wd_1919 dX12_refusesEvenings_10 ?_
    refine k_callSi (As := [.int x2, .int (0 : Int32), .int (65536 : Int32)]) (rest := []) hA (m_M_in l G (k_WN G.2.1 a rv t) x2 (0 : Int32) (65536 : Int32) rfl) cd_X12_in wd_1525 (Nat.le_of_ble_eq_true rfl) rfl rfl (Nat.le_of_ble_eq_true rfl) dX12_refusesEvenings_13 ?_
    refine k_if_eq (tgt := 33) hA dX12_refusesEvenings_16 rfl (fun hc => ?_) (fun hc => ?_)
    · have hf := k_ift hc hf
      subst hf
      refine k_iconst hA dX12_refusesEvenings_33 kc_i_2 ?_
      exact k_iret hA hr rfl dX12_refusesEvenings_34
    have hf := k_iff hc hf
    refine k_iload_n (i := 3) hA dX12_refusesEvenings_19 rfl 3 rfl ?_
    refine k_iconst hA dX12_refusesEvenings_20 kc_i_0 ?_
    refine k_bipush hA dX12_refusesEvenings_21 kc_b_60 ?_
    refine k_callSi (As := [.int x3, .int (0 : Int32), .int (60 : Int32)]) (rest := []) hA (m_M_in l G (k_WN G.2.1 a rv t) x3 (0 : Int32) (60 : Int32) rfl) cd_X12_in wd_1525 (Nat.le_of_ble_eq_true rfl) rfl rfl (Nat.le_of_ble_eq_true rfl) dX12_refusesEvenings_23 ?_
    refine k_if_eq (tgt := 33) hA dX12_refusesEvenings_26 rfl (fun hc => ?_) (fun hc => ?_)
    · have hf := k_ift hc hf
      subst hf
      refine k_iconst hA dX12_refusesEvenings_33 kc_i_2 ?_
      exact k_iret hA hr rfl dX12_refusesEvenings_34
    have hf := k_iff hc hf
    subst hf
    refine k_iconst hA dX12_refusesEvenings_29 kc_i_0 ?_
    refine k_goto (tgt := 34) hA dX12_refusesEvenings_30 rfl ?_
    exact k_iret hA hr rfl dX12_refusesEvenings_34
  have hf := k_ift hc hf
  subst hf
  refine k_iconst hA dX12_refusesEvenings_4 kc_i_1 ?_
  refine k_goto (tgt := 34) hA dX12_refusesEvenings_5 rfl ?_
  exact k_iret hA hr rfl dX12_refusesEvenings_34

def f_M_evenings1_N (t : k_St) (x1 : Int32) (x2 : Int32) (x3 : Int32) : Option Unit := none
theorem m_M_evenings1_N (l : Launch) (G : k_G) (a : Nat → Nat) (rv : Value) (t : k_St) (x1 : Int32) (x2 : Int32) (x3 : Int32) (hf : f_M_evenings1_N t x1 x2 x3 = some ()) : k_CV l G yX12_evenings1 cX12_evenings1 6 none 1 (k_WN G.2.1 a rv t) [.ref (a 0), .int x1, .int x2, .int x3] (k_WN G.2.1 a rv t) := by
  refine k_startV (lv := [(0, .ref (a 0)), (1, .int x1), (2, .int x2), (3, .int x3)]) (by decide +kernel) (Nat.le_of_ble_eq_true rfl) rfl ?_
  intro p e s m args below meth c hA hr
  have hA : k_Amb p s m args meth c cX12_evenings1 6 "TaleSharesModel" G _ := hA
  unfold f_M_evenings1_N at hf
  cases hf

def f_M_evenings_N (x1 : Int32) (x2 : Int32) (x3 : Int32) (t : k_St) : Option (Int32 × k_St) := k_lt (k_sI t 0 0 (0 : Int32)) (fun t_1 => k_lt (f_M_refusesEvenings_N (k_b (f_M_isHouse_N t_1 x1)) x2 x3) (fun x4_2 => (if x4_2 ≤ 0 then k_cp (f_M_evenings1_N t_1 x2 x3 (0 : Int32)) (fun r_3 => k_gi x1 6 (k_lt (f_M_good_N (t_1.1 3 x1.toNatClampNeg) t_1) (fun q_5 => some (q_5.1, q_5.2)))) else k_lt (f_M_refused_N x4_2 t_1) (fun q_6 => some (q_6.1, q_6.2)))))
theorem m_M_evenings_N (l : Launch) (G : k_G) (a : Nat → Nat) (rv : Value) (x1 : Int32) (x2 : Int32) (x3 : Int32) (t : k_St) {r : Int32} {t' : k_St} (hf : f_M_evenings_N x1 x2 x3 t = some (r, t')) : k_CI l G yX12_evenings cX12_evenings 5 (some .int) 3 (k_WN G.2.1 a rv t) [.ref (a 0), .int x1, .int x2, .int x3] r (k_WN G.2.1 a rv t') := by
  refine k_startI (lv := [(0, .ref (a 0)), (1, .int x1), (2, .int x2), (3, .int x3)]) (by decide +kernel) (Nat.le_of_ble_eq_true rfl) rfl ?_
  intro p e s m args below meth c hA hr
  have hA : k_Amb p s m args meth c cX12_evenings 5 "TaleSharesModel" G _ := hA
  unfold f_M_evenings_N at hf
  obtain ⟨t_1, et_1, hf⟩ := k_lt_e hf
  obtain ⟨x4_2, ex4_2, hf⟩ := k_lt_e hf
  refine k_aload_n (i := 0) hA dX12_evenings_0 rfl 0 rfl ?_
  refine k_iconst hA dX12_evenings_1 kc_i_0 ?_
  refine pt_MN_0_0 hA wd_1248 et_1 dX12_evenings_2 ?_
  refine k_aload_n (i := 0) hA dX12_evenings_5 rfl 0 rfl ?_
  refine k_aload_n (i := 0) hA dX12_evenings_6 rfl 0 rfl ?_
  refine k_iload_n (i := 1) hA dX12_evenings_7 rfl 1 rfl ?_
  refine k_callVi (As := [.int x1]) (rest := [.ref (a 0)]) hA (m_M_isHouse_N l G a rv t_1 x1 rfl) cd_X12_isHouse wd_1625 (hc_MN_0 G.2.1 a rv t_1) rfl rfl (Nat.le_of_ble_eq_true rfl) rfl rfl (Nat.le_of_ble_eq_true rfl) dX12_evenings_8 ?_
  refine k_iload_n (i := 2) hA dX12_evenings_11 rfl 2 rfl ?_
  refine k_iload_n (i := 3) hA dX12_evenings_12 rfl 3 rfl ?_
  refine k_callVi (As := [.int (k_b (f_M_isHouse_N t_1 x1)), .int x2, .int x3]) (rest := []) hA (m_M_refusesEvenings_N l G a rv t_1 (k_b (f_M_isHouse_N t_1 x1)) x2 x3 rfl) cd_X12_refusesEvenings wd_1915 (hc_MN_0 G.2.1 a rv t_1) rfl rfl (Nat.le_of_ble_eq_true rfl) rfl rfl (Nat.le_of_ble_eq_true rfl) dX12_evenings_13 ?_
  refine k_istore (lv' := [(4, .int x4_2), (0, .ref (a 0)), (1, .int x1), (2, .int x2), (3, .int x3)]) hA dX12_evenings_16 ex4_2 (Nat.le_of_ble_eq_true rfl) rfl ?_
  refine k_iload hA dX12_evenings_18 0 rfl ?_
  refine k_if_le (tgt := 30) hA dX12_evenings_20 rfl (fun hc => ?_) (fun hc => ?_)
  · have hf := k_ift hc hf
    obtain ⟨r_3, hr_3, hf⟩ := k_cp_e hf
    obtain ⟨hi_4, hf⟩ := k_gi_e hf
    obtain ⟨⟨rq_5, tq_5⟩, hq_5, hf⟩ := k_lt_e hf
    dsimp only at hf
    obtain ⟨rfl, rfl⟩ := k_r2 hf
    refine k_aload_n (i := 0) hA dX12_evenings_30 rfl 1 rfl ?_
    refine k_iload_n (i := 2) hA dX12_evenings_31 rfl 3 rfl ?_
    refine k_iload_n (i := 3) hA dX12_evenings_32 rfl 4 rfl ?_
    refine k_iconst hA dX12_evenings_33 kc_i_0 ?_
    refine k_callVv (As := [.int x2, .int x3, .int (0 : Int32)]) (rest := []) hA (m_M_evenings1_N l G a rv t_1 x2 x3 (0 : Int32) hr_3) cd_X12_evenings1 wd_1920 (hc_MN_0 G.2.1 a rv t_1) rfl rfl (Nat.le_of_ble_eq_true rfl) rfl rfl (Nat.le_of_ble_eq_true rfl) dX12_evenings_34 ?_
    refine k_aload_n (i := 0) hA dX12_evenings_37 rfl 1 rfl ?_
    refine k_aload_n (i := 0) hA dX12_evenings_38 rfl 1 rfl ?_
    refine gt_MN_0_16 hA wd_1264 dX12_evenings_39 ?_
    refine k_iload_n (i := 1) hA dX12_evenings_42 rfl 2 rfl ?_
    refine ld_MN_3 hA hi_4 dX12_evenings_43 ?_
    refine k_callVi (As := [.int (t_1.1 3 x1.toNatClampNeg)]) (rest := []) hA (m_M_good_N l G a rv (t_1.1 3 x1.toNatClampNeg) t_1 hq_5.symm) cd_X12_good wd_1601 (hc_MN_0 G.2.1 a rv t_1) rfl rfl (Nat.le_of_ble_eq_true rfl) rfl rfl (Nat.le_of_ble_eq_true rfl) dX12_evenings_44 ?_
    exact k_iret hA hr rfl dX12_evenings_47
  have hf := k_iff hc hf
  obtain ⟨⟨rq_6, tq_6⟩, hq_6, hf⟩ := k_lt_e hf
  dsimp only at hf
  obtain ⟨rfl, rfl⟩ := k_r2 hf
  refine k_aload_n (i := 0) hA dX12_evenings_23 rfl 1 rfl ?_
  refine k_iload hA dX12_evenings_24 0 rfl ?_
  refine k_callVi (As := [.int x4_2]) (rest := []) hA (m_M_refused_N l G a rv x4_2 t_1 hq_6.symm) cd_X12_refused wd_1390 (hc_MN_0 G.2.1 a rv t_1) rfl rfl (Nat.le_of_ble_eq_true rfl) rfl rfl (Nat.le_of_ble_eq_true rfl) dX12_evenings_26 ?_
  exact k_iret hA hr rfl dX12_evenings_29

def f_M_allSense_N (x1 : Int32) (x2 : Int32) (t : k_St) : Option (Int32 × k_St) := k_lt (k_sI t 0 0 (0 : Int32)) (fun t_1 => k_lt (f_M_refusesEvenings_N (k_b (f_M_isHouse_N t_1 (0 : Int32))) x1 x2) (fun x3_2 => (if x3_2 ≤ 0 then k_cp (f_M_evenings1_N t_1 x1 x2 (1 : Int32)) (fun r_3 => k_lt (f_M_good_N (t_1.1 0 42) t_1) (fun q_4 => some (q_4.1, q_4.2))) else k_lt (f_M_refused_N x3_2 t_1) (fun q_5 => some (q_5.1, q_5.2)))))
theorem m_M_allSense_N (l : Launch) (G : k_G) (a : Nat → Nat) (rv : Value) (x1 : Int32) (x2 : Int32) (t : k_St) {r : Int32} {t' : k_St} (hf : f_M_allSense_N x1 x2 t = some (r, t')) : k_CI l G yX12_allSense cX12_allSense 4 (some .int) 3 (k_WN G.2.1 a rv t) [.ref (a 0), .int x1, .int x2] r (k_WN G.2.1 a rv t') := by
  refine k_startI (lv := [(0, .ref (a 0)), (1, .int x1), (2, .int x2)]) (by decide +kernel) (Nat.le_of_ble_eq_true rfl) rfl ?_
  intro p e s m args below meth c hA hr
  have hA : k_Amb p s m args meth c cX12_allSense 4 "TaleSharesModel" G _ := hA
  unfold f_M_allSense_N at hf
  obtain ⟨t_1, et_1, hf⟩ := k_lt_e hf
  obtain ⟨x3_2, ex3_2, hf⟩ := k_lt_e hf
  refine k_aload_n (i := 0) hA dX12_allSense_0 rfl 0 rfl ?_
  refine k_iconst hA dX12_allSense_1 kc_i_0 ?_
  refine pt_MN_0_0 hA wd_1248 et_1 dX12_allSense_2 ?_
  refine k_aload_n (i := 0) hA dX12_allSense_5 rfl 0 rfl ?_
  refine k_aload_n (i := 0) hA dX12_allSense_6 rfl 0 rfl ?_
  refine k_iconst hA dX12_allSense_7 kc_i_0 ?_
  refine k_callVi (As := [.int (0 : Int32)]) (rest := [.ref (a 0)]) hA (m_M_isHouse_N l G a rv t_1 (0 : Int32) rfl) cd_X12_isHouse wd_1625 (hc_MN_0 G.2.1 a rv t_1) rfl rfl (Nat.le_of_ble_eq_true rfl) rfl rfl (Nat.le_of_ble_eq_true rfl) dX12_allSense_8 ?_
  refine k_iload_n (i := 1) hA dX12_allSense_11 rfl 1 rfl ?_
  refine k_iload_n (i := 2) hA dX12_allSense_12 rfl 2 rfl ?_
  refine k_callVi (As := [.int (k_b (f_M_isHouse_N t_1 (0 : Int32))), .int x1, .int x2]) (rest := []) hA (m_M_refusesEvenings_N l G a rv t_1 (k_b (f_M_isHouse_N t_1 (0 : Int32))) x1 x2 rfl) cd_X12_refusesEvenings wd_1915 (hc_MN_0 G.2.1 a rv t_1) rfl rfl (Nat.le_of_ble_eq_true rfl) rfl rfl (Nat.le_of_ble_eq_true rfl) dX12_allSense_13 ?_
  refine k_istore_n (i := 3) (lv' := [(3, .int x3_2), (0, .ref (a 0)), (1, .int x1), (2, .int x2)]) hA dX12_allSense_16 rfl ex3_2 (Nat.le_of_ble_eq_true rfl) rfl ?_
  refine k_iload_n (i := 3) hA dX12_allSense_17 rfl 0 rfl ?_
  refine k_if_le (tgt := 27) hA dX12_allSense_18 rfl (fun hc => ?_) (fun hc => ?_)
  · have hf := k_ift hc hf
    obtain ⟨r_3, hr_3, hf⟩ := k_cp_e hf
    obtain ⟨⟨rq_4, tq_4⟩, hq_4, hf⟩ := k_lt_e hf
    dsimp only at hf
    obtain ⟨rfl, rfl⟩ := k_r2 hf
    refine k_aload_n (i := 0) hA dX12_allSense_27 rfl 1 rfl ?_
    refine k_iload_n (i := 1) hA dX12_allSense_28 rfl 2 rfl ?_
    refine k_iload_n (i := 2) hA dX12_allSense_29 rfl 3 rfl ?_
    refine k_iconst hA dX12_allSense_30 kc_i_1 ?_
    refine k_callVv (As := [.int x1, .int x2, .int (1 : Int32)]) (rest := []) hA (m_M_evenings1_N l G a rv t_1 x1 x2 (1 : Int32) hr_3) cd_X12_evenings1 wd_1920 (hc_MN_0 G.2.1 a rv t_1) rfl rfl (Nat.le_of_ble_eq_true rfl) rfl rfl (Nat.le_of_ble_eq_true rfl) dX12_allSense_31 ?_
    refine k_aload_n (i := 0) hA dX12_allSense_34 rfl 1 rfl ?_
    refine k_aload_n (i := 0) hA dX12_allSense_35 rfl 1 rfl ?_
    refine gt_MN_0_42 hA wd_1290 dX12_allSense_36 ?_
    refine k_callVi (As := [.int (t_1.1 0 42)]) (rest := []) hA (m_M_good_N l G a rv (t_1.1 0 42) t_1 hq_4.symm) cd_X12_good wd_1601 (hc_MN_0 G.2.1 a rv t_1) rfl rfl (Nat.le_of_ble_eq_true rfl) rfl rfl (Nat.le_of_ble_eq_true rfl) dX12_allSense_39 ?_
    exact k_iret hA hr rfl dX12_allSense_42
  have hf := k_iff hc hf
  obtain ⟨⟨rq_5, tq_5⟩, hq_5, hf⟩ := k_lt_e hf
  dsimp only at hf
  obtain ⟨rfl, rfl⟩ := k_r2 hf
  refine k_aload_n (i := 0) hA dX12_allSense_21 rfl 1 rfl ?_
  refine k_iload_n (i := 3) hA dX12_allSense_22 rfl 0 rfl ?_
  refine k_callVi (As := [.int x3_2]) (rest := []) hA (m_M_refused_N l G a rv x3_2 t_1 hq_5.symm) cd_X12_refused wd_1390 (hc_MN_0 G.2.1 a rv t_1) rfl rfl (Nat.le_of_ble_eq_true rfl) rfl rfl (Nat.le_of_ble_eq_true rfl) dX12_allSense_23 ?_
  exact k_iret hA hr rfl dX12_allSense_26

def f_M_canTell_N (t : k_St) (x1 : Int32) : Option Bool := none
theorem m_M_canTell_N (l : Launch) (G : k_G) (a : Nat → Nat) (rv : Value) (t : k_St) (x1 : Int32) {r : Bool} (hf : f_M_canTell_N t x1 = some r) : k_CI l G yX12_canTell cX12_canTell 2 (some .boolean) 1 (k_WN G.2.1 a rv t) [.ref (a 0), .int x1] (k_b r) (k_WN G.2.1 a rv t) := by
  refine k_startI (lv := [(0, .ref (a 0)), (1, .int x1)]) (by decide +kernel) (Nat.le_of_ble_eq_true rfl) rfl ?_
  intro p e s m args below meth c hA hr
  have hA : k_Amb p s m args meth c cX12_canTell 2 "TaleSharesModel" G _ := hA
  unfold f_M_canTell_N at hf
  cases hf

def f_M_remembers_N_50 (n : Nat) : Nat → Int32 → k_St → Option k_St
  | 0, _, _ => none
  | k + 1, x1, t => (if (6 : Int32) ≤ x1 then k_lt (k_sI t 0 19 ((t.1 0 19) + (1 : Int32))) (fun t_1 => some t_1) else k_gi x1 6 (k_gi (((6 : Int32) * (t.1 0 19)) + x1) 96 (k_lt (k_sI t 4 (((6 : Int32) * (t.1 0 19)) + x1).toNatClampNeg (t.1 2 x1.toNatClampNeg)) (fun t_4 => k_lt (x1 + (1 : Int32)) (fun x1_5 => f_M_remembers_N_50 n k x1_5 t_4)))))
def f_M_remembers_N_11 (n : Nat) : Nat → Int32 → k_St → Option k_St
  | 0, _, _ => none
  | k + 1, x1, t => (if (90 : Int32) ≤ x1 then k_lt (k_sI t 0 19 ((t.1 0 19) - (1 : Int32))) (fun t_1 => f_M_remembers_N_50 n n (0 : Int32) t_1) else k_gi (x1 + (6 : Int32)) 96 (k_gi x1 96 (k_lt (k_sI t 4 x1.toNatClampNeg (t.1 4 (x1 + (6 : Int32)).toNatClampNeg)) (fun t_4 => k_lt (x1 + (1 : Int32)) (fun x1_5 => f_M_remembers_N_11 n k x1_5 t_4)))))
def f_M_remembers_N (n : Nat) (t : k_St) : Option k_St := (if (t.1 0 19) = (16 : Int32) then f_M_remembers_N_11 n n (0 : Int32) t else f_M_remembers_N_50 n n (0 : Int32) t)
theorem m_M_remembers_N_50 {p : Program} (l : Launch) {e : Env} {s : State} {m : MethodId} {args : Array Value} {below : List Frame} {meth : Method} {c : Code} (G : k_G) (a : Nat → Nat) (rv : Value) (n : Nat) {w0 : va_W} {t' : k_St} (hA : k_Amb p s m args meth c cX12_remembers 2 "TaleSharesModel" G (va_A w0 s.heap.size)) (hr : meth.sig.returnType = none) : ∀ (k : Nat) (x1 : Int32) (t : k_St), f_M_remembers_N_50 n k x1 t = some t' → k_Go p l e (k_rm 1) s m args below meth c (k_QV G w0 (k_WN G.2.1 a rv t') args s below) 2 G (va_A w0 s.heap.size) (k_WN G.2.1 a rv t) 50 [(0, .ref (a 0)), (1, .int x1)] [] := by
  intro k
  induction k with
  | zero => intro x1 t hf; cases hf
  | succ k ih =>
  intro x1 t hf
  rw [f_M_remembers_N_50] at hf
  refine k_iload_n (i := 1) hA dX12_remembers_50 rfl 1 rfl ?_
  refine k_bipush hA dX12_remembers_51 kc_b_6 ?_
  refine k_icmp_ge (tgt := 82) hA dX12_remembers_53 rfl (fun hc => ?_) (fun hc => ?_)
  · have hf := k_ift hc hf
    obtain ⟨t_1, et_1, hf⟩ := k_lt_e hf
    obtain rfl := k_r1 hf
    refine k_aload_n (i := 0) hA dX12_remembers_82 rfl 0 rfl ?_
    refine k_dup hA dX12_remembers_83 rfl ?_
    refine gt_MN_0_19 hA wd_1267 dX12_remembers_84 ?_
    refine k_iconst hA dX12_remembers_87 kc_i_1 ?_
    refine k_iadd hA dX12_remembers_88 ?_
    refine pt_MN_0_19 hA wd_1267 et_1 dX12_remembers_89 ?_
    exact k_vret hA hr dX12_remembers_92
  have hf := k_iff hc hf
  obtain ⟨hi_2, hf⟩ := k_gi_e hf
  obtain ⟨hi_3, hf⟩ := k_gi_e hf
  obtain ⟨t_4, et_4, hf⟩ := k_lt_e hf
  obtain ⟨x1_5, ex1_5, hf⟩ := k_lt_e hf
  refine k_aload_n (i := 0) hA dX12_remembers_56 rfl 0 rfl ?_
  refine gt_MN_0_17 hA wd_1265 dX12_remembers_57 ?_
  refine k_bipush hA dX12_remembers_60 kc_b_6 ?_
  refine k_aload_n (i := 0) hA dX12_remembers_62 rfl 0 rfl ?_
  refine gt_MN_0_19 hA wd_1267 dX12_remembers_63 ?_
  refine k_imul hA dX12_remembers_66 ?_
  refine k_iload_n (i := 1) hA dX12_remembers_67 rfl 1 rfl ?_
  refine k_iadd hA dX12_remembers_68 ?_
  refine k_aload_n (i := 0) hA dX12_remembers_69 rfl 0 rfl ?_
  refine gt_MN_0_15 hA wd_1263 dX12_remembers_70 ?_
  refine k_iload_n (i := 1) hA dX12_remembers_73 rfl 1 rfl ?_
  refine ld_MN_2 hA hi_2 dX12_remembers_74 ?_
  refine sr_MN_4 hA hi_3 et_4 dX12_remembers_75 ?_
  refine k_iinc (j := 1) (v := x1_5) (lv' := [(1, .int x1_5), (0, .ref (a 0))]) hA dX12_remembers_76 rfl (k_inc ex1_5 kc_i_1) (Nat.le_of_ble_eq_true rfl) rfl ?_
  refine k_goto (tgt := 50) hA dX12_remembers_79 rfl ?_
  refine k_pick (lv' := [(0, .ref (a 0)), (1, .int x1_5)]) [1, 0] rfl ?_
  exact ih x1_5 t_4 hf

theorem m_M_remembers_N_11 {p : Program} (l : Launch) {e : Env} {s : State} {m : MethodId} {args : Array Value} {below : List Frame} {meth : Method} {c : Code} (G : k_G) (a : Nat → Nat) (rv : Value) (n : Nat) {w0 : va_W} {t' : k_St} (hA : k_Amb p s m args meth c cX12_remembers 2 "TaleSharesModel" G (va_A w0 s.heap.size)) (hr : meth.sig.returnType = none) : ∀ (k : Nat) (x1 : Int32) (t : k_St), f_M_remembers_N_11 n k x1 t = some t' → k_Go p l e (k_rm 1) s m args below meth c (k_QV G w0 (k_WN G.2.1 a rv t') args s below) 2 G (va_A w0 s.heap.size) (k_WN G.2.1 a rv t) 11 [(0, .ref (a 0)), (1, .int x1)] [] := by
  intro k
  induction k with
  | zero => intro x1 t hf; cases hf
  | succ k ih =>
  intro x1 t hf
  rw [f_M_remembers_N_11] at hf
  refine k_iload_n (i := 1) hA dX12_remembers_11 rfl 1 rfl ?_
  refine k_bipush hA dX12_remembers_12 kc_b_90 ?_
  refine k_icmp_ge (tgt := 38) hA dX12_remembers_14 rfl (fun hc => ?_) (fun hc => ?_)
  · have hf := k_ift hc hf
    obtain ⟨t_1, et_1, hf⟩ := k_lt_e hf
    refine k_aload_n (i := 0) hA dX12_remembers_38 rfl 0 rfl ?_
    refine k_dup hA dX12_remembers_39 rfl ?_
    refine gt_MN_0_19 hA wd_1267 dX12_remembers_40 ?_
    refine k_iconst hA dX12_remembers_43 kc_i_1 ?_
    refine k_isub hA dX12_remembers_44 ?_
    refine pt_MN_0_19 hA wd_1267 et_1 dX12_remembers_45 ?_
    refine k_iconst hA dX12_remembers_48 kc_i_0 ?_
    refine k_istore_n (i := 1) (lv' := [(1, .int (0 : Int32)), (0, .ref (a 0))]) hA dX12_remembers_49 rfl rfl (Nat.le_of_ble_eq_true rfl) rfl ?_
    refine k_pick (lv' := [(0, .ref (a 0)), (1, .int (0 : Int32))]) [1, 0] rfl ?_
    exact m_M_remembers_N_50 l G a rv n hA hr n (0 : Int32) t_1 hf
  have hf := k_iff hc hf
  obtain ⟨hi_2, hf⟩ := k_gi_e hf
  obtain ⟨hi_3, hf⟩ := k_gi_e hf
  obtain ⟨t_4, et_4, hf⟩ := k_lt_e hf
  obtain ⟨x1_5, ex1_5, hf⟩ := k_lt_e hf
  refine k_aload_n (i := 0) hA dX12_remembers_17 rfl 0 rfl ?_
  refine gt_MN_0_17 hA wd_1265 dX12_remembers_18 ?_
  refine k_iload_n (i := 1) hA dX12_remembers_21 rfl 1 rfl ?_
  refine k_aload_n (i := 0) hA dX12_remembers_22 rfl 0 rfl ?_
  refine gt_MN_0_17 hA wd_1265 dX12_remembers_23 ?_
  refine k_iload_n (i := 1) hA dX12_remembers_26 rfl 1 rfl ?_
  refine k_bipush hA dX12_remembers_27 kc_b_6 ?_
  refine k_iadd hA dX12_remembers_29 ?_
  refine ld_MN_4 hA hi_2 dX12_remembers_30 ?_
  refine sr_MN_4 hA hi_3 et_4 dX12_remembers_31 ?_
  refine k_iinc (j := 1) (v := x1_5) (lv' := [(1, .int x1_5), (0, .ref (a 0))]) hA dX12_remembers_32 rfl (k_inc ex1_5 kc_i_1) (Nat.le_of_ble_eq_true rfl) rfl ?_
  refine k_goto (tgt := 11) hA dX12_remembers_35 rfl ?_
  refine k_pick (lv' := [(0, .ref (a 0)), (1, .int x1_5)]) [1, 0] rfl ?_
  exact ih x1_5 t_4 hf

theorem m_M_remembers_N (l : Launch) (G : k_G) (a : Nat → Nat) (rv : Value) (n : Nat) (t : k_St) {t' : k_St} (hf : f_M_remembers_N n t = some t') : k_CV l G yX12_remembers cX12_remembers 2 none 1 (k_WN G.2.1 a rv t) [.ref (a 0)] (k_WN G.2.1 a rv t') := by
  refine k_startV (lv := [(0, .ref (a 0))]) (by decide +kernel) (Nat.le_of_ble_eq_true rfl) rfl ?_
  intro p e s m args below meth c hA hr
  have hA : k_Amb p s m args meth c cX12_remembers 2 "TaleSharesModel" G _ := hA
  unfold f_M_remembers_N at hf
  refine k_aload_n (i := 0) hA dX12_remembers_0 rfl 0 rfl ?_
  refine gt_MN_0_19 hA wd_1267 dX12_remembers_1 ?_
  refine k_bipush hA dX12_remembers_4 kc_b_16 ?_
  refine k_icmp_ne (tgt := 48) hA dX12_remembers_6 rfl (fun hc => ?_) (fun hc => ?_)
  · have hf := k_iff hc hf
    refine k_iconst hA dX12_remembers_48 kc_i_0 ?_
    refine k_istore_n (i := 1) (lv' := [(1, .int (0 : Int32)), (0, .ref (a 0))]) hA dX12_remembers_49 rfl rfl (Nat.le_of_ble_eq_true rfl) rfl ?_
    refine k_pick (lv' := [(0, .ref (a 0)), (1, .int (0 : Int32))]) [1, 0] rfl ?_
    exact m_M_remembers_N_50 l G a rv n hA hr n (0 : Int32) t hf
  have hf := k_ift hc hf
  refine k_iconst hA dX12_remembers_9 kc_i_0 ?_
  refine k_istore_n (i := 1) (lv' := [(1, .int (0 : Int32)), (0, .ref (a 0))]) hA dX12_remembers_10 rfl rfl (Nat.le_of_ble_eq_true rfl) rfl ?_
  refine k_pick (lv' := [(0, .ref (a 0)), (1, .int (0 : Int32))]) [1, 0] rfl ?_
  exact m_M_remembers_N_11 l G a rv n hA hr n (0 : Int32) t hf

def f_M_tell_N (n : Nat) (x1 : Int32) (x2 : Int32) (t : k_St) : Option (Int32 × k_St) := k_lt (k_sI t 0 0 (0 : Int32)) (fun t_1 => (if (k_b (f_M_isHouse_N t_1 x1)) = 0 then k_lt (f_M_refused_N (1 : Int32) t_1) (fun q_2 => some (q_2.1, q_2.2)) else (if (k_b (f_M_isHouse_N t_1 x2)) = 0 then k_lt (f_M_refused_N (1 : Int32) t_1) (fun q_3 => some (q_3.1, q_3.2)) else (if x1 = x2 then k_lt (f_M_refused_N (1 : Int32) t_1) (fun q_14 => some (q_14.1, q_14.2)) else k_cp (f_M_canTell_N t_1 x1) (fun r_4 => (if (k_b r_4) = 0 then k_lt (f_M_refused_N (5 : Int32) t_1) (fun q_13 => some (q_13.1, q_13.2)) else k_cv (f_M_remembers_N n t_1) (fun t_5 => k_gi x1 6 (k_gi x2 6 (k_lt ((t_5.1 2 x1.toNatClampNeg) &&& ((t_5.1 2 x2.toNatClampNeg) ^^^ (-1 : Int32))) (fun x3_8 => k_gi x2 6 (k_gi x2 6 (k_lt (k_sI t_5 2 x2.toNatClampNeg ((t_5.1 2 x2.toNatClampNeg) ||| x3_8)) (fun t_11 => k_lt (f_M_good_N x3_8 t_11) (fun q_12 => some (q_12.1, q_12.2)))))))))))))))
theorem m_M_tell_N (l : Launch) (G : k_G) (a : Nat → Nat) (rv : Value) (n : Nat) (x1 : Int32) (x2 : Int32) (t : k_St) {r : Int32} {t' : k_St} (hf : f_M_tell_N n x1 x2 t = some (r, t')) : k_CI l G yX12_tell cX12_tell 4 (some .int) 2 (k_WN G.2.1 a rv t) [.ref (a 0), .int x1, .int x2] r (k_WN G.2.1 a rv t') := by
  refine k_startI (lv := [(0, .ref (a 0)), (1, .int x1), (2, .int x2)]) (by decide +kernel) (Nat.le_of_ble_eq_true rfl) rfl ?_
  intro p e s m args below meth c hA hr
  have hA : k_Amb p s m args meth c cX12_tell 4 "TaleSharesModel" G _ := hA
  unfold f_M_tell_N at hf
  obtain ⟨t_1, et_1, hf⟩ := k_lt_e hf
  refine k_aload_n (i := 0) hA dX12_tell_0 rfl 0 rfl ?_
  refine k_iconst hA dX12_tell_1 kc_i_0 ?_
  refine pt_MN_0_0 hA wd_1248 et_1 dX12_tell_2 ?_
  refine k_aload_n (i := 0) hA dX12_tell_5 rfl 0 rfl ?_
  refine k_iload_n (i := 1) hA dX12_tell_6 rfl 1 rfl ?_
  refine k_callVi (As := [.int x1]) (rest := []) hA (m_M_isHouse_N l G a rv t_1 x1 rfl) cd_X12_isHouse wd_1625 (hc_MN_0 G.2.1 a rv t_1) rfl rfl (Nat.le_of_ble_eq_true rfl) rfl rfl (Nat.le_of_ble_eq_true rfl) dX12_tell_7 ?_
  refine k_if_eq (tgt := 26) hA dX12_tell_10 rfl (fun hc => ?_) (fun hc => ?_)
  · have hf := k_ift hc hf
    obtain ⟨⟨rq_2, tq_2⟩, hq_2, hf⟩ := k_lt_e hf
    dsimp only at hf
    obtain ⟨rfl, rfl⟩ := k_r2 hf
    refine k_aload_n (i := 0) hA dX12_tell_26 rfl 0 rfl ?_
    refine k_iconst hA dX12_tell_27 kc_i_1 ?_
    refine k_callVi (As := [.int (1 : Int32)]) (rest := []) hA (m_M_refused_N l G a rv (1 : Int32) t_1 hq_2.symm) cd_X12_refused wd_1390 (hc_MN_0 G.2.1 a rv t_1) rfl rfl (Nat.le_of_ble_eq_true rfl) rfl rfl (Nat.le_of_ble_eq_true rfl) dX12_tell_28 ?_
    exact k_iret hA hr rfl dX12_tell_31
  have hf := k_iff hc hf
  refine k_aload_n (i := 0) hA dX12_tell_13 rfl 0 rfl ?_
  refine k_iload_n (i := 2) hA dX12_tell_14 rfl 2 rfl ?_
  refine k_callVi (As := [.int x2]) (rest := []) hA (m_M_isHouse_N l G a rv t_1 x2 rfl) cd_X12_isHouse wd_1625 (hc_MN_0 G.2.1 a rv t_1) rfl rfl (Nat.le_of_ble_eq_true rfl) rfl rfl (Nat.le_of_ble_eq_true rfl) dX12_tell_15 ?_
  refine k_if_eq (tgt := 26) hA dX12_tell_18 rfl (fun hc => ?_) (fun hc => ?_)
  · have hf := k_ift hc hf
    obtain ⟨⟨rq_3, tq_3⟩, hq_3, hf⟩ := k_lt_e hf
    dsimp only at hf
    obtain ⟨rfl, rfl⟩ := k_r2 hf
    refine k_aload_n (i := 0) hA dX12_tell_26 rfl 0 rfl ?_
    refine k_iconst hA dX12_tell_27 kc_i_1 ?_
    refine k_callVi (As := [.int (1 : Int32)]) (rest := []) hA (m_M_refused_N l G a rv (1 : Int32) t_1 hq_3.symm) cd_X12_refused wd_1390 (hc_MN_0 G.2.1 a rv t_1) rfl rfl (Nat.le_of_ble_eq_true rfl) rfl rfl (Nat.le_of_ble_eq_true rfl) dX12_tell_28 ?_
    exact k_iret hA hr rfl dX12_tell_31
  have hf := k_iff hc hf
  refine k_iload_n (i := 1) hA dX12_tell_21 rfl 1 rfl ?_
  refine k_iload_n (i := 2) hA dX12_tell_22 rfl 2 rfl ?_
  refine k_icmp_ne (tgt := 32) hA dX12_tell_23 rfl (fun hc => ?_) (fun hc => ?_)
  · have hf := k_iff hc hf
    obtain ⟨r_4, hr_4, hf⟩ := k_cp_e hf
    refine k_aload_n (i := 0) hA dX12_tell_32 rfl 0 rfl ?_
    refine k_iload_n (i := 1) hA dX12_tell_33 rfl 1 rfl ?_
    refine k_callVi (As := [.int x1]) (rest := []) hA (m_M_canTell_N l G a rv t_1 x1 hr_4) cd_X12_canTell wd_1732 (hc_MN_0 G.2.1 a rv t_1) rfl rfl (Nat.le_of_ble_eq_true rfl) rfl rfl (Nat.le_of_ble_eq_true rfl) dX12_tell_34 ?_
    refine k_if_ne (tgt := 46) hA dX12_tell_37 rfl (fun hc => ?_) (fun hc => ?_)
    · have hf := k_iff hc hf
      obtain ⟨t_5, ht_5, hf⟩ := k_cv_e hf
      obtain ⟨hi_6, hf⟩ := k_gi_e hf
      obtain ⟨hi_7, hf⟩ := k_gi_e hf
      obtain ⟨x3_8, ex3_8, hf⟩ := k_lt_e hf
      obtain ⟨hi_9, hf⟩ := k_gi_e hf
      obtain ⟨hi_10, hf⟩ := k_gi_e hf
      obtain ⟨t_11, et_11, hf⟩ := k_lt_e hf
      obtain ⟨⟨rq_12, tq_12⟩, hq_12, hf⟩ := k_lt_e hf
      dsimp only at hf
      obtain ⟨rfl, rfl⟩ := k_r2 hf
      refine k_aload_n (i := 0) hA dX12_tell_46 rfl 0 rfl ?_
      refine k_callVv (As := []) (rest := []) hA (m_M_remembers_N l G a rv n t_1 ht_5) cd_X12_remembers wd_1939 (hc_MN_0 G.2.1 a rv t_1) rfl rfl (Nat.le_of_ble_eq_true rfl) rfl rfl (Nat.le_of_ble_eq_true rfl) dX12_tell_47 ?_
      refine k_aload_n (i := 0) hA dX12_tell_50 rfl 0 rfl ?_
      refine gt_MN_0_15 hA wd_1263 dX12_tell_51 ?_
      refine k_iload_n (i := 1) hA dX12_tell_54 rfl 1 rfl ?_
      refine ld_MN_2 hA hi_6 dX12_tell_55 ?_
      refine k_aload_n (i := 0) hA dX12_tell_56 rfl 0 rfl ?_
      refine gt_MN_0_15 hA wd_1263 dX12_tell_57 ?_
      refine k_iload_n (i := 2) hA dX12_tell_60 rfl 2 rfl ?_
      refine ld_MN_2 hA hi_7 dX12_tell_61 ?_
      refine k_iconst hA dX12_tell_62 kc_i_m1 ?_
      refine k_ixor hA dX12_tell_63 ?_
      refine k_iand hA dX12_tell_64 ?_
      refine k_istore_n (i := 3) (lv' := [(3, .int x3_8), (0, .ref (a 0)), (1, .int x1), (2, .int x2)]) hA dX12_tell_65 rfl ex3_8 (Nat.le_of_ble_eq_true rfl) rfl ?_
      refine k_aload_n (i := 0) hA dX12_tell_66 rfl 1 rfl ?_
      refine gt_MN_0_15 hA wd_1263 dX12_tell_67 ?_
      refine k_iload_n (i := 2) hA dX12_tell_70 rfl 3 rfl ?_
      refine k_dup2_11 hA dX12_tell_71 rfl rfl ?_
      refine ld_MN_2 hA hi_9 dX12_tell_72 ?_
      refine k_iload_n (i := 3) hA dX12_tell_73 rfl 0 rfl ?_
      refine k_ior hA dX12_tell_74 ?_
      refine sr_MN_2 hA hi_10 et_11 dX12_tell_75 ?_
      refine k_aload_n (i := 0) hA dX12_tell_76 rfl 1 rfl ?_
      refine k_iload_n (i := 3) hA dX12_tell_77 rfl 0 rfl ?_
      refine k_callVi (As := [.int x3_8]) (rest := []) hA (m_M_good_N l G a rv x3_8 t_11 hq_12.symm) cd_X12_good wd_1601 (hc_MN_0 G.2.1 a rv t_11) rfl rfl (Nat.le_of_ble_eq_true rfl) rfl rfl (Nat.le_of_ble_eq_true rfl) dX12_tell_78 ?_
      exact k_iret hA hr rfl dX12_tell_81
    have hf := k_ift hc hf
    obtain ⟨⟨rq_13, tq_13⟩, hq_13, hf⟩ := k_lt_e hf
    dsimp only at hf
    obtain ⟨rfl, rfl⟩ := k_r2 hf
    refine k_aload_n (i := 0) hA dX12_tell_40 rfl 0 rfl ?_
    refine k_iconst hA dX12_tell_41 kc_i_5 ?_
    refine k_callVi (As := [.int (5 : Int32)]) (rest := []) hA (m_M_refused_N l G a rv (5 : Int32) t_1 hq_13.symm) cd_X12_refused wd_1390 (hc_MN_0 G.2.1 a rv t_1) rfl rfl (Nat.le_of_ble_eq_true rfl) rfl rfl (Nat.le_of_ble_eq_true rfl) dX12_tell_42 ?_
    exact k_iret hA hr rfl dX12_tell_45
  have hf := k_ift hc hf
  obtain ⟨⟨rq_14, tq_14⟩, hq_14, hf⟩ := k_lt_e hf
  dsimp only at hf
  obtain ⟨rfl, rfl⟩ := k_r2 hf
  refine k_aload_n (i := 0) hA dX12_tell_26 rfl 0 rfl ?_
  refine k_iconst hA dX12_tell_27 kc_i_1 ?_
  refine k_callVi (As := [.int (1 : Int32)]) (rest := []) hA (m_M_refused_N l G a rv (1 : Int32) t_1 hq_14.symm) cd_X12_refused wd_1390 (hc_MN_0 G.2.1 a rv t_1) rfl rfl (Nat.le_of_ble_eq_true rfl) rfl rfl (Nat.le_of_ble_eq_true rfl) dX12_tell_28 ?_
  exact k_iret hA hr rfl dX12_tell_31

def f_M_denied_N (x1 : Int32) (t : k_St) : Bool × k_St := k_lt (f_M_refused_N x1 t) (fun q_1 => (false, q_1.2))
theorem m_M_denied_N (l : Launch) (G : k_G) (a : Nat → Nat) (rv : Value) (x1 : Int32) (t : k_St) {r : Bool} {t' : k_St} (hf : f_M_denied_N x1 t = (r, t')) : k_CI l G yX12_denied cX12_denied 2 (some .boolean) 2 (k_WN G.2.1 a rv t) [.ref (a 0), .int x1] (k_b r) (k_WN G.2.1 a rv t') := by
  refine k_startI (lv := [(0, .ref (a 0)), (1, .int x1)]) (by decide +kernel) (Nat.le_of_ble_eq_true rfl) rfl ?_
  intro p e s m args below meth c hA hr
  have hA : k_Amb p s m args meth c cX12_denied 2 "TaleSharesModel" G _ := hA
  unfold f_M_denied_N at hf
  obtain ⟨⟨rq_1, tq_1⟩, hq_1, hf⟩ := k_lt_e hf
  dsimp only at hf
  obtain ⟨rfl, rfl⟩ := k_p2 hf
  refine k_aload_n (i := 0) hA dX12_denied_0 rfl 0 rfl ?_
  refine k_iload_n (i := 1) hA dX12_denied_1 rfl 1 rfl ?_
  refine k_callVi (As := [.int x1]) (rest := []) hA (m_M_refused_N l G a rv x1 t hq_1.symm) cd_X12_refused wd_1390 (hc_MN_0 G.2.1 a rv t) rfl rfl (Nat.le_of_ble_eq_true rfl) rfl rfl (Nat.le_of_ble_eq_true rfl) dX12_denied_2 ?_
  refine k_pop hA dX12_denied_5 rfl ?_
  refine k_iconst hA dX12_denied_6 kc_i_0 ?_
  exact k_iret hA hr (k_narB (k_b01 _)) dX12_denied_7

def f_M_granted_N (t : k_St) : Bool × k_St := k_lt (f_M_good_N (0 : Int32) t) (fun q_1 => (true, q_1.2))
theorem m_M_granted_N (l : Launch) (G : k_G) (a : Nat → Nat) (rv : Value) (t : k_St) {r : Bool} {t' : k_St} (hf : f_M_granted_N t = (r, t')) : k_CI l G yX12_granted cX12_granted 1 (some .boolean) 2 (k_WN G.2.1 a rv t) [.ref (a 0)] (k_b r) (k_WN G.2.1 a rv t') := by
  refine k_startI (lv := [(0, .ref (a 0))]) (by decide +kernel) (Nat.le_of_ble_eq_true rfl) rfl ?_
  intro p e s m args below meth c hA hr
  have hA : k_Amb p s m args meth c cX12_granted 1 "TaleSharesModel" G _ := hA
  unfold f_M_granted_N at hf
  obtain ⟨⟨rq_1, tq_1⟩, hq_1, hf⟩ := k_lt_e hf
  dsimp only at hf
  obtain ⟨rfl, rfl⟩ := k_p2 hf
  refine k_aload_n (i := 0) hA dX12_granted_0 rfl 0 rfl ?_
  refine k_iconst hA dX12_granted_1 kc_i_0 ?_
  refine k_callVi (As := [.int (0 : Int32)]) (rest := []) hA (m_M_good_N l G a rv (0 : Int32) t hq_1.symm) cd_X12_good wd_1601 (hc_MN_0 G.2.1 a rv t) rfl rfl (Nat.le_of_ble_eq_true rfl) rfl rfl (Nat.le_of_ble_eq_true rfl) dX12_granted_2 ?_
  refine k_pop hA dX12_granted_5 rfl ?_
  refine k_iconst hA dX12_granted_6 kc_i_1 ?_
  exact k_iret hA hr (k_narB (k_b01 _)) dX12_granted_7

def f_M_learn_N (n : Nat) (x1 : Int32) (x2 : Int32) (t : k_St) : Option (Bool × k_St) := k_lt (k_sI t 0 0 (0 : Int32)) (fun t_1 => (if (k_b (f_M_isHouse_N t_1 x1)) = 0 then k_lt (f_M_denied_N (1 : Int32) t_1) (fun q_2 => some (q_2.1, q_2.2)) else (if (k_b (f_M_isPiece_N t_1 x2)) = 0 then k_lt (f_M_denied_N (1 : Int32) t_1) (fun q_10 => some (q_10.1, q_10.2)) else k_gi x1 6 ((if (k_b (f_M_bit (t_1.1 2 x1.toNatClampNeg) x2)) = 0 then k_cv (f_M_remembers_N n t_1) (fun t_4 => k_gi x1 6 (k_gi x1 6 (k_lt (k_sI t_4 2 x1.toNatClampNeg ((t_4.1 2 x1.toNatClampNeg) ||| ((1 : Int32) <<< (x2 &&& 31)))) (fun t_7 => k_lt (f_M_granted_N t_7) (fun q_8 => some (q_8.1, q_8.2)))))) else k_lt (f_M_denied_N (5 : Int32) t_1) (fun q_9 => some (q_9.1, q_9.2)))))))
theorem m_M_learn_N (l : Launch) (G : k_G) (a : Nat → Nat) (rv : Value) (n : Nat) (x1 : Int32) (x2 : Int32) (t : k_St) {r : Bool} {t' : k_St} (hf : f_M_learn_N n x1 x2 t = some (r, t')) : k_CI l G yX12_learn cX12_learn 3 (some .boolean) 3 (k_WN G.2.1 a rv t) [.ref (a 0), .int x1, .int x2] (k_b r) (k_WN G.2.1 a rv t') := by
  refine k_startI (lv := [(0, .ref (a 0)), (1, .int x1), (2, .int x2)]) (by decide +kernel) (Nat.le_of_ble_eq_true rfl) rfl ?_
  intro p e s m args below meth c hA hr
  have hA : k_Amb p s m args meth c cX12_learn 3 "TaleSharesModel" G _ := hA
  unfold f_M_learn_N at hf
  obtain ⟨t_1, et_1, hf⟩ := k_lt_e hf
  refine k_aload_n (i := 0) hA dX12_learn_0 rfl 0 rfl ?_
  refine k_iconst hA dX12_learn_1 kc_i_0 ?_
  refine pt_MN_0_0 hA wd_1248 et_1 dX12_learn_2 ?_
  refine k_aload_n (i := 0) hA dX12_learn_5 rfl 0 rfl ?_
  refine k_iload_n (i := 1) hA dX12_learn_6 rfl 1 rfl ?_
  refine k_callVi (As := [.int x1]) (rest := []) hA (m_M_isHouse_N l G a rv t_1 x1 rfl) cd_X12_isHouse wd_1625 (hc_MN_0 G.2.1 a rv t_1) rfl rfl (Nat.le_of_ble_eq_true rfl) rfl rfl (Nat.le_of_ble_eq_true rfl) dX12_learn_7 ?_
  refine k_if_eq (tgt := 21) hA dX12_learn_10 rfl (fun hc => ?_) (fun hc => ?_)
  · have hf := k_ift hc hf
    obtain ⟨⟨rq_2, tq_2⟩, hq_2, hf⟩ := k_lt_e hf
    dsimp only at hf
    obtain ⟨rfl, rfl⟩ := k_r2 hf
    refine k_aload_n (i := 0) hA dX12_learn_21 rfl 0 rfl ?_
    refine k_iconst hA dX12_learn_22 kc_i_1 ?_
    refine k_callVi (As := [.int (1 : Int32)]) (rest := []) hA (m_M_denied_N l G a rv (1 : Int32) t_1 hq_2.symm) cd_X12_denied wd_1947 (hc_MN_0 G.2.1 a rv t_1) rfl rfl (Nat.le_of_ble_eq_true rfl) rfl rfl (Nat.le_of_ble_eq_true rfl) dX12_learn_23 ?_
    exact k_iret hA hr (k_narB (k_b01 _)) dX12_learn_26
  have hf := k_iff hc hf
  refine k_aload_n (i := 0) hA dX12_learn_13 rfl 0 rfl ?_
  refine k_iload_n (i := 2) hA dX12_learn_14 rfl 2 rfl ?_
  refine k_callVi (As := [.int x2]) (rest := []) hA (m_M_isPiece_N l G a rv t_1 x2 rfl) cd_X12_isPiece wd_1617 (hc_MN_0 G.2.1 a rv t_1) rfl rfl (Nat.le_of_ble_eq_true rfl) rfl rfl (Nat.le_of_ble_eq_true rfl) dX12_learn_15 ?_
  refine k_if_ne (tgt := 27) hA dX12_learn_18 rfl (fun hc => ?_) (fun hc => ?_)
  · have hf := k_iff hc hf
    obtain ⟨hi_3, hf⟩ := k_gi_e hf
    refine k_aload_n (i := 0) hA dX12_learn_27 rfl 0 rfl ?_
    refine gt_MN_0_15 hA wd_1263 dX12_learn_28 ?_
    refine k_iload_n (i := 1) hA dX12_learn_31 rfl 1 rfl ?_
    refine ld_MN_2 hA hi_3 dX12_learn_32 ?_
    refine k_iload_n (i := 2) hA dX12_learn_33 rfl 2 rfl ?_
    refine k_callSi (As := [.int (t_1.1 2 x1.toNatClampNeg), .int x2]) (rest := []) hA (m_M_bit l G (k_WN G.2.1 a rv t_1) (t_1.1 2 x1.toNatClampNeg) x2 rfl) cd_X12_bit wd_1575 (Nat.le_of_ble_eq_true rfl) rfl rfl (Nat.le_of_ble_eq_true rfl) dX12_learn_34 ?_
    refine k_if_eq (tgt := 46) hA dX12_learn_37 rfl (fun hc => ?_) (fun hc => ?_)
    · have hf := k_ift hc hf
      obtain ⟨t_4, ht_4, hf⟩ := k_cv_e hf
      obtain ⟨hi_5, hf⟩ := k_gi_e hf
      obtain ⟨hi_6, hf⟩ := k_gi_e hf
      obtain ⟨t_7, et_7, hf⟩ := k_lt_e hf
      obtain ⟨⟨rq_8, tq_8⟩, hq_8, hf⟩ := k_lt_e hf
      dsimp only at hf
      obtain ⟨rfl, rfl⟩ := k_r2 hf
      refine k_aload_n (i := 0) hA dX12_learn_46 rfl 0 rfl ?_
      refine k_callVv (As := []) (rest := []) hA (m_M_remembers_N l G a rv n t_1 ht_4) cd_X12_remembers wd_1939 (hc_MN_0 G.2.1 a rv t_1) rfl rfl (Nat.le_of_ble_eq_true rfl) rfl rfl (Nat.le_of_ble_eq_true rfl) dX12_learn_47 ?_
      refine k_aload_n (i := 0) hA dX12_learn_50 rfl 0 rfl ?_
      refine gt_MN_0_15 hA wd_1263 dX12_learn_51 ?_
      refine k_iload_n (i := 1) hA dX12_learn_54 rfl 1 rfl ?_
      refine k_dup2_11 hA dX12_learn_55 rfl rfl ?_
      refine ld_MN_2 hA hi_5 dX12_learn_56 ?_
      refine k_iconst hA dX12_learn_57 kc_i_1 ?_
      refine k_iload_n (i := 2) hA dX12_learn_58 rfl 2 rfl ?_
      refine k_ishl hA dX12_learn_59 ?_
      refine k_ior hA dX12_learn_60 ?_
      refine sr_MN_2 hA hi_6 et_7 dX12_learn_61 ?_
      refine k_aload_n (i := 0) hA dX12_learn_62 rfl 0 rfl ?_
      refine k_callVi (As := []) (rest := []) hA (m_M_granted_N l G a rv t_7 hq_8.symm) cd_X12_granted wd_1951 (hc_MN_0 G.2.1 a rv t_7) rfl rfl (Nat.le_of_ble_eq_true rfl) rfl rfl (Nat.le_of_ble_eq_true rfl) dX12_learn_63 ?_
      exact k_iret hA hr (k_narB (k_b01 _)) dX12_learn_66
    have hf := k_iff hc hf
    obtain ⟨⟨rq_9, tq_9⟩, hq_9, hf⟩ := k_lt_e hf
    dsimp only at hf
    obtain ⟨rfl, rfl⟩ := k_r2 hf
    refine k_aload_n (i := 0) hA dX12_learn_40 rfl 0 rfl ?_
    refine k_iconst hA dX12_learn_41 kc_i_5 ?_
    refine k_callVi (As := [.int (5 : Int32)]) (rest := []) hA (m_M_denied_N l G a rv (5 : Int32) t_1 hq_9.symm) cd_X12_denied wd_1947 (hc_MN_0 G.2.1 a rv t_1) rfl rfl (Nat.le_of_ble_eq_true rfl) rfl rfl (Nat.le_of_ble_eq_true rfl) dX12_learn_42 ?_
    exact k_iret hA hr (k_narB (k_b01 _)) dX12_learn_45
  have hf := k_ift hc hf
  obtain ⟨⟨rq_10, tq_10⟩, hq_10, hf⟩ := k_lt_e hf
  dsimp only at hf
  obtain ⟨rfl, rfl⟩ := k_r2 hf
  refine k_aload_n (i := 0) hA dX12_learn_21 rfl 0 rfl ?_
  refine k_iconst hA dX12_learn_22 kc_i_1 ?_
  refine k_callVi (As := [.int (1 : Int32)]) (rest := []) hA (m_M_denied_N l G a rv (1 : Int32) t_1 hq_10.symm) cd_X12_denied wd_1947 (hc_MN_0 G.2.1 a rv t_1) rfl rfl (Nat.le_of_ble_eq_true rfl) rfl rfl (Nat.le_of_ble_eq_true rfl) dX12_learn_23 ?_
  exact k_iret hA hr (k_narB (k_b01 _)) dX12_learn_26

def f_M_forget_N (n : Nat) (x1 : Int32) (x2 : Int32) (t : k_St) : Option (Bool × k_St) := k_lt (k_sI t 0 0 (0 : Int32)) (fun t_1 => (if (k_b (f_M_isHouse_N t_1 x1)) = 0 then k_lt (f_M_denied_N (1 : Int32) t_1) (fun q_2 => some (q_2.1, q_2.2)) else (if (k_b (f_M_isPiece_N t_1 x2)) = 0 then k_lt (f_M_denied_N (1 : Int32) t_1) (fun q_10 => some (q_10.1, q_10.2)) else k_gi x1 6 ((if (k_b (f_M_bit (t_1.1 2 x1.toNatClampNeg) x2)) = 0 then k_lt (f_M_denied_N (5 : Int32) t_1) (fun q_9 => some (q_9.1, q_9.2)) else k_cv (f_M_remembers_N n t_1) (fun t_4 => k_gi x1 6 (k_gi x1 6 (k_lt (k_sI t_4 2 x1.toNatClampNeg ((t_4.1 2 x1.toNatClampNeg) ^^^ ((1 : Int32) <<< (x2 &&& 31)))) (fun t_7 => k_lt (f_M_granted_N t_7) (fun q_8 => some (q_8.1, q_8.2)))))))))))
theorem m_M_forget_N (l : Launch) (G : k_G) (a : Nat → Nat) (rv : Value) (n : Nat) (x1 : Int32) (x2 : Int32) (t : k_St) {r : Bool} {t' : k_St} (hf : f_M_forget_N n x1 x2 t = some (r, t')) : k_CI l G yX12_forget cX12_forget 3 (some .boolean) 3 (k_WN G.2.1 a rv t) [.ref (a 0), .int x1, .int x2] (k_b r) (k_WN G.2.1 a rv t') := by
  refine k_startI (lv := [(0, .ref (a 0)), (1, .int x1), (2, .int x2)]) (by decide +kernel) (Nat.le_of_ble_eq_true rfl) rfl ?_
  intro p e s m args below meth c hA hr
  have hA : k_Amb p s m args meth c cX12_forget 3 "TaleSharesModel" G _ := hA
  unfold f_M_forget_N at hf
  obtain ⟨t_1, et_1, hf⟩ := k_lt_e hf
  refine k_aload_n (i := 0) hA dX12_forget_0 rfl 0 rfl ?_
  refine k_iconst hA dX12_forget_1 kc_i_0 ?_
  refine pt_MN_0_0 hA wd_1248 et_1 dX12_forget_2 ?_
  refine k_aload_n (i := 0) hA dX12_forget_5 rfl 0 rfl ?_
  refine k_iload_n (i := 1) hA dX12_forget_6 rfl 1 rfl ?_
  refine k_callVi (As := [.int x1]) (rest := []) hA (m_M_isHouse_N l G a rv t_1 x1 rfl) cd_X12_isHouse wd_1625 (hc_MN_0 G.2.1 a rv t_1) rfl rfl (Nat.le_of_ble_eq_true rfl) rfl rfl (Nat.le_of_ble_eq_true rfl) dX12_forget_7 ?_
  refine k_if_eq (tgt := 21) hA dX12_forget_10 rfl (fun hc => ?_) (fun hc => ?_)
  · have hf := k_ift hc hf
    obtain ⟨⟨rq_2, tq_2⟩, hq_2, hf⟩ := k_lt_e hf
    dsimp only at hf
    obtain ⟨rfl, rfl⟩ := k_r2 hf
    refine k_aload_n (i := 0) hA dX12_forget_21 rfl 0 rfl ?_
    refine k_iconst hA dX12_forget_22 kc_i_1 ?_
    refine k_callVi (As := [.int (1 : Int32)]) (rest := []) hA (m_M_denied_N l G a rv (1 : Int32) t_1 hq_2.symm) cd_X12_denied wd_1947 (hc_MN_0 G.2.1 a rv t_1) rfl rfl (Nat.le_of_ble_eq_true rfl) rfl rfl (Nat.le_of_ble_eq_true rfl) dX12_forget_23 ?_
    exact k_iret hA hr (k_narB (k_b01 _)) dX12_forget_26
  have hf := k_iff hc hf
  refine k_aload_n (i := 0) hA dX12_forget_13 rfl 0 rfl ?_
  refine k_iload_n (i := 2) hA dX12_forget_14 rfl 2 rfl ?_
  refine k_callVi (As := [.int x2]) (rest := []) hA (m_M_isPiece_N l G a rv t_1 x2 rfl) cd_X12_isPiece wd_1617 (hc_MN_0 G.2.1 a rv t_1) rfl rfl (Nat.le_of_ble_eq_true rfl) rfl rfl (Nat.le_of_ble_eq_true rfl) dX12_forget_15 ?_
  refine k_if_ne (tgt := 27) hA dX12_forget_18 rfl (fun hc => ?_) (fun hc => ?_)
  · have hf := k_iff hc hf
    obtain ⟨hi_3, hf⟩ := k_gi_e hf
    refine k_aload_n (i := 0) hA dX12_forget_27 rfl 0 rfl ?_
    refine gt_MN_0_15 hA wd_1263 dX12_forget_28 ?_
    refine k_iload_n (i := 1) hA dX12_forget_31 rfl 1 rfl ?_
    refine ld_MN_2 hA hi_3 dX12_forget_32 ?_
    refine k_iload_n (i := 2) hA dX12_forget_33 rfl 2 rfl ?_
    refine k_callSi (As := [.int (t_1.1 2 x1.toNatClampNeg), .int x2]) (rest := []) hA (m_M_bit l G (k_WN G.2.1 a rv t_1) (t_1.1 2 x1.toNatClampNeg) x2 rfl) cd_X12_bit wd_1575 (Nat.le_of_ble_eq_true rfl) rfl rfl (Nat.le_of_ble_eq_true rfl) dX12_forget_34 ?_
    refine k_if_ne (tgt := 46) hA dX12_forget_37 rfl (fun hc => ?_) (fun hc => ?_)
    · have hf := k_iff hc hf
      obtain ⟨t_4, ht_4, hf⟩ := k_cv_e hf
      obtain ⟨hi_5, hf⟩ := k_gi_e hf
      obtain ⟨hi_6, hf⟩ := k_gi_e hf
      obtain ⟨t_7, et_7, hf⟩ := k_lt_e hf
      obtain ⟨⟨rq_8, tq_8⟩, hq_8, hf⟩ := k_lt_e hf
      dsimp only at hf
      obtain ⟨rfl, rfl⟩ := k_r2 hf
      refine k_aload_n (i := 0) hA dX12_forget_46 rfl 0 rfl ?_
      refine k_callVv (As := []) (rest := []) hA (m_M_remembers_N l G a rv n t_1 ht_4) cd_X12_remembers wd_1939 (hc_MN_0 G.2.1 a rv t_1) rfl rfl (Nat.le_of_ble_eq_true rfl) rfl rfl (Nat.le_of_ble_eq_true rfl) dX12_forget_47 ?_
      refine k_aload_n (i := 0) hA dX12_forget_50 rfl 0 rfl ?_
      refine gt_MN_0_15 hA wd_1263 dX12_forget_51 ?_
      refine k_iload_n (i := 1) hA dX12_forget_54 rfl 1 rfl ?_
      refine k_dup2_11 hA dX12_forget_55 rfl rfl ?_
      refine ld_MN_2 hA hi_5 dX12_forget_56 ?_
      refine k_iconst hA dX12_forget_57 kc_i_1 ?_
      refine k_iload_n (i := 2) hA dX12_forget_58 rfl 2 rfl ?_
      refine k_ishl hA dX12_forget_59 ?_
      refine k_ixor hA dX12_forget_60 ?_
      refine sr_MN_2 hA hi_6 et_7 dX12_forget_61 ?_
      refine k_aload_n (i := 0) hA dX12_forget_62 rfl 0 rfl ?_
      refine k_callVi (As := []) (rest := []) hA (m_M_granted_N l G a rv t_7 hq_8.symm) cd_X12_granted wd_1951 (hc_MN_0 G.2.1 a rv t_7) rfl rfl (Nat.le_of_ble_eq_true rfl) rfl rfl (Nat.le_of_ble_eq_true rfl) dX12_forget_63 ?_
      exact k_iret hA hr (k_narB (k_b01 _)) dX12_forget_66
    have hf := k_ift hc hf
    obtain ⟨⟨rq_9, tq_9⟩, hq_9, hf⟩ := k_lt_e hf
    dsimp only at hf
    obtain ⟨rfl, rfl⟩ := k_r2 hf
    refine k_aload_n (i := 0) hA dX12_forget_40 rfl 0 rfl ?_
    refine k_iconst hA dX12_forget_41 kc_i_5 ?_
    refine k_callVi (As := [.int (5 : Int32)]) (rest := []) hA (m_M_denied_N l G a rv (5 : Int32) t_1 hq_9.symm) cd_X12_denied wd_1947 (hc_MN_0 G.2.1 a rv t_1) rfl rfl (Nat.le_of_ble_eq_true rfl) rfl rfl (Nat.le_of_ble_eq_true rfl) dX12_forget_42 ?_
    exact k_iret hA hr (k_narB (k_b01 _)) dX12_forget_45
  have hf := k_ift hc hf
  obtain ⟨⟨rq_10, tq_10⟩, hq_10, hf⟩ := k_lt_e hf
  dsimp only at hf
  obtain ⟨rfl, rfl⟩ := k_r2 hf
  refine k_aload_n (i := 0) hA dX12_forget_21 rfl 0 rfl ?_
  refine k_iconst hA dX12_forget_22 kc_i_1 ?_
  refine k_callVi (As := [.int (1 : Int32)]) (rest := []) hA (m_M_denied_N l G a rv (1 : Int32) t_1 hq_10.symm) cd_X12_denied wd_1947 (hc_MN_0 G.2.1 a rv t_1) rfl rfl (Nat.le_of_ble_eq_true rfl) rfl rfl (Nat.le_of_ble_eq_true rfl) dX12_forget_23 ?_
  exact k_iret hA hr (k_narB (k_b01 _)) dX12_forget_26

def f_M_evening_N (x1 : Int32) (t : k_St) : Option (Int32 × k_St) := k_lt (k_sI t 0 0 (0 : Int32)) (fun t_1 => (if (k_b (f_M_isHouse_N t_1 x1)) = 0 then k_lt (f_M_refused_N (1 : Int32) t_1) (fun q_2 => some (q_2.1, q_2.2)) else none))
theorem m_M_evening_N (l : Launch) (G : k_G) (a : Nat → Nat) (rv : Value) (x1 : Int32) (t : k_St) {r : Int32} {t' : k_St} (hf : f_M_evening_N x1 t = some (r, t')) : k_CI l G yX12_evening cX12_evening 3 (some .int) 2 (k_WN G.2.1 a rv t) [.ref (a 0), .int x1] r (k_WN G.2.1 a rv t') := by
  refine k_startI (lv := [(0, .ref (a 0)), (1, .int x1)]) (by decide +kernel) (Nat.le_of_ble_eq_true rfl) rfl ?_
  intro p e s m args below meth c hA hr
  have hA : k_Amb p s m args meth c cX12_evening 3 "TaleSharesModel" G _ := hA
  unfold f_M_evening_N at hf
  obtain ⟨t_1, et_1, hf⟩ := k_lt_e hf
  refine k_aload_n (i := 0) hA dX12_evening_0 rfl 0 rfl ?_
  refine k_iconst hA dX12_evening_1 kc_i_0 ?_
  refine pt_MN_0_0 hA wd_1248 et_1 dX12_evening_2 ?_
  refine k_aload_n (i := 0) hA dX12_evening_5 rfl 0 rfl ?_
  refine k_iload_n (i := 1) hA dX12_evening_6 rfl 1 rfl ?_
  refine k_callVi (As := [.int x1]) (rest := []) hA (m_M_isHouse_N l G a rv t_1 x1 rfl) cd_X12_isHouse wd_1625 (hc_MN_0 G.2.1 a rv t_1) rfl rfl (Nat.le_of_ble_eq_true rfl) rfl rfl (Nat.le_of_ble_eq_true rfl) dX12_evening_7 ?_
  refine k_if_ne (tgt := 19) hA dX12_evening_10 rfl (fun hc => ?_) (fun hc => ?_)
  · have hf := k_iff hc hf
    cases hf
  have hf := k_ift hc hf
  obtain ⟨⟨rq_2, tq_2⟩, hq_2, hf⟩ := k_lt_e hf
  dsimp only at hf
  obtain ⟨rfl, rfl⟩ := k_r2 hf
  refine k_aload_n (i := 0) hA dX12_evening_13 rfl 0 rfl ?_
  refine k_iconst hA dX12_evening_14 kc_i_1 ?_
  refine k_callVi (As := [.int (1 : Int32)]) (rest := []) hA (m_M_refused_N l G a rv (1 : Int32) t_1 hq_2.symm) cd_X12_refused wd_1390 (hc_MN_0 G.2.1 a rv t_1) rfl rfl (Nat.le_of_ble_eq_true rfl) rfl rfl (Nat.le_of_ble_eq_true rfl) dX12_evening_15 ?_
  exact k_iret hA hr rfl dX12_evening_18

def f_M_seed_N (x1 : Int32) (t : k_St) : Bool × k_St := k_lt (k_sI t 0 0 (0 : Int32)) (fun t_1 => k_lt (f_M_denied_N (1 : Int32) t_1) (fun q_2 => (q_2.1, q_2.2)))
theorem m_M_seed_N (l : Launch) (G : k_G) (a : Nat → Nat) (rv : Value) (x1 : Int32) (t : k_St) {r : Bool} {t' : k_St} (hf : f_M_seed_N x1 t = (r, t')) : k_CI l G yX12_seed cX12_seed 2 (some .boolean) 3 (k_WN G.2.1 a rv t) [.ref (a 0), .int x1] (k_b r) (k_WN G.2.1 a rv t') := by
  refine k_startI (lv := [(0, .ref (a 0)), (1, .int x1)]) (by decide +kernel) (Nat.le_of_ble_eq_true rfl) rfl ?_
  intro p e s m args below meth c hA hr
  have hA : k_Amb p s m args meth c cX12_seed 2 "TaleSharesModel" G _ := hA
  unfold f_M_seed_N at hf
  obtain ⟨t_1, et_1, hf⟩ := k_lt_e hf
  obtain ⟨⟨rq_2, tq_2⟩, hq_2, hf⟩ := k_lt_e hf
  dsimp only at hf
  obtain ⟨rfl, rfl⟩ := k_p2 hf
  refine k_aload_n (i := 0) hA dX12_seed_0 rfl 0 rfl ?_
  refine k_iconst hA dX12_seed_1 kc_i_0 ?_
  refine pt_MN_0_0 hA wd_1248 et_1 dX12_seed_2 ?_
  refine k_aload_n (i := 0) hA dX12_seed_5 rfl 0 rfl ?_
  refine gt_MN_0_3 hA wd_1251 dX12_seed_6 ?_
  refine k_ifnonnullN hA dX12_seed_9 ?_
  refine k_aload_n (i := 0) hA dX12_seed_12 rfl 0 rfl ?_
  refine k_iconst hA dX12_seed_13 kc_i_1 ?_
  refine k_callVi (As := [.int (1 : Int32)]) (rest := []) hA (m_M_denied_N l G a rv (1 : Int32) t_1 hq_2.symm) cd_X12_denied wd_1947 (hc_MN_0 G.2.1 a rv t_1) rfl rfl (Nat.le_of_ble_eq_true rfl) rfl rfl (Nat.le_of_ble_eq_true rfl) dX12_seed_14 ?_
  exact k_iret hA hr (k_narB (k_b01 _)) dX12_seed_17

def f_M_undo_N (t : k_St) : Bool × k_St := k_lt (k_sI t 0 0 (0 : Int32)) (fun t_1 => k_lt (f_M_denied_N (6 : Int32) t_1) (fun q_2 => (q_2.1, q_2.2)))
theorem m_M_undo_N (l : Launch) (G : k_G) (a : Nat → Nat) (rv : Value) (t : k_St) {r : Bool} {t' : k_St} (hf : f_M_undo_N t = (r, t')) : k_CI l G yX12_undo cX12_undo 2 (some .boolean) 3 (k_WN G.2.1 a rv t) [.ref (a 0)] (k_b r) (k_WN G.2.1 a rv t') := by
  refine k_startI (lv := [(0, .ref (a 0))]) (by decide +kernel) (Nat.le_of_ble_eq_true rfl) rfl ?_
  intro p e s m args below meth c hA hr
  have hA : k_Amb p s m args meth c cX12_undo 2 "TaleSharesModel" G _ := hA
  unfold f_M_undo_N at hf
  obtain ⟨t_1, et_1, hf⟩ := k_lt_e hf
  obtain ⟨⟨rq_2, tq_2⟩, hq_2, hf⟩ := k_lt_e hf
  dsimp only at hf
  obtain ⟨rfl, rfl⟩ := k_p2 hf
  refine k_aload_n (i := 0) hA dX12_undo_0 rfl 0 rfl ?_
  refine k_iconst hA dX12_undo_1 kc_i_0 ?_
  refine pt_MN_0_0 hA wd_1248 et_1 dX12_undo_2 ?_
  refine k_aload_n (i := 0) hA dX12_undo_5 rfl 0 rfl ?_
  refine gt_MN_0_3 hA wd_1251 dX12_undo_6 ?_
  refine k_ifnullN (tgt := 19) hA dX12_undo_9 rfl ?_
  refine k_aload_n (i := 0) hA dX12_undo_19 rfl 0 rfl ?_
  refine k_bipush hA dX12_undo_20 kc_b_6 ?_
  refine k_callVi (As := [.int (6 : Int32)]) (rest := []) hA (m_M_denied_N l G a rv (6 : Int32) t_1 hq_2.symm) cd_X12_denied wd_1947 (hc_MN_0 G.2.1 a rv t_1) rfl rfl (Nat.le_of_ble_eq_true rfl) rfl rfl (Nat.le_of_ble_eq_true rfl) dX12_undo_22 ?_
  exact k_iret hA hr (k_narB (k_b01 _)) dX12_undo_25

def f_M_image_N (t : k_St) : Int32 × k_St := k_lt (k_sI t 0 0 (0 : Int32)) (fun t_1 => k_lt (f_M_refused_N (1 : Int32) t_1) (fun q_2 => (q_2.1, q_2.2)))
theorem m_M_image_N (l : Launch) (G : k_G) (a : Nat → Nat) (rv : Value) (t : k_St) {r : Int32} {t' : k_St} (hf : f_M_image_N t = (r, t')) : k_CI l G yX12_image cX12_image 2 (some .int) 2 (k_WN G.2.1 a rv t) [.ref (a 0)] r (k_WN G.2.1 a rv t') := by
  refine k_startI (lv := [(0, .ref (a 0))]) (by decide +kernel) (Nat.le_of_ble_eq_true rfl) rfl ?_
  intro p e s m args below meth c hA hr
  have hA : k_Amb p s m args meth c cX12_image 2 "TaleSharesModel" G _ := hA
  unfold f_M_image_N at hf
  obtain ⟨t_1, et_1, hf⟩ := k_lt_e hf
  obtain ⟨⟨rq_2, tq_2⟩, hq_2, hf⟩ := k_lt_e hf
  dsimp only at hf
  obtain ⟨rfl, rfl⟩ := k_p2 hf
  refine k_aload_n (i := 0) hA dX12_image_0 rfl 0 rfl ?_
  refine k_iconst hA dX12_image_1 kc_i_0 ?_
  refine pt_MN_0_0 hA wd_1248 et_1 dX12_image_2 ?_
  refine k_aload_n (i := 0) hA dX12_image_5 rfl 0 rfl ?_
  refine gt_MN_0_3 hA wd_1251 dX12_image_6 ?_
  refine k_ifnonnullN hA dX12_image_9 ?_
  refine k_aload_n (i := 0) hA dX12_image_12 rfl 0 rfl ?_
  refine k_iconst hA dX12_image_13 kc_i_1 ?_
  refine k_callVi (As := [.int (1 : Int32)]) (rest := []) hA (m_M_refused_N l G a rv (1 : Int32) t_1 hq_2.symm) cd_X12_refused wd_1390 (hc_MN_0 G.2.1 a rv t_1) rfl rfl (Nat.le_of_ble_eq_true rfl) rfl rfl (Nat.le_of_ble_eq_true rfl) dX12_image_14 ?_
  exact k_iret hA hr rfl dX12_image_17

def f_M_back_N (x1 : Int32) (t : k_St) : Bool × k_St := k_lt (k_sI t 0 0 (0 : Int32)) (fun t_1 => k_lt (f_M_denied_N (1 : Int32) t_1) (fun q_2 => (q_2.1, q_2.2)))
theorem m_M_back_N (l : Launch) (G : k_G) (a : Nat → Nat) (rv : Value) (x1 : Int32) (t : k_St) {r : Bool} {t' : k_St} (hf : f_M_back_N x1 t = (r, t')) : k_CI l G yX12_back cX12_back 3 (some .boolean) 3 (k_WN G.2.1 a rv t) [.ref (a 0), .int x1] (k_b r) (k_WN G.2.1 a rv t') := by
  refine k_startI (lv := [(0, .ref (a 0)), (1, .int x1)]) (by decide +kernel) (Nat.le_of_ble_eq_true rfl) rfl ?_
  intro p e s m args below meth c hA hr
  have hA : k_Amb p s m args meth c cX12_back 3 "TaleSharesModel" G _ := hA
  unfold f_M_back_N at hf
  obtain ⟨t_1, et_1, hf⟩ := k_lt_e hf
  obtain ⟨⟨rq_2, tq_2⟩, hq_2, hf⟩ := k_lt_e hf
  dsimp only at hf
  obtain ⟨rfl, rfl⟩ := k_p2 hf
  refine k_aload_n (i := 0) hA dX12_back_0 rfl 0 rfl ?_
  refine k_iconst hA dX12_back_1 kc_i_0 ?_
  refine pt_MN_0_0 hA wd_1248 et_1 dX12_back_2 ?_
  refine k_aload_n (i := 0) hA dX12_back_5 rfl 0 rfl ?_
  refine gt_MN_0_3 hA wd_1251 dX12_back_6 ?_
  refine k_ifnullN (tgt := 24) hA dX12_back_9 rfl ?_
  refine k_aload_n (i := 0) hA dX12_back_24 rfl 0 rfl ?_
  refine k_iconst hA dX12_back_25 kc_i_1 ?_
  refine k_callVi (As := [.int (1 : Int32)]) (rest := []) hA (m_M_denied_N l G a rv (1 : Int32) t_1 hq_2.symm) cd_X12_denied wd_1947 (hc_MN_0 G.2.1 a rv t_1) rfl rfl (Nat.le_of_ble_eq_true rfl) rfl rfl (Nat.le_of_ble_eq_true rfl) dX12_back_26 ?_
  exact k_iret hA hr (k_narB (k_b01 _)) dX12_back_29

def f_M_size_N (x1 : Int32) (t : k_St) : Int32 × k_St := k_lt (k_sI t 0 0 (0 : Int32)) (fun t_1 => (if x1 = (11 : Int32) then ((t_1.1 0 6), t_1) else (if (k_b (f_M_in x1 (0 : Int32) (10 : Int32))) = 0 then ((-1 : Int32), t_1) else ((0 : Int32), t_1))))
theorem m_M_size_N (l : Launch) (G : k_G) (a : Nat → Nat) (rv : Value) (x1 : Int32) (t : k_St) {r : Int32} {t' : k_St} (hf : f_M_size_N x1 t = (r, t')) : k_CI l G yX12_size cX12_size 2 (some .int) 2 (k_WN G.2.1 a rv t) [.ref (a 0), .int x1] r (k_WN G.2.1 a rv t') := by
  refine k_startI (lv := [(0, .ref (a 0)), (1, .int x1)]) (by decide +kernel) (Nat.le_of_ble_eq_true rfl) rfl ?_
  intro p e s m args below meth c hA hr
  have hA : k_Amb p s m args meth c cX12_size 2 "TaleSharesModel" G _ := hA
  unfold f_M_size_N at hf
  obtain ⟨t_1, et_1, hf⟩ := k_lt_e hf
  refine k_aload_n (i := 0) hA dX12_size_0 rfl 0 rfl ?_
  refine k_iconst hA dX12_size_1 kc_i_0 ?_
  refine pt_MN_0_0 hA wd_1248 et_1 dX12_size_2 ?_
  refine k_iload_n (i := 1) hA dX12_size_5 rfl 1 rfl ?_
  refine k_bipush hA dX12_size_6 kc_b_11 ?_
  refine k_icmp_ne (tgt := 16) hA dX12_size_8 rfl (fun hc => ?_) (fun hc => ?_)
  · have hf := k_iff hc hf
    refine k_iload_n (i := 1) hA dX12_size_16 rfl 1 rfl ?_
    refine k_iconst hA dX12_size_17 kc_i_0 ?_
    refine k_bipush hA dX12_size_18 kc_b_10 ?_
    refine k_callSi (As := [.int x1, .int (0 : Int32), .int (10 : Int32)]) (rest := []) hA (m_M_in l G (k_WN G.2.1 a rv t_1) x1 (0 : Int32) (10 : Int32) rfl) cd_X12_in wd_1525 (Nat.le_of_ble_eq_true rfl) rfl rfl (Nat.le_of_ble_eq_true rfl) dX12_size_20 ?_
    refine k_if_ne (tgt := 28) hA dX12_size_23 rfl (fun hc => ?_) (fun hc => ?_)
    · have hf := k_iff hc hf
      obtain ⟨rfl, rfl⟩ := k_p2 hf
      refine k_aload_n (i := 0) hA dX12_size_28 rfl 0 rfl ?_
      refine gt_MN_0_3 hA wd_1251 dX12_size_29 ?_
      refine k_ifnonnullN hA dX12_size_32 ?_
      refine k_iconst hA dX12_size_35 kc_i_0 ?_
      exact k_iret hA hr rfl dX12_size_36
    have hf := k_ift hc hf
    obtain ⟨rfl, rfl⟩ := k_p2 hf
    refine k_iconst hA dX12_size_26 kc_i_m1 ?_
    exact k_iret hA hr rfl dX12_size_27
  have hf := k_ift hc hf
  obtain ⟨rfl, rfl⟩ := k_p2 hf
  refine k_aload_n (i := 0) hA dX12_size_11 rfl 0 rfl ?_
  refine gt_MN_0_6 hA wd_1254 dX12_size_12 ?_
  exact k_iret hA hr rfl dX12_size_15

def f_M_trouble_N (t : k_St) : Int32 × k_St := k_lt (k_sI t 0 0 (0 : Int32)) (fun t_1 => ((t_1.1 0 1), t_1))
theorem m_M_trouble_N (l : Launch) (G : k_G) (a : Nat → Nat) (rv : Value) (t : k_St) {r : Int32} {t' : k_St} (hf : f_M_trouble_N t = (r, t')) : k_CI l G yX12_trouble cX12_trouble 1 (some .int) 1 (k_WN G.2.1 a rv t) [.ref (a 0)] r (k_WN G.2.1 a rv t') := by
  refine k_startI (lv := [(0, .ref (a 0))]) (by decide +kernel) (Nat.le_of_ble_eq_true rfl) rfl ?_
  intro p e s m args below meth c hA hr
  have hA : k_Amb p s m args meth c cX12_trouble 1 "TaleSharesModel" G _ := hA
  unfold f_M_trouble_N at hf
  obtain ⟨t_1, et_1, hf⟩ := k_lt_e hf
  obtain ⟨rfl, rfl⟩ := k_p2 hf
  refine k_aload_n (i := 0) hA dX12_trouble_0 rfl 0 rfl ?_
  refine k_iconst hA dX12_trouble_1 kc_i_0 ?_
  refine pt_MN_0_0 hA wd_1248 et_1 dX12_trouble_2 ?_
  refine k_aload_n (i := 0) hA dX12_trouble_5 rfl 0 rfl ?_
  refine gt_MN_0_1 hA wd_1249 dX12_trouble_6 ?_
  exact k_iret hA hr rfl dX12_trouble_9

def f_M_led_N (x1 : Int32) (t : k_St) : Int32 × k_St := k_lt (k_sI t 0 0 (0 : Int32)) (fun t_1 => k_lt (k_sI t_1 0 0 (1 : Int32)) (fun t_2 => ((0 : Int32), t_2)))
theorem m_M_led_N (l : Launch) (G : k_G) (a : Nat → Nat) (rv : Value) (x1 : Int32) (t : k_St) {r : Int32} {t' : k_St} (hf : f_M_led_N x1 t = (r, t')) : k_CI l G yX12_led cX12_led 4 (some .int) 1 (k_WN G.2.1 a rv t) [.ref (a 0), .int x1] r (k_WN G.2.1 a rv t') := by
  refine k_startI (lv := [(0, .ref (a 0)), (1, .int x1)]) (by decide +kernel) (Nat.le_of_ble_eq_true rfl) rfl ?_
  intro p e s m args below meth c hA hr
  have hA : k_Amb p s m args meth c cX12_led 4 "TaleSharesModel" G _ := hA
  unfold f_M_led_N at hf
  obtain ⟨t_1, et_1, hf⟩ := k_lt_e hf
  obtain ⟨t_2, et_2, hf⟩ := k_lt_e hf
  obtain ⟨rfl, rfl⟩ := k_p2 hf
  refine k_aload_n (i := 0) hA dX12_led_0 rfl 0 rfl ?_
  refine k_iconst hA dX12_led_1 kc_i_0 ?_
  refine pt_MN_0_0 hA wd_1248 et_1 dX12_led_2 ?_
  refine k_iconst hA dX12_led_5 kc_i_0 ?_
  refine k_istore_n (i := 2) (lv' := [(2, .int (0 : Int32)), (0, .ref (a 0)), (1, .int x1)]) hA dX12_led_6 rfl rfl (Nat.le_of_ble_eq_true rfl) rfl ?_
  refine k_iconst hA dX12_led_7 kc_i_0 ?_
  refine k_istore_n (i := 3) (lv' := [(3, .int (0 : Int32)), (2, .int (0 : Int32)), (0, .ref (a 0)), (1, .int x1)]) hA dX12_led_8 rfl rfl (Nat.le_of_ble_eq_true rfl) rfl ?_
  refine k_aload_n (i := 0) hA dX12_led_9 rfl 2 rfl ?_
  refine gt_MN_0_3 hA wd_1251 dX12_led_10 ?_
  refine k_ifnullN (tgt := 59) hA dX12_led_13 rfl ?_
  refine k_aload_n (i := 0) hA dX12_led_59 rfl 2 rfl ?_
  refine k_iconst hA dX12_led_60 kc_i_1 ?_
  refine pt_MN_0_0 hA wd_1248 et_2 dX12_led_61 ?_
  refine k_iconst hA dX12_led_64 kc_i_0 ?_
  exact k_iret hA hr rfl dX12_led_65

def f_M_thrown_N (t : k_St) : Int32 := (t.1 0 0)
theorem m_M_thrown_N (l : Launch) (G : k_G) (a : Nat → Nat) (rv : Value) (t : k_St) {r : Int32} (hf : f_M_thrown_N t = r) : k_CI l G yX12_thrown cX12_thrown 1 (some .int) 1 (k_WN G.2.1 a rv t) [.ref (a 0)] r (k_WN G.2.1 a rv t) := by
  refine k_startI (lv := [(0, .ref (a 0))]) (by decide +kernel) (Nat.le_of_ble_eq_true rfl) rfl ?_
  intro p e s m args below meth c hA hr
  have hA : k_Amb p s m args meth c cX12_thrown 1 "TaleSharesModel" G _ := hA
  unfold f_M_thrown_N at hf
  subst hf
  refine k_aload_n (i := 0) hA dX12_thrown_0 rfl 0 rfl ?_
  refine gt_MN_0_0 hA wd_1248 dX12_thrown_1 ?_
  exact k_iret hA hr rfl dX12_thrown_4

