/-! ===== constructors ===== -/
theorem kc_b_13 : (Int8.ofInt (13)).toInt32 = (13 : Int32) := by decide
theorem kc_b_96 : (Int8.ofInt (96)).toInt32 = (96 : Int32) := by decide
theorem kc_b_18 : (Int8.ofInt (18)).toInt32 = (18 : Int32) := by decide
theorem kc_s_130 : (Int16.ofInt (130)).toInt32 = (130 : Int32) := by decide
theorem wd_247 : Cond.arrayClass .int ∈ k_TB := k_tb 247 (by decide +kernel) rfl
theorem wd_190 : Cond.fieldLink "TaleShares$Terrace" 9 "TaleShares$Terrace" "kinds" "[I" ∈ k_TB := k_tb 190 (by decide +kernel) rfl
theorem wd_197 : Cond.fieldLink "TaleShares$Terrace" 18 "TaleShares$Terrace" "places" "[I" ∈ k_TB := k_tb 197 (by decide +kernel) rfl
theorem wd_201 : Cond.fieldLink "TaleShares$Terrace" 21 "TaleShares$Terrace" "from" "[I" ∈ k_TB := k_tb 201 (by decide +kernel) rfl
theorem wd_205 : Cond.fieldLink "TaleShares$Terrace" 24 "TaleShares$Terrace" "to" "[I" ∈ k_TB := k_tb 205 (by decide +kernel) rfl
theorem wd_212 : Cond.fieldLink "TaleShares$Terrace" 30 "TaleShares$Terrace" "mixedRow" "[I" ∈ k_TB := k_tb 212 (by decide +kernel) rfl
theorem wd_293 : Cond.arrayClass .long ∈ k_TB := k_tb 293 (by decide +kernel) rfl
theorem wd_1406 : Cond.fieldLink "TaleSharesModel$Terrace" 9 "TaleSharesModel$Terrace" "kings" "I" ∈ k_TB := k_tb 1406 (by decide +kernel) rfl
theorem wd_1418 : Cond.fieldLink "TaleSharesModel$Terrace" 15 "TaleSharesModel$Terrace" "kind" "[I" ∈ k_TB := k_tb 1418 (by decide +kernel) rfl
theorem wd_1420 : Cond.fieldLink "TaleSharesModel$Terrace" 19 "TaleSharesModel$Terrace" "next" "[I" ∈ k_TB := k_tb 1420 (by decide +kernel) rfl
theorem wd_1422 : Cond.fieldLink "TaleSharesModel$Terrace" 22 "TaleSharesModel$Terrace" "place" "[I" ∈ k_TB := k_tb 1422 (by decide +kernel) rfl
theorem wd_1424 : Cond.fieldLink "TaleSharesModel$Terrace" 25 "TaleSharesModel$Terrace" "from" "[I" ∈ k_TB := k_tb 1424 (by decide +kernel) rfl
theorem wd_1426 : Cond.fieldLink "TaleSharesModel$Terrace" 28 "TaleSharesModel$Terrace" "to" "[I" ∈ k_TB := k_tb 1426 (by decide +kernel) rfl
theorem wd_1428 : Cond.fieldLink "TaleSharesModel$Terrace" 31 "TaleSharesModel$Terrace" "hears" "[I" ∈ k_TB := k_tb 1428 (by decide +kernel) rfl
theorem wd_1430 : Cond.fieldLink "TaleSharesModel$Terrace" 34 "TaleSharesModel$Terrace" "mix" "[I" ∈ k_TB := k_tb 1430 (by decide +kernel) rfl
theorem wd_1434 : Cond.fieldLink "TaleSharesModel$Terrace" 41 "TaleSharesModel$Terrace" "nameSort" "[I" ∈ k_TB := k_tb 1434 (by decide +kernel) rfl
theorem wd_1436 : Cond.fieldLink "TaleSharesModel$Terrace" 44 "TaleSharesModel$Terrace" "numberOf" "[I" ∈ k_TB := k_tb 1436 (by decide +kernel) rfl
theorem wd_246 : Cond.arrayClass .byte ∈ k_TB := k_tb 246 (by decide +kernel) rfl
theorem wd_152 : Cond.classLink "TaleShares" 13 "TaleShares$Terrace" ∈ k_TB := k_tb 152 (by decide +kernel) rfl
theorem wd_153 : Cond.instantiable "TaleShares$Terrace" 15 ∈ k_TB := k_tb 153 (by decide +kernel) rfl
theorem wd_121 : Cond.initialized "TaleShares$Terrace" ∈ k_TB := k_tb 121 (by decide +kernel) rfl
theorem wd_248 : Cond.classLink "TaleShares" 23 "TaleShares$Reader" ∈ k_TB := k_tb 248 (by decide +kernel) rfl
theorem wd_249 : Cond.instantiable "TaleShares$Reader" 12 ∈ k_TB := k_tb 249 (by decide +kernel) rfl
theorem wd_122 : Cond.initialized "TaleShares$Reader" ∈ k_TB := k_tb 122 (by decide +kernel) rfl
theorem wd_250 : Cond.methodLink "TaleShares" 25 yX5_init ∈ k_TB := k_tb 250 (by decide +kernel) rfl
theorem wd_294 : Cond.classLink "TaleShares" 32 "TaleShares$Tales" ∈ k_TB := k_tb 294 (by decide +kernel) rfl
theorem wd_295 : Cond.instantiable "TaleShares$Tales" 3 ∈ k_TB := k_tb 295 (by decide +kernel) rfl
theorem wd_123 : Cond.initialized "TaleShares$Tales" ∈ k_TB := k_tb 123 (by decide +kernel) rfl
theorem wd_312 : Cond.classLink "TaleShares" 39 "TaleShares$Park" ∈ k_TB := k_tb 312 (by decide +kernel) rfl
theorem wd_313 : Cond.instantiable "TaleShares$Park" 6 ∈ k_TB := k_tb 313 (by decide +kernel) rfl
theorem wd_124 : Cond.initialized "TaleShares$Park" ∈ k_TB := k_tb 124 (by decide +kernel) rfl
theorem wd_337 : Cond.classLink "TaleShares" 46 "TaleShares$Timetable" ∈ k_TB := k_tb 337 (by decide +kernel) rfl
theorem wd_338 : Cond.instantiable "TaleShares$Timetable" 5 ∈ k_TB := k_tb 338 (by decide +kernel) rfl
theorem wd_125 : Cond.initialized "TaleShares$Timetable" ∈ k_TB := k_tb 125 (by decide +kernel) rfl
theorem wd_363 : Cond.classLink "TaleShares" 53 "TaleShares$Slips" ∈ k_TB := k_tb 363 (by decide +kernel) rfl
theorem wd_364 : Cond.instantiable "TaleShares$Slips" 4 ∈ k_TB := k_tb 364 (by decide +kernel) rfl
theorem wd_126 : Cond.initialized "TaleShares$Slips" ∈ k_TB := k_tb 126 (by decide +kernel) rfl
theorem wd_385 : Cond.classLink "TaleShares" 60 "TaleShares$Evening" ∈ k_TB := k_tb 385 (by decide +kernel) rfl
theorem wd_386 : Cond.instantiable "TaleShares$Evening" 2 ∈ k_TB := k_tb 386 (by decide +kernel) rfl
theorem wd_127 : Cond.initialized "TaleShares$Evening" ∈ k_TB := k_tb 127 (by decide +kernel) rfl
theorem wd_400 : Cond.classLink "TaleShares" 67 "TaleShares$Now" ∈ k_TB := k_tb 400 (by decide +kernel) rfl
theorem wd_401 : Cond.instantiable "TaleShares$Now" 7 ∈ k_TB := k_tb 401 (by decide +kernel) rfl
theorem wd_128 : Cond.initialized "TaleShares$Now" ∈ k_TB := k_tb 128 (by decide +kernel) rfl
theorem wo_150 : Cond.instanceMethod objectInit ∈ k_TB := k_tb 150 (by decide +kernel) rfl
theorem wo_151 : Cond.code objectInit ⟨#[0xb1]⟩ 1 none ∈ k_TB := k_tb 151 (by decide +kernel) rfl
theorem dX8_init_0 : decode cX8_init 0 = .ok (.aload_n 0, 1) := by decide +kernel
theorem dX8_init_1 : decode cX8_init 1 = .ok (.invokespecial 3, 3) := by decide +kernel
theorem dX8_init_4 : decode cX8_init 4 = .ok (.aload_n 0, 1) := by decide +kernel
theorem dX8_init_5 : decode cX8_init 5 = .ok (.bipush 8, 2) := by decide +kernel
theorem dX8_init_7 : decode cX8_init 7 = .ok (.newarray .int, 2) := by decide +kernel
theorem dX8_init_9 : decode cX8_init 9 = .ok (.putfield 9, 3) := by decide +kernel
theorem dX8_init_12 : decode cX8_init 12 = .ok (.aload_n 0, 1) := by decide +kernel
theorem dX8_init_13 : decode cX8_init 13 = .ok (.bipush 8, 2) := by decide +kernel
theorem dX8_init_15 : decode cX8_init 15 = .ok (.newarray .int, 2) := by decide +kernel
theorem dX8_init_17 : decode cX8_init 17 = .ok (.putfield 15, 3) := by decide +kernel
theorem dX8_init_20 : decode cX8_init 20 = .ok (.aload_n 0, 1) := by decide +kernel
theorem dX8_init_21 : decode cX8_init 21 = .ok (.iconst 5, 1) := by decide +kernel
theorem dX8_init_22 : decode cX8_init 22 = .ok (.newarray .int, 2) := by decide +kernel
theorem dX8_init_24 : decode cX8_init 24 = .ok (.putfield 18, 3) := by decide +kernel
theorem dX8_init_27 : decode cX8_init 27 = .ok (.aload_n 0, 1) := by decide +kernel
theorem dX8_init_28 : decode cX8_init 28 = .ok (.iconst 5, 1) := by decide +kernel
theorem dX8_init_29 : decode cX8_init 29 = .ok (.newarray .int, 2) := by decide +kernel
theorem dX8_init_31 : decode cX8_init 31 = .ok (.putfield 21, 3) := by decide +kernel
theorem dX8_init_34 : decode cX8_init 34 = .ok (.aload_n 0, 1) := by decide +kernel
theorem dX8_init_35 : decode cX8_init 35 = .ok (.iconst 5, 1) := by decide +kernel
theorem dX8_init_36 : decode cX8_init 36 = .ok (.newarray .int, 2) := by decide +kernel
theorem dX8_init_38 : decode cX8_init 38 = .ok (.putfield 24, 3) := by decide +kernel
theorem dX8_init_41 : decode cX8_init 41 = .ok (.aload_n 0, 1) := by decide +kernel
theorem dX8_init_42 : decode cX8_init 42 = .ok (.iconst 5, 1) := by decide +kernel
theorem dX8_init_43 : decode cX8_init 43 = .ok (.newarray .int, 2) := by decide +kernel
theorem dX8_init_45 : decode cX8_init 45 = .ok (.putfield 27, 3) := by decide +kernel
theorem dX8_init_48 : decode cX8_init 48 = .ok (.aload_n 0, 1) := by decide +kernel
theorem dX8_init_49 : decode cX8_init 49 = .ok (.bipush 6, 2) := by decide +kernel
theorem dX8_init_51 : decode cX8_init 51 = .ok (.newarray .int, 2) := by decide +kernel
theorem dX8_init_53 : decode cX8_init 53 = .ok (.putfield 30, 3) := by decide +kernel
theorem dX8_init_56 : decode cX8_init 56 = .ok (.return_, 1) := by decide +kernel
theorem wo_157 : Cond.methodLink "TaleShares$Terrace" 3 objectInit ∈ k_TB := k_tb 157 (by decide +kernel) rfl
def rm_X8_init : Room := { frames := 1, cells := 7, slots := 42, locals := 52 }
theorem i_X8_init (l : Launch) (G : k_G) (h : Nat) : k_MV l G yX8_init cX8_init 1 rm_X8_init [(h, .inr (6, [.int 0, .int 0, .int 0, .int 0, .int 0, .int 0, .int 0, .int 0, .null, .null, .null, .null, .null, .null, .null]))] [.ref h] (fun u => ∃ (q0 q1 q2 q3 q4 q5 q6 : Nat), u = [(h, .inr (6, [.int 0, .int 0, .int 0, .int 0, .int 0, .int 0, .int 0, .int 0, .ref q0, .ref q1, .ref q2, .ref q3, .ref q4, .ref q5, .ref q6])), (q0, .inl (G.2.1 1, 8, .inl (fun _ => 0))), (q1, .inl (G.2.1 1, 8, .inl (fun _ => 0))), (q2, .inl (G.2.1 1, 5, .inl (fun _ => 0))), (q3, .inl (G.2.1 1, 5, .inl (fun _ => 0))), (q4, .inl (G.2.1 1, 5, .inl (fun _ => 0))), (q5, .inl (G.2.1 1, 5, .inl (fun _ => 0))), (q6, .inl (G.2.1 1, 6, .inl (fun _ => 0)))]) 7 42 := by
  refine k_startMV (lv := [(0, .ref h)]) (by decide +kernel) (Nat.le_of_ble_eq_true rfl) rfl ?_
  intro p e s m args below meth c hA hin hr
  have hA : k_Amb p s m args meth c cX8_init 1 "TaleShares$Terrace" G _ := hA
  have hin : meth.name = "<init>" := hin
  refine ka_aload_n (i := 0) hA dX8_init_0 rfl 0 rfl ?_
  refine ka_objInit hA wo_157 wo_150 wo_151 (Nat.le_of_ble_eq_true rfl) (Nat.le_of_ble_eq_true rfl) dX8_init_1 ?_
  refine ka_aload_n (i := 0) hA dX8_init_4 rfl 0 rfl ?_
  refine ka_bipush hA dX8_init_5 kc_b_8 ?_
  refine ka_newI (N := 8) hA wd_247 (by decide) (by decide) (Nat.le_of_ble_eq_true rfl) (Nat.le_of_ble_eq_true rfl) (Nat.le_of_ble_eq_true rfl) dX8_init_7 (fun q0 => ?_)
  refine ka_putF (q0 := 0) (fs := [.int 0, .int 0, .int 0, .int 0, .int 0, .int 0, .int 0, .int 0, .null, .null, .null, .null, .null, .null, .null]) (w' := [(h, .inr (6, [.int 0, .int 0, .int 0, .int 0, .int 0, .int 0, .int 0, .int 0, .ref q0, .null, .null, .null, .null, .null, .null])), (q0, .inl (G.2.1 1, 8, .inl (fun _ => 0)))]) hA k_in_X8 tyX8 tyX8_ok nmX8 rfl rfl 8 (by decide) wd_190 rfl hin rfl (v := .ref q0) rfl rfl (Nat.le_of_ble_eq_true rfl) rfl dX8_init_9 ?_
  refine ka_aload_n (i := 0) hA dX8_init_12 rfl 0 rfl ?_
  refine ka_bipush hA dX8_init_13 kc_b_8 ?_
  refine ka_newI (N := 8) hA wd_247 (by decide) (by decide) (Nat.le_of_ble_eq_true rfl) (Nat.le_of_ble_eq_true rfl) (Nat.le_of_ble_eq_true rfl) dX8_init_15 (fun q1 => ?_)
  refine ka_putF (q0 := 0) (fs := [.int 0, .int 0, .int 0, .int 0, .int 0, .int 0, .int 0, .int 0, .ref q0, .null, .null, .null, .null, .null, .null]) (w' := [(h, .inr (6, [.int 0, .int 0, .int 0, .int 0, .int 0, .int 0, .int 0, .int 0, .ref q0, .ref q1, .null, .null, .null, .null, .null])), (q0, .inl (G.2.1 1, 8, .inl (fun _ => 0))), (q1, .inl (G.2.1 1, 8, .inl (fun _ => 0)))]) hA k_in_X8 tyX8 tyX8_ok nmX8 rfl rfl 9 (by decide) wd_194 rfl hin rfl (v := .ref q1) rfl rfl (Nat.le_of_ble_eq_true rfl) rfl dX8_init_17 ?_
  refine ka_aload_n (i := 0) hA dX8_init_20 rfl 0 rfl ?_
  refine ka_iconst hA dX8_init_21 kc_i_5 ?_
  refine ka_newI (N := 5) hA wd_247 (by decide) (by decide) (Nat.le_of_ble_eq_true rfl) (Nat.le_of_ble_eq_true rfl) (Nat.le_of_ble_eq_true rfl) dX8_init_22 (fun q2 => ?_)
  refine ka_putF (q0 := 0) (fs := [.int 0, .int 0, .int 0, .int 0, .int 0, .int 0, .int 0, .int 0, .ref q0, .ref q1, .null, .null, .null, .null, .null]) (w' := [(h, .inr (6, [.int 0, .int 0, .int 0, .int 0, .int 0, .int 0, .int 0, .int 0, .ref q0, .ref q1, .ref q2, .null, .null, .null, .null])), (q0, .inl (G.2.1 1, 8, .inl (fun _ => 0))), (q1, .inl (G.2.1 1, 8, .inl (fun _ => 0))), (q2, .inl (G.2.1 1, 5, .inl (fun _ => 0)))]) hA k_in_X8 tyX8 tyX8_ok nmX8 rfl rfl 10 (by decide) wd_197 rfl hin rfl (v := .ref q2) rfl rfl (Nat.le_of_ble_eq_true rfl) rfl dX8_init_24 ?_
  refine ka_aload_n (i := 0) hA dX8_init_27 rfl 0 rfl ?_
  refine ka_iconst hA dX8_init_28 kc_i_5 ?_
  refine ka_newI (N := 5) hA wd_247 (by decide) (by decide) (Nat.le_of_ble_eq_true rfl) (Nat.le_of_ble_eq_true rfl) (Nat.le_of_ble_eq_true rfl) dX8_init_29 (fun q3 => ?_)
  refine ka_putF (q0 := 0) (fs := [.int 0, .int 0, .int 0, .int 0, .int 0, .int 0, .int 0, .int 0, .ref q0, .ref q1, .ref q2, .null, .null, .null, .null]) (w' := [(h, .inr (6, [.int 0, .int 0, .int 0, .int 0, .int 0, .int 0, .int 0, .int 0, .ref q0, .ref q1, .ref q2, .ref q3, .null, .null, .null])), (q0, .inl (G.2.1 1, 8, .inl (fun _ => 0))), (q1, .inl (G.2.1 1, 8, .inl (fun _ => 0))), (q2, .inl (G.2.1 1, 5, .inl (fun _ => 0))), (q3, .inl (G.2.1 1, 5, .inl (fun _ => 0)))]) hA k_in_X8 tyX8 tyX8_ok nmX8 rfl rfl 11 (by decide) wd_201 rfl hin rfl (v := .ref q3) rfl rfl (Nat.le_of_ble_eq_true rfl) rfl dX8_init_31 ?_
  refine ka_aload_n (i := 0) hA dX8_init_34 rfl 0 rfl ?_
  refine ka_iconst hA dX8_init_35 kc_i_5 ?_
  refine ka_newI (N := 5) hA wd_247 (by decide) (by decide) (Nat.le_of_ble_eq_true rfl) (Nat.le_of_ble_eq_true rfl) (Nat.le_of_ble_eq_true rfl) dX8_init_36 (fun q4 => ?_)
  refine ka_putF (q0 := 0) (fs := [.int 0, .int 0, .int 0, .int 0, .int 0, .int 0, .int 0, .int 0, .ref q0, .ref q1, .ref q2, .ref q3, .null, .null, .null]) (w' := [(h, .inr (6, [.int 0, .int 0, .int 0, .int 0, .int 0, .int 0, .int 0, .int 0, .ref q0, .ref q1, .ref q2, .ref q3, .ref q4, .null, .null])), (q0, .inl (G.2.1 1, 8, .inl (fun _ => 0))), (q1, .inl (G.2.1 1, 8, .inl (fun _ => 0))), (q2, .inl (G.2.1 1, 5, .inl (fun _ => 0))), (q3, .inl (G.2.1 1, 5, .inl (fun _ => 0))), (q4, .inl (G.2.1 1, 5, .inl (fun _ => 0)))]) hA k_in_X8 tyX8 tyX8_ok nmX8 rfl rfl 12 (by decide) wd_205 rfl hin rfl (v := .ref q4) rfl rfl (Nat.le_of_ble_eq_true rfl) rfl dX8_init_38 ?_
  refine ka_aload_n (i := 0) hA dX8_init_41 rfl 0 rfl ?_
  refine ka_iconst hA dX8_init_42 kc_i_5 ?_
  refine ka_newI (N := 5) hA wd_247 (by decide) (by decide) (Nat.le_of_ble_eq_true rfl) (Nat.le_of_ble_eq_true rfl) (Nat.le_of_ble_eq_true rfl) dX8_init_43 (fun q5 => ?_)
  refine ka_putF (q0 := 0) (fs := [.int 0, .int 0, .int 0, .int 0, .int 0, .int 0, .int 0, .int 0, .ref q0, .ref q1, .ref q2, .ref q3, .ref q4, .null, .null]) (w' := [(h, .inr (6, [.int 0, .int 0, .int 0, .int 0, .int 0, .int 0, .int 0, .int 0, .ref q0, .ref q1, .ref q2, .ref q3, .ref q4, .ref q5, .null])), (q0, .inl (G.2.1 1, 8, .inl (fun _ => 0))), (q1, .inl (G.2.1 1, 8, .inl (fun _ => 0))), (q2, .inl (G.2.1 1, 5, .inl (fun _ => 0))), (q3, .inl (G.2.1 1, 5, .inl (fun _ => 0))), (q4, .inl (G.2.1 1, 5, .inl (fun _ => 0))), (q5, .inl (G.2.1 1, 5, .inl (fun _ => 0)))]) hA k_in_X8 tyX8 tyX8_ok nmX8 rfl rfl 13 (by decide) wd_209 rfl hin rfl (v := .ref q5) rfl rfl (Nat.le_of_ble_eq_true rfl) rfl dX8_init_45 ?_
  refine ka_aload_n (i := 0) hA dX8_init_48 rfl 0 rfl ?_
  refine ka_bipush hA dX8_init_49 kc_b_6 ?_
  refine ka_newI (N := 6) hA wd_247 (by decide) (by decide) (Nat.le_of_ble_eq_true rfl) (Nat.le_of_ble_eq_true rfl) (Nat.le_of_ble_eq_true rfl) dX8_init_51 (fun q6 => ?_)
  refine ka_putF (q0 := 0) (fs := [.int 0, .int 0, .int 0, .int 0, .int 0, .int 0, .int 0, .int 0, .ref q0, .ref q1, .ref q2, .ref q3, .ref q4, .ref q5, .null]) (w' := [(h, .inr (6, [.int 0, .int 0, .int 0, .int 0, .int 0, .int 0, .int 0, .int 0, .ref q0, .ref q1, .ref q2, .ref q3, .ref q4, .ref q5, .ref q6])), (q0, .inl (G.2.1 1, 8, .inl (fun _ => 0))), (q1, .inl (G.2.1 1, 8, .inl (fun _ => 0))), (q2, .inl (G.2.1 1, 5, .inl (fun _ => 0))), (q3, .inl (G.2.1 1, 5, .inl (fun _ => 0))), (q4, .inl (G.2.1 1, 5, .inl (fun _ => 0))), (q5, .inl (G.2.1 1, 5, .inl (fun _ => 0))), (q6, .inl (G.2.1 1, 6, .inl (fun _ => 0)))]) hA k_in_X8 tyX8 tyX8_ok nmX8 rfl rfl 14 (by decide) wd_212 rfl hin rfl (v := .ref q6) rfl rfl (Nat.le_of_ble_eq_true rfl) rfl dX8_init_53 ?_
  exact ka_vret hA hr ⟨q0, q1, q2, q3, q4, q5, q6, rfl⟩ dX8_init_56
theorem dX7_init_0 : decode cX7_init 0 = .ok (.aload_n 0, 1) := by decide +kernel
theorem dX7_init_1 : decode cX7_init 1 = .ok (.invokespecial 3, 3) := by decide +kernel
theorem dX7_init_4 : decode cX7_init 4 = .ok (.aload_n 0, 1) := by decide +kernel
theorem dX7_init_5 : decode cX7_init 5 = .ok (.sipush 162, 3) := by decide +kernel
theorem dX7_init_8 : decode cX7_init 8 = .ok (.newarray .int, 2) := by decide +kernel
theorem dX7_init_10 : decode cX7_init 10 = .ok (.putfield 11, 3) := by decide +kernel
theorem dX7_init_13 : decode cX7_init 13 = .ok (.aload_n 0, 1) := by decide +kernel
theorem dX7_init_14 : decode cX7_init 14 = .ok (.sipush 162, 3) := by decide +kernel
theorem dX7_init_17 : decode cX7_init 17 = .ok (.newarray .int, 2) := by decide +kernel
theorem dX7_init_19 : decode cX7_init 19 = .ok (.putfield 15, 3) := by decide +kernel
theorem dX7_init_22 : decode cX7_init 22 = .ok (.return_, 1) := by decide +kernel
theorem wo_299 : Cond.methodLink "TaleShares$Tales" 3 objectInit ∈ k_TB := k_tb 299 (by decide +kernel) rfl
def rm_X7_init : Room := { frames := 1, cells := 2, slots := 324, locals := 52 }
theorem i_X7_init (l : Launch) (G : k_G) (h : Nat) : k_MV l G yX7_init cX7_init 1 rm_X7_init [(h, .inr (5, [.int 0, .null, .null]))] [.ref h] (fun u => ∃ (q0 q1 : Nat), u = [(h, .inr (5, [.int 0, .ref q0, .ref q1])), (q0, .inl (G.2.1 1, 162, .inl (fun _ => 0))), (q1, .inl (G.2.1 1, 162, .inl (fun _ => 0)))]) 2 324 := by
  refine k_startMV (lv := [(0, .ref h)]) (by decide +kernel) (Nat.le_of_ble_eq_true rfl) rfl ?_
  intro p e s m args below meth c hA hin hr
  have hA : k_Amb p s m args meth c cX7_init 1 "TaleShares$Tales" G _ := hA
  have hin : meth.name = "<init>" := hin
  refine ka_aload_n (i := 0) hA dX7_init_0 rfl 0 rfl ?_
  refine ka_objInit hA wo_299 wo_150 wo_151 (Nat.le_of_ble_eq_true rfl) (Nat.le_of_ble_eq_true rfl) dX7_init_1 ?_
  refine ka_aload_n (i := 0) hA dX7_init_4 rfl 0 rfl ?_
  refine ka_sipush hA dX7_init_5 kc_s_162 ?_
  refine ka_newI (N := 162) hA wd_247 (by decide) (by decide) (Nat.le_of_ble_eq_true rfl) (Nat.le_of_ble_eq_true rfl) (Nat.le_of_ble_eq_true rfl) dX7_init_8 (fun q0 => ?_)
  refine ka_putF (q0 := 0) (fs := [.int 0, .null, .null]) (w' := [(h, .inr (5, [.int 0, .ref q0, .null])), (q0, .inl (G.2.1 1, 162, .inl (fun _ => 0)))]) hA k_in_X7 tyX7 tyX7_ok nmX7 rfl rfl 1 (by decide) wd_303 rfl hin rfl (v := .ref q0) rfl rfl (Nat.le_of_ble_eq_true rfl) rfl dX7_init_10 ?_
  refine ka_aload_n (i := 0) hA dX7_init_13 rfl 0 rfl ?_
  refine ka_sipush hA dX7_init_14 kc_s_162 ?_
  refine ka_newI (N := 162) hA wd_247 (by decide) (by decide) (Nat.le_of_ble_eq_true rfl) (Nat.le_of_ble_eq_true rfl) (Nat.le_of_ble_eq_true rfl) dX7_init_17 (fun q1 => ?_)
  refine ka_putF (q0 := 0) (fs := [.int 0, .ref q0, .null]) (w' := [(h, .inr (5, [.int 0, .ref q0, .ref q1])), (q0, .inl (G.2.1 1, 162, .inl (fun _ => 0))), (q1, .inl (G.2.1 1, 162, .inl (fun _ => 0)))]) hA k_in_X7 tyX7 tyX7_ok nmX7 rfl rfl 2 (by decide) wd_304 rfl hin rfl (v := .ref q1) rfl rfl (Nat.le_of_ble_eq_true rfl) rfl dX7_init_19 ?_
  exact ka_vret hA hr ⟨q0, q1, rfl⟩ dX7_init_22
theorem dX4_init_0 : decode cX4_init 0 = .ok (.aload_n 0, 1) := by decide +kernel
theorem dX4_init_1 : decode cX4_init 1 = .ok (.invokespecial 3, 3) := by decide +kernel
theorem dX4_init_4 : decode cX4_init 4 = .ok (.aload_n 0, 1) := by decide +kernel
theorem dX4_init_5 : decode cX4_init 5 = .ok (.bipush 26, 2) := by decide +kernel
theorem dX4_init_7 : decode cX4_init 7 = .ok (.newarray .int, 2) := by decide +kernel
theorem dX4_init_9 : decode cX4_init 9 = .ok (.putfield 11, 3) := by decide +kernel
theorem dX4_init_12 : decode cX4_init 12 = .ok (.aload_n 0, 1) := by decide +kernel
theorem dX4_init_13 : decode cX4_init 13 = .ok (.iconst 3, 1) := by decide +kernel
theorem dX4_init_14 : decode cX4_init 14 = .ok (.newarray .int, 2) := by decide +kernel
theorem dX4_init_16 : decode cX4_init 16 = .ok (.putfield 15, 3) := by decide +kernel
theorem dX4_init_19 : decode cX4_init 19 = .ok (.return_, 1) := by decide +kernel
theorem wo_317 : Cond.methodLink "TaleShares$Park" 3 objectInit ∈ k_TB := k_tb 317 (by decide +kernel) rfl
def rm_X4_init : Room := { frames := 1, cells := 2, slots := 29, locals := 52 }
theorem i_X4_init (l : Launch) (G : k_G) (h : Nat) : k_MV l G yX4_init cX4_init 1 rm_X4_init [(h, .inr (2, [.null, .null, .int 0, .int 0, .int 0, .int 0]))] [.ref h] (fun u => ∃ (q0 q1 : Nat), u = [(h, .inr (2, [.ref q0, .ref q1, .int 0, .int 0, .int 0, .int 0])), (q0, .inl (G.2.1 1, 26, .inl (fun _ => 0))), (q1, .inl (G.2.1 1, 3, .inl (fun _ => 0)))]) 2 29 := by
  refine k_startMV (lv := [(0, .ref h)]) (by decide +kernel) (Nat.le_of_ble_eq_true rfl) rfl ?_
  intro p e s m args below meth c hA hin hr
  have hA : k_Amb p s m args meth c cX4_init 1 "TaleShares$Park" G _ := hA
  have hin : meth.name = "<init>" := hin
  refine ka_aload_n (i := 0) hA dX4_init_0 rfl 0 rfl ?_
  refine ka_objInit hA wo_317 wo_150 wo_151 (Nat.le_of_ble_eq_true rfl) (Nat.le_of_ble_eq_true rfl) dX4_init_1 ?_
  refine ka_aload_n (i := 0) hA dX4_init_4 rfl 0 rfl ?_
  refine ka_bipush hA dX4_init_5 kc_b_26 ?_
  refine ka_newI (N := 26) hA wd_247 (by decide) (by decide) (Nat.le_of_ble_eq_true rfl) (Nat.le_of_ble_eq_true rfl) (Nat.le_of_ble_eq_true rfl) dX4_init_7 (fun q0 => ?_)
  refine ka_putF (q0 := 0) (fs := [.null, .null, .int 0, .int 0, .int 0, .int 0]) (w' := [(h, .inr (2, [.ref q0, .null, .int 0, .int 0, .int 0, .int 0])), (q0, .inl (G.2.1 1, 26, .inl (fun _ => 0)))]) hA k_in_X4 tyX4 tyX4_ok nmX4 rfl rfl 0 (by decide) wd_318 rfl hin rfl (v := .ref q0) rfl rfl (Nat.le_of_ble_eq_true rfl) rfl dX4_init_9 ?_
  refine ka_aload_n (i := 0) hA dX4_init_12 rfl 0 rfl ?_
  refine ka_iconst hA dX4_init_13 kc_i_3 ?_
  refine ka_newI (N := 3) hA wd_247 (by decide) (by decide) (Nat.le_of_ble_eq_true rfl) (Nat.le_of_ble_eq_true rfl) (Nat.le_of_ble_eq_true rfl) dX4_init_14 (fun q1 => ?_)
  refine ka_putF (q0 := 0) (fs := [.ref q0, .null, .int 0, .int 0, .int 0, .int 0]) (w' := [(h, .inr (2, [.ref q0, .ref q1, .int 0, .int 0, .int 0, .int 0])), (q0, .inl (G.2.1 1, 26, .inl (fun _ => 0))), (q1, .inl (G.2.1 1, 3, .inl (fun _ => 0)))]) hA k_in_X4 tyX4 tyX4_ok nmX4 rfl rfl 1 (by decide) wd_319 rfl hin rfl (v := .ref q1) rfl rfl (Nat.le_of_ble_eq_true rfl) rfl dX4_init_16 ?_
  exact ka_vret hA hr ⟨q0, q1, rfl⟩ dX4_init_19
theorem dX9_init_0 : decode cX9_init 0 = .ok (.aload_n 0, 1) := by decide +kernel
theorem dX9_init_1 : decode cX9_init 1 = .ok (.invokespecial 3, 3) := by decide +kernel
theorem dX9_init_4 : decode cX9_init 4 = .ok (.aload_n 0, 1) := by decide +kernel
theorem dX9_init_5 : decode cX9_init 5 = .ok (.iconst 5, 1) := by decide +kernel
theorem dX9_init_6 : decode cX9_init 6 = .ok (.newarray .int, 2) := by decide +kernel
theorem dX9_init_8 : decode cX9_init 8 = .ok (.putfield 9, 3) := by decide +kernel
theorem dX9_init_11 : decode cX9_init 11 = .ok (.aload_n 0, 1) := by decide +kernel
theorem dX9_init_12 : decode cX9_init 12 = .ok (.iconst 5, 1) := by decide +kernel
theorem dX9_init_13 : decode cX9_init 13 = .ok (.newarray .int, 2) := by decide +kernel
theorem dX9_init_15 : decode cX9_init 15 = .ok (.putfield 15, 3) := by decide +kernel
theorem dX9_init_18 : decode cX9_init 18 = .ok (.aload_n 0, 1) := by decide +kernel
theorem dX9_init_19 : decode cX9_init 19 = .ok (.iconst 5, 1) := by decide +kernel
theorem dX9_init_20 : decode cX9_init 20 = .ok (.newarray .int, 2) := by decide +kernel
theorem dX9_init_22 : decode cX9_init 22 = .ok (.putfield 18, 3) := by decide +kernel
theorem dX9_init_25 : decode cX9_init 25 = .ok (.return_, 1) := by decide +kernel
theorem wo_342 : Cond.methodLink "TaleShares$Timetable" 3 objectInit ∈ k_TB := k_tb 342 (by decide +kernel) rfl
def rm_X9_init : Room := { frames := 1, cells := 3, slots := 15, locals := 52 }
theorem i_X9_init (l : Launch) (G : k_G) (h : Nat) : k_MV l G yX9_init cX9_init 1 rm_X9_init [(h, .inr (7, [.int 0, .int 0, .null, .null, .null]))] [.ref h] (fun u => ∃ (q0 q1 q2 : Nat), u = [(h, .inr (7, [.int 0, .int 0, .ref q0, .ref q1, .ref q2])), (q0, .inl (G.2.1 1, 5, .inl (fun _ => 0))), (q1, .inl (G.2.1 1, 5, .inl (fun _ => 0))), (q2, .inl (G.2.1 1, 5, .inl (fun _ => 0)))]) 3 15 := by
  refine k_startMV (lv := [(0, .ref h)]) (by decide +kernel) (Nat.le_of_ble_eq_true rfl) rfl ?_
  intro p e s m args below meth c hA hin hr
  have hA : k_Amb p s m args meth c cX9_init 1 "TaleShares$Timetable" G _ := hA
  have hin : meth.name = "<init>" := hin
  refine ka_aload_n (i := 0) hA dX9_init_0 rfl 0 rfl ?_
  refine ka_objInit hA wo_342 wo_150 wo_151 (Nat.le_of_ble_eq_true rfl) (Nat.le_of_ble_eq_true rfl) dX9_init_1 ?_
  refine ka_aload_n (i := 0) hA dX9_init_4 rfl 0 rfl ?_
  refine ka_iconst hA dX9_init_5 kc_i_5 ?_
  refine ka_newI (N := 5) hA wd_247 (by decide) (by decide) (Nat.le_of_ble_eq_true rfl) (Nat.le_of_ble_eq_true rfl) (Nat.le_of_ble_eq_true rfl) dX9_init_6 (fun q0 => ?_)
  refine ka_putF (q0 := 0) (fs := [.int 0, .int 0, .null, .null, .null]) (w' := [(h, .inr (7, [.int 0, .int 0, .ref q0, .null, .null])), (q0, .inl (G.2.1 1, 5, .inl (fun _ => 0)))]) hA k_in_X9 tyX9 tyX9_ok nmX9 rfl rfl 2 (by decide) wd_347 rfl hin rfl (v := .ref q0) rfl rfl (Nat.le_of_ble_eq_true rfl) rfl dX9_init_8 ?_
  refine ka_aload_n (i := 0) hA dX9_init_11 rfl 0 rfl ?_
  refine ka_iconst hA dX9_init_12 kc_i_5 ?_
  refine ka_newI (N := 5) hA wd_247 (by decide) (by decide) (Nat.le_of_ble_eq_true rfl) (Nat.le_of_ble_eq_true rfl) (Nat.le_of_ble_eq_true rfl) dX9_init_13 (fun q1 => ?_)
  refine ka_putF (q0 := 0) (fs := [.int 0, .int 0, .ref q0, .null, .null]) (w' := [(h, .inr (7, [.int 0, .int 0, .ref q0, .ref q1, .null])), (q0, .inl (G.2.1 1, 5, .inl (fun _ => 0))), (q1, .inl (G.2.1 1, 5, .inl (fun _ => 0)))]) hA k_in_X9 tyX9 tyX9_ok nmX9 rfl rfl 3 (by decide) wd_349 rfl hin rfl (v := .ref q1) rfl rfl (Nat.le_of_ble_eq_true rfl) rfl dX9_init_15 ?_
  refine ka_aload_n (i := 0) hA dX9_init_18 rfl 0 rfl ?_
  refine ka_iconst hA dX9_init_19 kc_i_5 ?_
  refine ka_newI (N := 5) hA wd_247 (by decide) (by decide) (Nat.le_of_ble_eq_true rfl) (Nat.le_of_ble_eq_true rfl) (Nat.le_of_ble_eq_true rfl) dX9_init_20 (fun q2 => ?_)
  refine ka_putF (q0 := 0) (fs := [.int 0, .int 0, .ref q0, .ref q1, .null]) (w' := [(h, .inr (7, [.int 0, .int 0, .ref q0, .ref q1, .ref q2])), (q0, .inl (G.2.1 1, 5, .inl (fun _ => 0))), (q1, .inl (G.2.1 1, 5, .inl (fun _ => 0))), (q2, .inl (G.2.1 1, 5, .inl (fun _ => 0)))]) hA k_in_X9 tyX9 tyX9_ok nmX9 rfl rfl 4 (by decide) wd_351 rfl hin rfl (v := .ref q2) rfl rfl (Nat.le_of_ble_eq_true rfl) rfl dX9_init_22 ?_
  exact ka_vret hA hr ⟨q0, q1, q2, rfl⟩ dX9_init_25
theorem dX6_init_0 : decode cX6_init 0 = .ok (.aload_n 0, 1) := by decide +kernel
theorem dX6_init_1 : decode cX6_init 1 = .ok (.invokespecial 3, 3) := by decide +kernel
theorem dX6_init_4 : decode cX6_init 4 = .ok (.aload_n 0, 1) := by decide +kernel
theorem dX6_init_5 : decode cX6_init 5 = .ok (.bipush 9, 2) := by decide +kernel
theorem dX6_init_7 : decode cX6_init 7 = .ok (.newarray .int, 2) := by decide +kernel
theorem dX6_init_9 : decode cX6_init 9 = .ok (.putfield 9, 3) := by decide +kernel
theorem dX6_init_12 : decode cX6_init 12 = .ok (.return_, 1) := by decide +kernel
theorem wo_368 : Cond.methodLink "TaleShares$Slips" 3 objectInit ∈ k_TB := k_tb 368 (by decide +kernel) rfl
def rm_X6_init : Room := { frames := 1, cells := 1, slots := 9, locals := 52 }
theorem i_X6_init (l : Launch) (G : k_G) (h : Nat) : k_MV l G yX6_init cX6_init 1 rm_X6_init [(h, .inr (4, [.int 0, .int 0, .int 0, .null]))] [.ref h] (fun u => ∃ (q0 : Nat), u = [(h, .inr (4, [.int 0, .int 0, .int 0, .ref q0])), (q0, .inl (G.2.1 1, 9, .inl (fun _ => 0)))]) 1 9 := by
  refine k_startMV (lv := [(0, .ref h)]) (by decide +kernel) (Nat.le_of_ble_eq_true rfl) rfl ?_
  intro p e s m args below meth c hA hin hr
  have hA : k_Amb p s m args meth c cX6_init 1 "TaleShares$Slips" G _ := hA
  have hin : meth.name = "<init>" := hin
  refine ka_aload_n (i := 0) hA dX6_init_0 rfl 0 rfl ?_
  refine ka_objInit hA wo_368 wo_150 wo_151 (Nat.le_of_ble_eq_true rfl) (Nat.le_of_ble_eq_true rfl) dX6_init_1 ?_
  refine ka_aload_n (i := 0) hA dX6_init_4 rfl 0 rfl ?_
  refine ka_bipush hA dX6_init_5 kc_b_9 ?_
  refine ka_newI (N := 9) hA wd_247 (by decide) (by decide) (Nat.le_of_ble_eq_true rfl) (Nat.le_of_ble_eq_true rfl) (Nat.le_of_ble_eq_true rfl) dX6_init_7 (fun q0 => ?_)
  refine ka_putF (q0 := 0) (fs := [.int 0, .int 0, .int 0, .null]) (w' := [(h, .inr (4, [.int 0, .int 0, .int 0, .ref q0])), (q0, .inl (G.2.1 1, 9, .inl (fun _ => 0)))]) hA k_in_X6 tyX6 tyX6_ok nmX6 rfl rfl 3 (by decide) wd_375 rfl hin rfl (v := .ref q0) rfl rfl (Nat.le_of_ble_eq_true rfl) rfl dX6_init_9 ?_
  exact ka_vret hA hr ⟨q0, rfl⟩ dX6_init_12
theorem dX1_init_0 : decode cX1_init 0 = .ok (.aload_n 0, 1) := by decide +kernel
theorem dX1_init_1 : decode cX1_init 1 = .ok (.invokespecial 3, 3) := by decide +kernel
theorem dX1_init_4 : decode cX1_init 4 = .ok (.return_, 1) := by decide +kernel
theorem wo_390 : Cond.methodLink "TaleShares$Evening" 3 objectInit ∈ k_TB := k_tb 390 (by decide +kernel) rfl
def rm_X1_init : Room := { frames := 1, cells := 0, slots := 0, locals := 52 }
theorem i_X1_init (l : Launch) (G : k_G) (h : Nat) : k_MV l G yX1_init cX1_init 1 rm_X1_init [(h, .inr (0, [.int 0, .int 0]))] [.ref h] (fun u => u = [(h, .inr (0, [.int 0, .int 0]))]) 0 0 := by
  refine k_startMV (lv := [(0, .ref h)]) (by decide +kernel) (Nat.le_of_ble_eq_true rfl) rfl ?_
  intro p e s m args below meth c hA hin hr
  have hA : k_Amb p s m args meth c cX1_init 1 "TaleShares$Evening" G _ := hA
  have hin : meth.name = "<init>" := hin
  refine ka_aload_n (i := 0) hA dX1_init_0 rfl 0 rfl ?_
  refine ka_objInit hA wo_390 wo_150 wo_151 (Nat.le_of_ble_eq_true rfl) (Nat.le_of_ble_eq_true rfl) dX1_init_1 ?_
  exact ka_vret hA hr rfl dX1_init_4
theorem dX3_init_0 : decode cX3_init 0 = .ok (.aload_n 0, 1) := by decide +kernel
theorem dX3_init_1 : decode cX3_init 1 = .ok (.invokespecial 3, 3) := by decide +kernel
theorem dX3_init_4 : decode cX3_init 4 = .ok (.aload_n 0, 1) := by decide +kernel
theorem dX3_init_5 : decode cX3_init 5 = .ok (.bipush 16, 2) := by decide +kernel
theorem dX3_init_7 : decode cX3_init 7 = .ok (.newarray .long, 2) := by decide +kernel
theorem dX3_init_9 : decode cX3_init 9 = .ok (.putfield 11, 3) := by decide +kernel
theorem dX3_init_12 : decode cX3_init 12 = .ok (.aload_n 0, 1) := by decide +kernel
theorem dX3_init_13 : decode cX3_init 13 = .ok (.iconst 3, 1) := by decide +kernel
theorem dX3_init_14 : decode cX3_init 14 = .ok (.newarray .long, 2) := by decide +kernel
theorem dX3_init_16 : decode cX3_init 16 = .ok (.putfield 15, 3) := by decide +kernel
theorem dX3_init_19 : decode cX3_init 19 = .ok (.return_, 1) := by decide +kernel
theorem wo_405 : Cond.methodLink "TaleShares$Now" 3 objectInit ∈ k_TB := k_tb 405 (by decide +kernel) rfl
def rm_X3_init : Room := { frames := 1, cells := 2, slots := 19, locals := 52 }
theorem i_X3_init (l : Launch) (G : k_G) (h : Nat) : k_MV l G yX3_init cX3_init 1 rm_X3_init [(h, .inr (1, [.long 0, .int 0, .int 0, .int 0, .int 0, .null, .null]))] [.ref h] (fun u => ∃ (q0 q1 : Nat), u = [(h, .inr (1, [.long 0, .int 0, .int 0, .int 0, .int 0, .ref q0, .ref q1])), (q0, .inl (G.2.1 2, 16, .inr (.inl (fun _ => 0)))), (q1, .inl (G.2.1 2, 3, .inr (.inl (fun _ => 0))))]) 2 19 := by
  refine k_startMV (lv := [(0, .ref h)]) (by decide +kernel) (Nat.le_of_ble_eq_true rfl) rfl ?_
  intro p e s m args below meth c hA hin hr
  have hA : k_Amb p s m args meth c cX3_init 1 "TaleShares$Now" G _ := hA
  have hin : meth.name = "<init>" := hin
  refine ka_aload_n (i := 0) hA dX3_init_0 rfl 0 rfl ?_
  refine ka_objInit hA wo_405 wo_150 wo_151 (Nat.le_of_ble_eq_true rfl) (Nat.le_of_ble_eq_true rfl) dX3_init_1 ?_
  refine ka_aload_n (i := 0) hA dX3_init_4 rfl 0 rfl ?_
  refine ka_bipush hA dX3_init_5 kc_b_16 ?_
  refine ka_newJ (N := 16) hA wd_293 (by decide) (by decide) (Nat.le_of_ble_eq_true rfl) (Nat.le_of_ble_eq_true rfl) (Nat.le_of_ble_eq_true rfl) dX3_init_7 (fun q0 => ?_)
  refine ka_putF (q0 := 0) (fs := [.long 0, .int 0, .int 0, .int 0, .int 0, .null, .null]) (w' := [(h, .inr (1, [.long 0, .int 0, .int 0, .int 0, .int 0, .ref q0, .null])), (q0, .inl (G.2.1 2, 16, .inr (.inl (fun _ => 0))))]) hA k_in_X3 tyX3 tyX3_ok nmX3 rfl rfl 5 (by decide) wd_415 rfl hin rfl (v := .ref q0) rfl rfl (Nat.le_of_ble_eq_true rfl) rfl dX3_init_9 ?_
  refine ka_aload_n (i := 0) hA dX3_init_12 rfl 0 rfl ?_
  refine ka_iconst hA dX3_init_13 kc_i_3 ?_
  refine ka_newJ (N := 3) hA wd_293 (by decide) (by decide) (Nat.le_of_ble_eq_true rfl) (Nat.le_of_ble_eq_true rfl) (Nat.le_of_ble_eq_true rfl) dX3_init_14 (fun q1 => ?_)
  refine ka_putF (q0 := 0) (fs := [.long 0, .int 0, .int 0, .int 0, .int 0, .ref q0, .null]) (w' := [(h, .inr (1, [.long 0, .int 0, .int 0, .int 0, .int 0, .ref q0, .ref q1])), (q0, .inl (G.2.1 2, 16, .inr (.inl (fun _ => 0)))), (q1, .inl (G.2.1 2, 3, .inr (.inl (fun _ => 0))))]) hA k_in_X3 tyX3 tyX3_ok nmX3 rfl rfl 6 (by decide) wd_416 rfl hin rfl (v := .ref q1) rfl rfl (Nat.le_of_ble_eq_true rfl) rfl dX3_init_16 ?_
  exact ka_vret hA hr ⟨q0, q1, rfl⟩ dX3_init_19
theorem dX5_init_0 : decode cX5_init 0 = .ok (.aload_n 0, 1) := by decide +kernel
theorem dX5_init_1 : decode cX5_init 1 = .ok (.invokespecial 3, 3) := by decide +kernel
theorem dX5_init_4 : decode cX5_init 4 = .ok (.aload_n 0, 1) := by decide +kernel
theorem dX5_init_5 : decode cX5_init 5 = .ok (.bipush 8, 2) := by decide +kernel
theorem dX5_init_7 : decode cX5_init 7 = .ok (.newarray .long, 2) := by decide +kernel
theorem dX5_init_9 : decode cX5_init 9 = .ok (.putfield 9, 3) := by decide +kernel
theorem dX5_init_12 : decode cX5_init 12 = .ok (.aload_n 0, 1) := by decide +kernel
theorem dX5_init_13 : decode cX5_init 13 = .ok (.iconst 5, 1) := by decide +kernel
theorem dX5_init_14 : decode cX5_init 14 = .ok (.newarray .long, 2) := by decide +kernel
theorem dX5_init_16 : decode cX5_init 16 = .ok (.putfield 15, 3) := by decide +kernel
theorem dX5_init_19 : decode cX5_init 19 = .ok (.aload_n 0, 1) := by decide +kernel
theorem dX5_init_20 : decode cX5_init 20 = .ok (.aload_n 1, 1) := by decide +kernel
theorem dX5_init_21 : decode cX5_init 21 = .ok (.putfield 18, 3) := by decide +kernel
theorem dX5_init_24 : decode cX5_init 24 = .ok (.aload_n 0, 1) := by decide +kernel
theorem dX5_init_25 : decode cX5_init 25 = .ok (.aload_n 2, 1) := by decide +kernel
theorem dX5_init_26 : decode cX5_init 26 = .ok (.putfield 22, 3) := by decide +kernel
theorem dX5_init_29 : decode cX5_init 29 = .ok (.return_, 1) := by decide +kernel
theorem wo_253 : Cond.methodLink "TaleShares$Reader" 3 objectInit ∈ k_TB := k_tb 253 (by decide +kernel) rfl
def rm_X5_init : Room := { frames := 1, cells := 2, slots := 13, locals := 52 }
theorem i_X5_init (l : Launch) (G : k_G) (h : Nat) (aa : Nat) (bb : Nat) : k_MV l G yX5_init cX5_init 3 rm_X5_init [(h, .inr (3, [.int 0, .int 0, .null, .int 0, .int 0, .int 0, .int 0, .long 0, .int 0, .null, .null, .null]))] [.ref h, .ref aa, .ref bb] (fun u => ∃ (q0 q1 : Nat), u = [(h, .inr (3, [.int 0, .int 0, .ref aa, .int 0, .int 0, .int 0, .int 0, .long 0, .int 0, .ref bb, .ref q0, .ref q1])), (q0, .inl (G.2.1 2, 8, .inr (.inl (fun _ => 0)))), (q1, .inl (G.2.1 2, 5, .inr (.inl (fun _ => 0))))]) 2 13 := by
  refine k_startMV (lv := [(0, .ref h), (1, .ref aa), (2, .ref bb)]) (by decide +kernel) (Nat.le_of_ble_eq_true rfl) rfl ?_
  intro p e s m args below meth c hA hin hr
  have hA : k_Amb p s m args meth c cX5_init 3 "TaleShares$Reader" G _ := hA
  have hin : meth.name = "<init>" := hin
  refine ka_aload_n (i := 0) hA dX5_init_0 rfl 0 rfl ?_
  refine ka_objInit hA wo_253 wo_150 wo_151 (Nat.le_of_ble_eq_true rfl) (Nat.le_of_ble_eq_true rfl) dX5_init_1 ?_
  refine ka_aload_n (i := 0) hA dX5_init_4 rfl 0 rfl ?_
  refine ka_bipush hA dX5_init_5 kc_b_8 ?_
  refine ka_newJ (N := 8) hA wd_293 (by decide) (by decide) (Nat.le_of_ble_eq_true rfl) (Nat.le_of_ble_eq_true rfl) (Nat.le_of_ble_eq_true rfl) dX5_init_7 (fun q0 => ?_)
  refine ka_putF (q0 := 0) (fs := [.int 0, .int 0, .null, .int 0, .int 0, .int 0, .int 0, .long 0, .int 0, .null, .null, .null]) (w' := [(h, .inr (3, [.int 0, .int 0, .null, .int 0, .int 0, .int 0, .int 0, .long 0, .int 0, .null, .ref q0, .null])), (q0, .inl (G.2.1 2, 8, .inr (.inl (fun _ => 0))))]) hA k_in_X5 tyX5 tyX5_ok nmX5 rfl rfl 10 (by decide) wd_266 rfl hin rfl (v := .ref q0) rfl rfl (Nat.le_of_ble_eq_true rfl) rfl dX5_init_9 ?_
  refine ka_aload_n (i := 0) hA dX5_init_12 rfl 0 rfl ?_
  refine ka_iconst hA dX5_init_13 kc_i_5 ?_
  refine ka_newJ (N := 5) hA wd_293 (by decide) (by decide) (Nat.le_of_ble_eq_true rfl) (Nat.le_of_ble_eq_true rfl) (Nat.le_of_ble_eq_true rfl) dX5_init_14 (fun q1 => ?_)
  refine ka_putF (q0 := 0) (fs := [.int 0, .int 0, .null, .int 0, .int 0, .int 0, .int 0, .long 0, .int 0, .null, .ref q0, .null]) (w' := [(h, .inr (3, [.int 0, .int 0, .null, .int 0, .int 0, .int 0, .int 0, .long 0, .int 0, .null, .ref q0, .ref q1])), (q0, .inl (G.2.1 2, 8, .inr (.inl (fun _ => 0)))), (q1, .inl (G.2.1 2, 5, .inr (.inl (fun _ => 0))))]) hA k_in_X5 tyX5 tyX5_ok nmX5 rfl rfl 11 (by decide) wd_267 rfl hin rfl (v := .ref q1) rfl rfl (Nat.le_of_ble_eq_true rfl) rfl dX5_init_16 ?_
  refine ka_aload_n (i := 0) hA dX5_init_19 rfl 0 rfl ?_
  refine ka_aload_n (i := 1) hA dX5_init_20 rfl 1 rfl ?_
  refine ka_putF (q0 := 0) (fs := [.int 0, .int 0, .null, .int 0, .int 0, .int 0, .int 0, .long 0, .int 0, .null, .ref q0, .ref q1]) (w' := [(h, .inr (3, [.int 0, .int 0, .ref aa, .int 0, .int 0, .int 0, .int 0, .long 0, .int 0, .null, .ref q0, .ref q1])), (q0, .inl (G.2.1 2, 8, .inr (.inl (fun _ => 0)))), (q1, .inl (G.2.1 2, 5, .inr (.inl (fun _ => 0))))]) hA k_in_X5 tyX5 tyX5_ok nmX5 rfl rfl 2 (by decide) wd_258 rfl hin rfl (v := .ref aa) rfl rfl (Nat.le_of_ble_eq_true rfl) rfl dX5_init_21 ?_
  refine ka_aload_n (i := 0) hA dX5_init_24 rfl 0 rfl ?_
  refine ka_aload_n (i := 2) hA dX5_init_25 rfl 2 rfl ?_
  refine ka_put (q0 := 0) (fs := [.int 0, .int 0, .ref aa, .int 0, .int 0, .int 0, .int 0, .long 0, .int 0, .null, .ref q0, .ref q1]) (w' := [(h, .inr (3, [.int 0, .int 0, .ref aa, .int 0, .int 0, .int 0, .int 0, .long 0, .int 0, .ref bb, .ref q0, .ref q1])), (q0, .inl (G.2.1 2, 8, .inr (.inl (fun _ => 0)))), (q1, .inl (G.2.1 2, 5, .inr (.inl (fun _ => 0))))]) hA k_in_X5 tyX5 tyX5_ok nmX5 rfl rfl 9 (by decide) wd_265 rfl (v := .ref bb) rfl rfl (Nat.le_of_ble_eq_true rfl) rfl dX5_init_26 ?_
  exact ka_vret hA hr ⟨q0, q1, rfl⟩ dX5_init_29
theorem dX11_init_0 : decode cX11_init 0 = .ok (.aload_n 0, 1) := by decide +kernel
theorem dX11_init_1 : decode cX11_init 1 = .ok (.invokespecial 3, 3) := by decide +kernel
theorem dX11_init_4 : decode cX11_init 4 = .ok (.aload_n 0, 1) := by decide +kernel
theorem dX11_init_5 : decode cX11_init 5 = .ok (.iconst (-1), 1) := by decide +kernel
theorem dX11_init_6 : decode cX11_init 6 = .ok (.putfield 9, 3) := by decide +kernel
theorem dX11_init_9 : decode cX11_init 9 = .ok (.aload_n 0, 1) := by decide +kernel
theorem dX11_init_10 : decode cX11_init 10 = .ok (.bipush 8, 2) := by decide +kernel
theorem dX11_init_12 : decode cX11_init 12 = .ok (.newarray .int, 2) := by decide +kernel
theorem dX11_init_14 : decode cX11_init 14 = .ok (.putfield 15, 3) := by decide +kernel
theorem dX11_init_17 : decode cX11_init 17 = .ok (.aload_n 0, 1) := by decide +kernel
theorem dX11_init_18 : decode cX11_init 18 = .ok (.bipush 8, 2) := by decide +kernel
theorem dX11_init_20 : decode cX11_init 20 = .ok (.newarray .int, 2) := by decide +kernel
theorem dX11_init_22 : decode cX11_init 22 = .ok (.putfield 19, 3) := by decide +kernel
theorem dX11_init_25 : decode cX11_init 25 = .ok (.aload_n 0, 1) := by decide +kernel
theorem dX11_init_26 : decode cX11_init 26 = .ok (.iconst 5, 1) := by decide +kernel
theorem dX11_init_27 : decode cX11_init 27 = .ok (.newarray .int, 2) := by decide +kernel
theorem dX11_init_29 : decode cX11_init 29 = .ok (.putfield 22, 3) := by decide +kernel
theorem dX11_init_32 : decode cX11_init 32 = .ok (.aload_n 0, 1) := by decide +kernel
theorem dX11_init_33 : decode cX11_init 33 = .ok (.iconst 5, 1) := by decide +kernel
theorem dX11_init_34 : decode cX11_init 34 = .ok (.newarray .int, 2) := by decide +kernel
theorem dX11_init_36 : decode cX11_init 36 = .ok (.putfield 25, 3) := by decide +kernel
theorem dX11_init_39 : decode cX11_init 39 = .ok (.aload_n 0, 1) := by decide +kernel
theorem dX11_init_40 : decode cX11_init 40 = .ok (.iconst 5, 1) := by decide +kernel
theorem dX11_init_41 : decode cX11_init 41 = .ok (.newarray .int, 2) := by decide +kernel
theorem dX11_init_43 : decode cX11_init 43 = .ok (.putfield 28, 3) := by decide +kernel
theorem dX11_init_46 : decode cX11_init 46 = .ok (.aload_n 0, 1) := by decide +kernel
theorem dX11_init_47 : decode cX11_init 47 = .ok (.iconst 5, 1) := by decide +kernel
theorem dX11_init_48 : decode cX11_init 48 = .ok (.newarray .int, 2) := by decide +kernel
theorem dX11_init_50 : decode cX11_init 50 = .ok (.putfield 31, 3) := by decide +kernel
theorem dX11_init_53 : decode cX11_init 53 = .ok (.aload_n 0, 1) := by decide +kernel
theorem dX11_init_54 : decode cX11_init 54 = .ok (.bipush 6, 2) := by decide +kernel
theorem dX11_init_56 : decode cX11_init 56 = .ok (.newarray .int, 2) := by decide +kernel
theorem dX11_init_58 : decode cX11_init 58 = .ok (.putfield 34, 3) := by decide +kernel
theorem dX11_init_61 : decode cX11_init 61 = .ok (.aload_n 0, 1) := by decide +kernel
theorem dX11_init_62 : decode cX11_init 62 = .ok (.bipush 13, 2) := by decide +kernel
theorem dX11_init_64 : decode cX11_init 64 = .ok (.newarray .long, 2) := by decide +kernel
theorem dX11_init_66 : decode cX11_init 66 = .ok (.putfield 37, 3) := by decide +kernel
theorem dX11_init_69 : decode cX11_init 69 = .ok (.aload_n 0, 1) := by decide +kernel
theorem dX11_init_70 : decode cX11_init 70 = .ok (.bipush 13, 2) := by decide +kernel
theorem dX11_init_72 : decode cX11_init 72 = .ok (.newarray .int, 2) := by decide +kernel
theorem dX11_init_74 : decode cX11_init 74 = .ok (.putfield 41, 3) := by decide +kernel
theorem dX11_init_77 : decode cX11_init 77 = .ok (.aload_n 0, 1) := by decide +kernel
theorem dX11_init_78 : decode cX11_init 78 = .ok (.bipush 13, 2) := by decide +kernel
theorem dX11_init_80 : decode cX11_init 80 = .ok (.newarray .int, 2) := by decide +kernel
theorem dX11_init_82 : decode cX11_init 82 = .ok (.putfield 44, 3) := by decide +kernel
theorem dX11_init_85 : decode cX11_init 85 = .ok (.return_, 1) := by decide +kernel
theorem wo_1405 : Cond.methodLink "TaleSharesModel$Terrace" 3 objectInit ∈ k_TB := k_tb 1405 (by decide +kernel) rfl
def rm_X11_init : Room := { frames := 1, cells := 10, slots := 81, locals := 52 }
theorem i_X11_init (l : Launch) (G : k_G) (h : Nat) : k_MV l G yX11_init cX11_init 1 rm_X11_init [(h, .inr (9, [.int 0, .int 0, .int 0, .int 0, .int 0, .int 0, .int 0, .int 0, .int 0, .null, .null, .null, .null, .null, .null, .null, .null, .null, .null]))] [.ref h] (fun u => ∃ (q0 q1 q2 q3 q4 q5 q6 q7 q8 q9 : Nat), u = [(h, .inr (9, [.int (-1), .int 0, .int 0, .int 0, .int 0, .int 0, .int 0, .int 0, .int 0, .ref q0, .ref q1, .ref q2, .ref q3, .ref q4, .ref q5, .ref q6, .ref q7, .ref q8, .ref q9])), (q0, .inl (G.2.1 1, 8, .inl (fun _ => 0))), (q1, .inl (G.2.1 1, 8, .inl (fun _ => 0))), (q2, .inl (G.2.1 1, 5, .inl (fun _ => 0))), (q3, .inl (G.2.1 1, 5, .inl (fun _ => 0))), (q4, .inl (G.2.1 1, 5, .inl (fun _ => 0))), (q5, .inl (G.2.1 1, 5, .inl (fun _ => 0))), (q6, .inl (G.2.1 1, 6, .inl (fun _ => 0))), (q7, .inl (G.2.1 2, 13, .inr (.inl (fun _ => 0)))), (q8, .inl (G.2.1 1, 13, .inl (fun _ => 0))), (q9, .inl (G.2.1 1, 13, .inl (fun _ => 0)))]) 10 81 := by
  refine k_startMV (lv := [(0, .ref h)]) (by decide +kernel) (Nat.le_of_ble_eq_true rfl) rfl ?_
  intro p e s m args below meth c hA hin hr
  have hA : k_Amb p s m args meth c cX11_init 1 "TaleSharesModel$Terrace" G _ := hA
  have hin : meth.name = "<init>" := hin
  refine ka_aload_n (i := 0) hA dX11_init_0 rfl 0 rfl ?_
  refine ka_objInit hA wo_1405 wo_150 wo_151 (Nat.le_of_ble_eq_true rfl) (Nat.le_of_ble_eq_true rfl) dX11_init_1 ?_
  refine ka_aload_n (i := 0) hA dX11_init_4 rfl 0 rfl ?_
  refine ka_iconst hA dX11_init_5 kc_i_m1 ?_
  refine ka_put (q0 := 0) (fs := [.int 0, .int 0, .int 0, .int 0, .int 0, .int 0, .int 0, .int 0, .int 0, .null, .null, .null, .null, .null, .null, .null, .null, .null, .null]) (w' := [(h, .inr (9, [.int (-1), .int 0, .int 0, .int 0, .int 0, .int 0, .int 0, .int 0, .int 0, .null, .null, .null, .null, .null, .null, .null, .null, .null, .null]))]) hA k_in_X11 tyX11 tyX11_ok nmX11 rfl rfl 0 (by decide) wd_1406 rfl (v := .int (-1)) rfl rfl (Nat.le_of_ble_eq_true rfl) rfl dX11_init_6 ?_
  refine ka_aload_n (i := 0) hA dX11_init_9 rfl 0 rfl ?_
  refine ka_bipush hA dX11_init_10 kc_b_8 ?_
  refine ka_newI (N := 8) hA wd_247 (by decide) (by decide) (Nat.le_of_ble_eq_true rfl) (Nat.le_of_ble_eq_true rfl) (Nat.le_of_ble_eq_true rfl) dX11_init_12 (fun q0 => ?_)
  refine ka_putF (q0 := 0) (fs := [.int (-1), .int 0, .int 0, .int 0, .int 0, .int 0, .int 0, .int 0, .int 0, .null, .null, .null, .null, .null, .null, .null, .null, .null, .null]) (w' := [(h, .inr (9, [.int (-1), .int 0, .int 0, .int 0, .int 0, .int 0, .int 0, .int 0, .int 0, .ref q0, .null, .null, .null, .null, .null, .null, .null, .null, .null])), (q0, .inl (G.2.1 1, 8, .inl (fun _ => 0)))]) hA k_in_X11 tyX11 tyX11_ok nmX11 rfl rfl 9 (by decide) wd_1418 rfl hin rfl (v := .ref q0) rfl rfl (Nat.le_of_ble_eq_true rfl) rfl dX11_init_14 ?_
  refine ka_aload_n (i := 0) hA dX11_init_17 rfl 0 rfl ?_
  refine ka_bipush hA dX11_init_18 kc_b_8 ?_
  refine ka_newI (N := 8) hA wd_247 (by decide) (by decide) (Nat.le_of_ble_eq_true rfl) (Nat.le_of_ble_eq_true rfl) (Nat.le_of_ble_eq_true rfl) dX11_init_20 (fun q1 => ?_)
  refine ka_putF (q0 := 0) (fs := [.int (-1), .int 0, .int 0, .int 0, .int 0, .int 0, .int 0, .int 0, .int 0, .ref q0, .null, .null, .null, .null, .null, .null, .null, .null, .null]) (w' := [(h, .inr (9, [.int (-1), .int 0, .int 0, .int 0, .int 0, .int 0, .int 0, .int 0, .int 0, .ref q0, .ref q1, .null, .null, .null, .null, .null, .null, .null, .null])), (q0, .inl (G.2.1 1, 8, .inl (fun _ => 0))), (q1, .inl (G.2.1 1, 8, .inl (fun _ => 0)))]) hA k_in_X11 tyX11 tyX11_ok nmX11 rfl rfl 10 (by decide) wd_1420 rfl hin rfl (v := .ref q1) rfl rfl (Nat.le_of_ble_eq_true rfl) rfl dX11_init_22 ?_
  refine ka_aload_n (i := 0) hA dX11_init_25 rfl 0 rfl ?_
  refine ka_iconst hA dX11_init_26 kc_i_5 ?_
  refine ka_newI (N := 5) hA wd_247 (by decide) (by decide) (Nat.le_of_ble_eq_true rfl) (Nat.le_of_ble_eq_true rfl) (Nat.le_of_ble_eq_true rfl) dX11_init_27 (fun q2 => ?_)
  refine ka_putF (q0 := 0) (fs := [.int (-1), .int 0, .int 0, .int 0, .int 0, .int 0, .int 0, .int 0, .int 0, .ref q0, .ref q1, .null, .null, .null, .null, .null, .null, .null, .null]) (w' := [(h, .inr (9, [.int (-1), .int 0, .int 0, .int 0, .int 0, .int 0, .int 0, .int 0, .int 0, .ref q0, .ref q1, .ref q2, .null, .null, .null, .null, .null, .null, .null])), (q0, .inl (G.2.1 1, 8, .inl (fun _ => 0))), (q1, .inl (G.2.1 1, 8, .inl (fun _ => 0))), (q2, .inl (G.2.1 1, 5, .inl (fun _ => 0)))]) hA k_in_X11 tyX11 tyX11_ok nmX11 rfl rfl 11 (by decide) wd_1422 rfl hin rfl (v := .ref q2) rfl rfl (Nat.le_of_ble_eq_true rfl) rfl dX11_init_29 ?_
  refine ka_aload_n (i := 0) hA dX11_init_32 rfl 0 rfl ?_
  refine ka_iconst hA dX11_init_33 kc_i_5 ?_
  refine ka_newI (N := 5) hA wd_247 (by decide) (by decide) (Nat.le_of_ble_eq_true rfl) (Nat.le_of_ble_eq_true rfl) (Nat.le_of_ble_eq_true rfl) dX11_init_34 (fun q3 => ?_)
  refine ka_putF (q0 := 0) (fs := [.int (-1), .int 0, .int 0, .int 0, .int 0, .int 0, .int 0, .int 0, .int 0, .ref q0, .ref q1, .ref q2, .null, .null, .null, .null, .null, .null, .null]) (w' := [(h, .inr (9, [.int (-1), .int 0, .int 0, .int 0, .int 0, .int 0, .int 0, .int 0, .int 0, .ref q0, .ref q1, .ref q2, .ref q3, .null, .null, .null, .null, .null, .null])), (q0, .inl (G.2.1 1, 8, .inl (fun _ => 0))), (q1, .inl (G.2.1 1, 8, .inl (fun _ => 0))), (q2, .inl (G.2.1 1, 5, .inl (fun _ => 0))), (q3, .inl (G.2.1 1, 5, .inl (fun _ => 0)))]) hA k_in_X11 tyX11 tyX11_ok nmX11 rfl rfl 12 (by decide) wd_1424 rfl hin rfl (v := .ref q3) rfl rfl (Nat.le_of_ble_eq_true rfl) rfl dX11_init_36 ?_
  refine ka_aload_n (i := 0) hA dX11_init_39 rfl 0 rfl ?_
  refine ka_iconst hA dX11_init_40 kc_i_5 ?_
  refine ka_newI (N := 5) hA wd_247 (by decide) (by decide) (Nat.le_of_ble_eq_true rfl) (Nat.le_of_ble_eq_true rfl) (Nat.le_of_ble_eq_true rfl) dX11_init_41 (fun q4 => ?_)
  refine ka_putF (q0 := 0) (fs := [.int (-1), .int 0, .int 0, .int 0, .int 0, .int 0, .int 0, .int 0, .int 0, .ref q0, .ref q1, .ref q2, .ref q3, .null, .null, .null, .null, .null, .null]) (w' := [(h, .inr (9, [.int (-1), .int 0, .int 0, .int 0, .int 0, .int 0, .int 0, .int 0, .int 0, .ref q0, .ref q1, .ref q2, .ref q3, .ref q4, .null, .null, .null, .null, .null])), (q0, .inl (G.2.1 1, 8, .inl (fun _ => 0))), (q1, .inl (G.2.1 1, 8, .inl (fun _ => 0))), (q2, .inl (G.2.1 1, 5, .inl (fun _ => 0))), (q3, .inl (G.2.1 1, 5, .inl (fun _ => 0))), (q4, .inl (G.2.1 1, 5, .inl (fun _ => 0)))]) hA k_in_X11 tyX11 tyX11_ok nmX11 rfl rfl 13 (by decide) wd_1426 rfl hin rfl (v := .ref q4) rfl rfl (Nat.le_of_ble_eq_true rfl) rfl dX11_init_43 ?_
  refine ka_aload_n (i := 0) hA dX11_init_46 rfl 0 rfl ?_
  refine ka_iconst hA dX11_init_47 kc_i_5 ?_
  refine ka_newI (N := 5) hA wd_247 (by decide) (by decide) (Nat.le_of_ble_eq_true rfl) (Nat.le_of_ble_eq_true rfl) (Nat.le_of_ble_eq_true rfl) dX11_init_48 (fun q5 => ?_)
  refine ka_putF (q0 := 0) (fs := [.int (-1), .int 0, .int 0, .int 0, .int 0, .int 0, .int 0, .int 0, .int 0, .ref q0, .ref q1, .ref q2, .ref q3, .ref q4, .null, .null, .null, .null, .null]) (w' := [(h, .inr (9, [.int (-1), .int 0, .int 0, .int 0, .int 0, .int 0, .int 0, .int 0, .int 0, .ref q0, .ref q1, .ref q2, .ref q3, .ref q4, .ref q5, .null, .null, .null, .null])), (q0, .inl (G.2.1 1, 8, .inl (fun _ => 0))), (q1, .inl (G.2.1 1, 8, .inl (fun _ => 0))), (q2, .inl (G.2.1 1, 5, .inl (fun _ => 0))), (q3, .inl (G.2.1 1, 5, .inl (fun _ => 0))), (q4, .inl (G.2.1 1, 5, .inl (fun _ => 0))), (q5, .inl (G.2.1 1, 5, .inl (fun _ => 0)))]) hA k_in_X11 tyX11 tyX11_ok nmX11 rfl rfl 14 (by decide) wd_1428 rfl hin rfl (v := .ref q5) rfl rfl (Nat.le_of_ble_eq_true rfl) rfl dX11_init_50 ?_
  refine ka_aload_n (i := 0) hA dX11_init_53 rfl 0 rfl ?_
  refine ka_bipush hA dX11_init_54 kc_b_6 ?_
  refine ka_newI (N := 6) hA wd_247 (by decide) (by decide) (Nat.le_of_ble_eq_true rfl) (Nat.le_of_ble_eq_true rfl) (Nat.le_of_ble_eq_true rfl) dX11_init_56 (fun q6 => ?_)
  refine ka_putF (q0 := 0) (fs := [.int (-1), .int 0, .int 0, .int 0, .int 0, .int 0, .int 0, .int 0, .int 0, .ref q0, .ref q1, .ref q2, .ref q3, .ref q4, .ref q5, .null, .null, .null, .null]) (w' := [(h, .inr (9, [.int (-1), .int 0, .int 0, .int 0, .int 0, .int 0, .int 0, .int 0, .int 0, .ref q0, .ref q1, .ref q2, .ref q3, .ref q4, .ref q5, .ref q6, .null, .null, .null])), (q0, .inl (G.2.1 1, 8, .inl (fun _ => 0))), (q1, .inl (G.2.1 1, 8, .inl (fun _ => 0))), (q2, .inl (G.2.1 1, 5, .inl (fun _ => 0))), (q3, .inl (G.2.1 1, 5, .inl (fun _ => 0))), (q4, .inl (G.2.1 1, 5, .inl (fun _ => 0))), (q5, .inl (G.2.1 1, 5, .inl (fun _ => 0))), (q6, .inl (G.2.1 1, 6, .inl (fun _ => 0)))]) hA k_in_X11 tyX11 tyX11_ok nmX11 rfl rfl 15 (by decide) wd_1430 rfl hin rfl (v := .ref q6) rfl rfl (Nat.le_of_ble_eq_true rfl) rfl dX11_init_58 ?_
  refine ka_aload_n (i := 0) hA dX11_init_61 rfl 0 rfl ?_
  refine ka_bipush hA dX11_init_62 kc_b_13 ?_
  refine ka_newJ (N := 13) hA wd_293 (by decide) (by decide) (Nat.le_of_ble_eq_true rfl) (Nat.le_of_ble_eq_true rfl) (Nat.le_of_ble_eq_true rfl) dX11_init_64 (fun q7 => ?_)
  refine ka_putF (q0 := 0) (fs := [.int (-1), .int 0, .int 0, .int 0, .int 0, .int 0, .int 0, .int 0, .int 0, .ref q0, .ref q1, .ref q2, .ref q3, .ref q4, .ref q5, .ref q6, .null, .null, .null]) (w' := [(h, .inr (9, [.int (-1), .int 0, .int 0, .int 0, .int 0, .int 0, .int 0, .int 0, .int 0, .ref q0, .ref q1, .ref q2, .ref q3, .ref q4, .ref q5, .ref q6, .ref q7, .null, .null])), (q0, .inl (G.2.1 1, 8, .inl (fun _ => 0))), (q1, .inl (G.2.1 1, 8, .inl (fun _ => 0))), (q2, .inl (G.2.1 1, 5, .inl (fun _ => 0))), (q3, .inl (G.2.1 1, 5, .inl (fun _ => 0))), (q4, .inl (G.2.1 1, 5, .inl (fun _ => 0))), (q5, .inl (G.2.1 1, 5, .inl (fun _ => 0))), (q6, .inl (G.2.1 1, 6, .inl (fun _ => 0))), (q7, .inl (G.2.1 2, 13, .inr (.inl (fun _ => 0))))]) hA k_in_X11 tyX11 tyX11_ok nmX11 rfl rfl 16 (by decide) wd_1432 rfl hin rfl (v := .ref q7) rfl rfl (Nat.le_of_ble_eq_true rfl) rfl dX11_init_66 ?_
  refine ka_aload_n (i := 0) hA dX11_init_69 rfl 0 rfl ?_
  refine ka_bipush hA dX11_init_70 kc_b_13 ?_
  refine ka_newI (N := 13) hA wd_247 (by decide) (by decide) (Nat.le_of_ble_eq_true rfl) (Nat.le_of_ble_eq_true rfl) (Nat.le_of_ble_eq_true rfl) dX11_init_72 (fun q8 => ?_)
  refine ka_putF (q0 := 0) (fs := [.int (-1), .int 0, .int 0, .int 0, .int 0, .int 0, .int 0, .int 0, .int 0, .ref q0, .ref q1, .ref q2, .ref q3, .ref q4, .ref q5, .ref q6, .ref q7, .null, .null]) (w' := [(h, .inr (9, [.int (-1), .int 0, .int 0, .int 0, .int 0, .int 0, .int 0, .int 0, .int 0, .ref q0, .ref q1, .ref q2, .ref q3, .ref q4, .ref q5, .ref q6, .ref q7, .ref q8, .null])), (q0, .inl (G.2.1 1, 8, .inl (fun _ => 0))), (q1, .inl (G.2.1 1, 8, .inl (fun _ => 0))), (q2, .inl (G.2.1 1, 5, .inl (fun _ => 0))), (q3, .inl (G.2.1 1, 5, .inl (fun _ => 0))), (q4, .inl (G.2.1 1, 5, .inl (fun _ => 0))), (q5, .inl (G.2.1 1, 5, .inl (fun _ => 0))), (q6, .inl (G.2.1 1, 6, .inl (fun _ => 0))), (q7, .inl (G.2.1 2, 13, .inr (.inl (fun _ => 0)))), (q8, .inl (G.2.1 1, 13, .inl (fun _ => 0)))]) hA k_in_X11 tyX11 tyX11_ok nmX11 rfl rfl 17 (by decide) wd_1434 rfl hin rfl (v := .ref q8) rfl rfl (Nat.le_of_ble_eq_true rfl) rfl dX11_init_74 ?_
  refine ka_aload_n (i := 0) hA dX11_init_77 rfl 0 rfl ?_
  refine ka_bipush hA dX11_init_78 kc_b_13 ?_
  refine ka_newI (N := 13) hA wd_247 (by decide) (by decide) (Nat.le_of_ble_eq_true rfl) (Nat.le_of_ble_eq_true rfl) (Nat.le_of_ble_eq_true rfl) dX11_init_80 (fun q9 => ?_)
  refine ka_putF (q0 := 0) (fs := [.int (-1), .int 0, .int 0, .int 0, .int 0, .int 0, .int 0, .int 0, .int 0, .ref q0, .ref q1, .ref q2, .ref q3, .ref q4, .ref q5, .ref q6, .ref q7, .ref q8, .null]) (w' := [(h, .inr (9, [.int (-1), .int 0, .int 0, .int 0, .int 0, .int 0, .int 0, .int 0, .int 0, .ref q0, .ref q1, .ref q2, .ref q3, .ref q4, .ref q5, .ref q6, .ref q7, .ref q8, .ref q9])), (q0, .inl (G.2.1 1, 8, .inl (fun _ => 0))), (q1, .inl (G.2.1 1, 8, .inl (fun _ => 0))), (q2, .inl (G.2.1 1, 5, .inl (fun _ => 0))), (q3, .inl (G.2.1 1, 5, .inl (fun _ => 0))), (q4, .inl (G.2.1 1, 5, .inl (fun _ => 0))), (q5, .inl (G.2.1 1, 5, .inl (fun _ => 0))), (q6, .inl (G.2.1 1, 6, .inl (fun _ => 0))), (q7, .inl (G.2.1 2, 13, .inr (.inl (fun _ => 0)))), (q8, .inl (G.2.1 1, 13, .inl (fun _ => 0))), (q9, .inl (G.2.1 1, 13, .inl (fun _ => 0)))]) hA k_in_X11 tyX11 tyX11_ok nmX11 rfl rfl 18 (by decide) wd_1436 rfl hin rfl (v := .ref q9) rfl rfl (Nat.le_of_ble_eq_true rfl) rfl dX11_init_82 ?_
  exact ka_vret hA hr ⟨q0, q1, q2, q3, q4, q5, q6, q7, q8, q9, rfl⟩ dX11_init_85
def lsa (l : List Nat) : Nat → Nat := fun i => l.getD i 0
def tz : k_St := (fun _ _ => 0, fun _ _ => 0)
def tzM : k_St := (fun o k => if o = 0 ∧ k = 2 then -1 else 0, fun _ _ => 0)
theorem dX10_init_0 : decode cX10_init 0 = .ok (.aload_n 0, 1) := by decide +kernel
theorem dX10_init_1 : decode cX10_init 1 = .ok (.invokespecial 1, 3) := by decide +kernel
theorem dX10_init_4 : decode cX10_init 4 = .ok (.aload_n 0, 1) := by decide +kernel
theorem dX10_init_5 : decode cX10_init 5 = .ok (.sipush 900, 3) := by decide +kernel
theorem dX10_init_8 : decode cX10_init 8 = .ok (.newarray .byte, 2) := by decide +kernel
theorem dX10_init_10 : decode cX10_init 10 = .ok (.putfield 9, 3) := by decide +kernel
theorem dX10_init_13 : decode cX10_init 13 = .ok (.aload_n 0, 1) := by decide +kernel
theorem dX10_init_14 : decode cX10_init 14 = .ok (.new 13, 3) := by decide +kernel
theorem dX10_init_17 : decode cX10_init 17 = .ok (.dup, 1) := by decide +kernel
theorem dX10_init_18 : decode cX10_init 18 = .ok (.invokespecial 15, 3) := by decide +kernel
theorem dX10_init_21 : decode cX10_init 21 = .ok (.putfield 16, 3) := by decide +kernel
theorem dX10_init_24 : decode cX10_init 24 = .ok (.aload_n 0, 1) := by decide +kernel
theorem dX10_init_25 : decode cX10_init 25 = .ok (.new 13, 3) := by decide +kernel
theorem dX10_init_28 : decode cX10_init 28 = .ok (.dup, 1) := by decide +kernel
theorem dX10_init_29 : decode cX10_init 29 = .ok (.invokespecial 15, 3) := by decide +kernel
theorem dX10_init_32 : decode cX10_init 32 = .ok (.putfield 20, 3) := by decide +kernel
theorem dX10_init_35 : decode cX10_init 35 = .ok (.aload_n 0, 1) := by decide +kernel
theorem dX10_init_36 : decode cX10_init 36 = .ok (.new 23, 3) := by decide +kernel
theorem dX10_init_39 : decode cX10_init 39 = .ok (.dup, 1) := by decide +kernel
theorem dX10_init_40 : decode cX10_init 40 = .ok (.aload_n 0, 1) := by decide +kernel
theorem dX10_init_41 : decode cX10_init 41 = .ok (.getfield 9, 3) := by decide +kernel
theorem dX10_init_44 : decode cX10_init 44 = .ok (.aload_n 0, 1) := by decide +kernel
theorem dX10_init_45 : decode cX10_init 45 = .ok (.getfield 20, 3) := by decide +kernel
theorem dX10_init_48 : decode cX10_init 48 = .ok (.invokespecial 25, 3) := by decide +kernel
theorem dX10_init_51 : decode cX10_init 51 = .ok (.putfield 28, 3) := by decide +kernel
theorem dX10_init_54 : decode cX10_init 54 = .ok (.aload_n 0, 1) := by decide +kernel
theorem dX10_init_55 : decode cX10_init 55 = .ok (.new 32, 3) := by decide +kernel
theorem dX10_init_58 : decode cX10_init 58 = .ok (.dup, 1) := by decide +kernel
theorem dX10_init_59 : decode cX10_init 59 = .ok (.invokespecial 34, 3) := by decide +kernel
theorem dX10_init_62 : decode cX10_init 62 = .ok (.putfield 35, 3) := by decide +kernel
theorem dX10_init_65 : decode cX10_init 65 = .ok (.aload_n 0, 1) := by decide +kernel
theorem dX10_init_66 : decode cX10_init 66 = .ok (.new 39, 3) := by decide +kernel
theorem dX10_init_69 : decode cX10_init 69 = .ok (.dup, 1) := by decide +kernel
theorem dX10_init_70 : decode cX10_init 70 = .ok (.invokespecial 41, 3) := by decide +kernel
theorem dX10_init_73 : decode cX10_init 73 = .ok (.putfield 42, 3) := by decide +kernel
theorem dX10_init_76 : decode cX10_init 76 = .ok (.aload_n 0, 1) := by decide +kernel
theorem dX10_init_77 : decode cX10_init 77 = .ok (.new 46, 3) := by decide +kernel
theorem dX10_init_80 : decode cX10_init 80 = .ok (.dup, 1) := by decide +kernel
theorem dX10_init_81 : decode cX10_init 81 = .ok (.invokespecial 48, 3) := by decide +kernel
theorem dX10_init_84 : decode cX10_init 84 = .ok (.putfield 49, 3) := by decide +kernel
theorem dX10_init_87 : decode cX10_init 87 = .ok (.aload_n 0, 1) := by decide +kernel
theorem dX10_init_88 : decode cX10_init 88 = .ok (.new 53, 3) := by decide +kernel
theorem dX10_init_91 : decode cX10_init 91 = .ok (.dup, 1) := by decide +kernel
theorem dX10_init_92 : decode cX10_init 92 = .ok (.invokespecial 55, 3) := by decide +kernel
theorem dX10_init_95 : decode cX10_init 95 = .ok (.putfield 56, 3) := by decide +kernel
theorem dX10_init_98 : decode cX10_init 98 = .ok (.aload_n 0, 1) := by decide +kernel
theorem dX10_init_99 : decode cX10_init 99 = .ok (.new 60, 3) := by decide +kernel
theorem dX10_init_102 : decode cX10_init 102 = .ok (.dup, 1) := by decide +kernel
theorem dX10_init_103 : decode cX10_init 103 = .ok (.invokespecial 62, 3) := by decide +kernel
theorem dX10_init_106 : decode cX10_init 106 = .ok (.putfield 63, 3) := by decide +kernel
theorem dX10_init_109 : decode cX10_init 109 = .ok (.aload_n 0, 1) := by decide +kernel
theorem dX10_init_110 : decode cX10_init 110 = .ok (.new 67, 3) := by decide +kernel
theorem dX10_init_113 : decode cX10_init 113 = .ok (.dup, 1) := by decide +kernel
theorem dX10_init_114 : decode cX10_init 114 = .ok (.invokespecial 69, 3) := by decide +kernel
theorem dX10_init_117 : decode cX10_init 117 = .ok (.putfield 70, 3) := by decide +kernel
theorem dX10_init_120 : decode cX10_init 120 = .ok (.return_, 1) := by decide +kernel
theorem wo_149 : Cond.methodLink "TaleShares" 1 objectInit ∈ k_TB := k_tb 149 (by decide +kernel) rfl
theorem ni_RX10_15 : ("TaleShares", 15, yX8_init, "TaleShares") ∈ k_nM := by decide
theorem ci_X8_init : k_cardI yX8_init cX8_init 1 0 := ⟨k_tb 156 (by decide +kernel) rfl, k_tb 155 (by decide +kernel) rfl, k_tb 121 (by decide +kernel) rfl, by decide +kernel, by decide +kernel, by decide +kernel, rfl⟩
theorem ci_X5_init : k_cardI yX5_init cX5_init 3 2 := ⟨k_tb 252 (by decide +kernel) rfl, k_tb 251 (by decide +kernel) rfl, k_tb 122 (by decide +kernel) rfl, by decide +kernel, by decide +kernel, by decide +kernel, rfl⟩
theorem ni_RX10_34 : ("TaleShares", 34, yX7_init, "TaleShares") ∈ k_nM := by decide
theorem ci_X7_init : k_cardI yX7_init cX7_init 1 0 := ⟨k_tb 298 (by decide +kernel) rfl, k_tb 297 (by decide +kernel) rfl, k_tb 123 (by decide +kernel) rfl, by decide +kernel, by decide +kernel, by decide +kernel, rfl⟩
theorem ni_RX10_41 : ("TaleShares", 41, yX4_init, "TaleShares") ∈ k_nM := by decide
theorem ci_X4_init : k_cardI yX4_init cX4_init 1 0 := ⟨k_tb 316 (by decide +kernel) rfl, k_tb 315 (by decide +kernel) rfl, k_tb 124 (by decide +kernel) rfl, by decide +kernel, by decide +kernel, by decide +kernel, rfl⟩
theorem ni_RX10_48 : ("TaleShares", 48, yX9_init, "TaleShares") ∈ k_nM := by decide
theorem ci_X9_init : k_cardI yX9_init cX9_init 1 0 := ⟨k_tb 341 (by decide +kernel) rfl, k_tb 340 (by decide +kernel) rfl, k_tb 125 (by decide +kernel) rfl, by decide +kernel, by decide +kernel, by decide +kernel, rfl⟩
theorem ni_RX10_55 : ("TaleShares", 55, yX6_init, "TaleShares") ∈ k_nM := by decide
theorem ci_X6_init : k_cardI yX6_init cX6_init 1 0 := ⟨k_tb 367 (by decide +kernel) rfl, k_tb 366 (by decide +kernel) rfl, k_tb 126 (by decide +kernel) rfl, by decide +kernel, by decide +kernel, by decide +kernel, rfl⟩
theorem ni_RX10_62 : ("TaleShares", 62, yX1_init, "TaleShares") ∈ k_nM := by decide
theorem ci_X1_init : k_cardI yX1_init cX1_init 1 0 := ⟨k_tb 389 (by decide +kernel) rfl, k_tb 388 (by decide +kernel) rfl, k_tb 127 (by decide +kernel) rfl, by decide +kernel, by decide +kernel, by decide +kernel, rfl⟩
theorem ni_RX10_69 : ("TaleShares", 69, yX3_init, "TaleShares") ∈ k_nM := by decide
theorem ci_X3_init : k_cardI yX3_init cX3_init 1 0 := ⟨k_tb 404 (by decide +kernel) rfl, k_tb 403 (by decide +kernel) rfl, k_tb 128 (by decide +kernel) rfl, by decide +kernel, by decide +kernel, by decide +kernel, rfl⟩
def rm_X10_init : Room := { frames := 2, cells := 36, slots := 1462, locals := 92 }
theorem i_X10_init (l : Launch) (G : k_G) (h : Nat) : k_MV l G yX10_init cX10_init 1 rm_X10_init [(h, .inr (8, [.null, .null, .null, .null, .null, .null, .null, .null, .null, .null, .int 0, .int 0, .int 0, .int 0, .int 0]))] [.ref h] (fun u => ∃ l : List Nat, l.getD 0 0 = h ∧ u = k_WX G.2.1 (lsa l) (.ref (lsa l 10)) tz) 36 1462 := by
  refine k_startMV (lv := [(0, .ref h)]) (by decide +kernel) (Nat.le_of_ble_eq_true rfl) rfl ?_
  intro p e s m args below meth c hA hin hr
  have hA : k_Amb p s m args meth c cX10_init 1 "TaleShares" G _ := hA
  have hin : meth.name = "<init>" := hin
  refine ka_aload_n (i := 0) hA dX10_init_0 rfl 0 rfl ?_
  refine ka_objInit hA wo_149 wo_150 wo_151 (Nat.le_of_ble_eq_true rfl) (Nat.le_of_ble_eq_true rfl) dX10_init_1 ?_
  refine ka_aload_n (i := 0) hA dX10_init_4 rfl 0 rfl ?_
  refine ka_sipush hA dX10_init_5 kc_s_900 ?_
  refine ka_newB (N := 900) hA wd_246 (by decide) (by decide) (Nat.le_of_ble_eq_true rfl) (Nat.le_of_ble_eq_true rfl) (Nat.le_of_ble_eq_true rfl) dX10_init_8 (fun q0 => ?_)
  refine ka_putF (q0 := 0) (fs := [.null, .null, .null, .null, .null, .null, .null, .null, .null, .null, .int 0, .int 0, .int 0, .int 0, .int 0]) (w' := [(h, .inr (8, [.ref q0, .null, .null, .null, .null, .null, .null, .null, .null, .null, .int 0, .int 0, .int 0, .int 0, .int 0])), (q0, .inl (G.2.1 0, 900, .inl (fun _ => 0)))]) hA k_in_X10 tyX10 tyX10_ok nmX10 rfl rfl 0 (by decide) wd_432 rfl hin rfl (v := .ref q0) rfl rfl (Nat.le_of_ble_eq_true rfl) rfl dX10_init_10 ?_
  refine ka_aload_n (i := 0) hA dX10_init_13 rfl 0 rfl ?_
  refine ka_new (ci := 6) (fs := [.int 0, .int 0, .int 0, .int 0, .int 0, .int 0, .int 0, .int 0, .null, .null, .null, .null, .null, .null, .null]) hA k_in_X8 tyX8 tyX8_ok wd_152 wd_153 wd_121 rfl (fun j hj => by rcases (show j = 0 ∨ j = 1 ∨ j = 2 ∨ j = 3 ∨ j = 4 ∨ j = 5 ∨ j = 6 ∨ j = 7 ∨ j = 8 ∨ j = 9 ∨ j = 10 ∨ j = 11 ∨ j = 12 ∨ j = 13 ∨ j = 14 by omega) with rfl | rfl | rfl | rfl | rfl | rfl | rfl | rfl | rfl | rfl | rfl | rfl | rfl | rfl | rfl <;> rfl) (Nat.le_of_ble_eq_true rfl) (Nat.le_of_ble_eq_true rfl) dX10_init_14 (fun q1 => ?_)
  refine ka_dup hA dX10_init_17 rfl ?_
  refine ka_callIN (R := rm_X10_init) (cells := 2) (slots := 915) (w1 := [(h, .inr (8, [.ref q0, .null, .null, .null, .null, .null, .null, .null, .null, .null, .int 0, .int 0, .int 0, .int 0, .int 0])), (q0, .inl (G.2.1 0, 900, .inl (fun _ => 0)))]) (wc := [(q1, .inr (6, [.int 0, .int 0, .int 0, .int 0, .int 0, .int 0, .int 0, .int 0, .null, .null, .null, .null, .null, .null, .null]))]) (w2 := []) (As := []) (rest := [.ref q1, .ref h]) hA (i_X8_init l G q1) ci_X8_init ni_RX10_15 ⟨(Nat.le_of_ble_eq_true rfl), (Nat.le_of_ble_eq_true rfl)⟩ ⟨(Nat.le_of_ble_eq_true rfl), (Nat.le_of_ble_eq_true rfl)⟩ rfl rfl (Nat.le_of_ble_eq_true rfl) dX10_init_18 (fun u hu => ?_)
  obtain ⟨q2, q3, q4, q5, q6, q7, q8, rfl⟩ := hu
  refine ka_put (q0 := 0) (fs := [.ref q0, .null, .null, .null, .null, .null, .null, .null, .null, .null, .int 0, .int 0, .int 0, .int 0, .int 0]) (w' := [(h, .inr (8, [.ref q0, .null, .null, .null, .null, .null, .null, .null, .ref q1, .null, .int 0, .int 0, .int 0, .int 0, .int 0])), (q0, .inl (G.2.1 0, 900, .inl (fun _ => 0))), (q1, .inr (6, [.int 0, .int 0, .int 0, .int 0, .int 0, .int 0, .int 0, .int 0, .ref q2, .ref q3, .ref q4, .ref q5, .ref q6, .ref q7, .ref q8])), (q2, .inl (G.2.1 1, 8, .inl (fun _ => 0))), (q3, .inl (G.2.1 1, 8, .inl (fun _ => 0))), (q4, .inl (G.2.1 1, 5, .inl (fun _ => 0))), (q5, .inl (G.2.1 1, 5, .inl (fun _ => 0))), (q6, .inl (G.2.1 1, 5, .inl (fun _ => 0))), (q7, .inl (G.2.1 1, 5, .inl (fun _ => 0))), (q8, .inl (G.2.1 1, 6, .inl (fun _ => 0)))]) hA k_in_X10 tyX10 tyX10_ok nmX10 rfl rfl 8 (by decide) wd_440 rfl (v := .ref q1) rfl rfl (Nat.le_of_ble_eq_true rfl) rfl dX10_init_21 ?_
  refine ka_aload_n (i := 0) hA dX10_init_24 rfl 0 rfl ?_
  refine ka_new (ci := 6) (fs := [.int 0, .int 0, .int 0, .int 0, .int 0, .int 0, .int 0, .int 0, .null, .null, .null, .null, .null, .null, .null]) hA k_in_X8 tyX8 tyX8_ok wd_152 wd_153 wd_121 rfl (fun j hj => by rcases (show j = 0 ∨ j = 1 ∨ j = 2 ∨ j = 3 ∨ j = 4 ∨ j = 5 ∨ j = 6 ∨ j = 7 ∨ j = 8 ∨ j = 9 ∨ j = 10 ∨ j = 11 ∨ j = 12 ∨ j = 13 ∨ j = 14 by omega) with rfl | rfl | rfl | rfl | rfl | rfl | rfl | rfl | rfl | rfl | rfl | rfl | rfl | rfl | rfl <;> rfl) (Nat.le_of_ble_eq_true rfl) (Nat.le_of_ble_eq_true rfl) dX10_init_25 (fun q9 => ?_)
  refine ka_dup hA dX10_init_28 rfl ?_
  refine ka_callIN (R := rm_X10_init) (cells := 10) (slots := 972) (w1 := [(h, .inr (8, [.ref q0, .null, .null, .null, .null, .null, .null, .null, .ref q1, .null, .int 0, .int 0, .int 0, .int 0, .int 0])), (q0, .inl (G.2.1 0, 900, .inl (fun _ => 0))), (q1, .inr (6, [.int 0, .int 0, .int 0, .int 0, .int 0, .int 0, .int 0, .int 0, .ref q2, .ref q3, .ref q4, .ref q5, .ref q6, .ref q7, .ref q8])), (q2, .inl (G.2.1 1, 8, .inl (fun _ => 0))), (q3, .inl (G.2.1 1, 8, .inl (fun _ => 0))), (q4, .inl (G.2.1 1, 5, .inl (fun _ => 0))), (q5, .inl (G.2.1 1, 5, .inl (fun _ => 0))), (q6, .inl (G.2.1 1, 5, .inl (fun _ => 0))), (q7, .inl (G.2.1 1, 5, .inl (fun _ => 0))), (q8, .inl (G.2.1 1, 6, .inl (fun _ => 0)))]) (wc := [(q9, .inr (6, [.int 0, .int 0, .int 0, .int 0, .int 0, .int 0, .int 0, .int 0, .null, .null, .null, .null, .null, .null, .null]))]) (w2 := []) (As := []) (rest := [.ref q9, .ref h]) hA (i_X8_init l G q9) ci_X8_init ni_RX10_15 ⟨(Nat.le_of_ble_eq_true rfl), (Nat.le_of_ble_eq_true rfl)⟩ ⟨(Nat.le_of_ble_eq_true rfl), (Nat.le_of_ble_eq_true rfl)⟩ rfl rfl (Nat.le_of_ble_eq_true rfl) dX10_init_29 (fun u hu => ?_)
  obtain ⟨q10, q11, q12, q13, q14, q15, q16, rfl⟩ := hu
  refine ka_put (q0 := 0) (fs := [.ref q0, .null, .null, .null, .null, .null, .null, .null, .ref q1, .null, .int 0, .int 0, .int 0, .int 0, .int 0]) (w' := [(h, .inr (8, [.ref q0, .null, .null, .null, .null, .null, .null, .null, .ref q1, .ref q9, .int 0, .int 0, .int 0, .int 0, .int 0])), (q0, .inl (G.2.1 0, 900, .inl (fun _ => 0))), (q1, .inr (6, [.int 0, .int 0, .int 0, .int 0, .int 0, .int 0, .int 0, .int 0, .ref q2, .ref q3, .ref q4, .ref q5, .ref q6, .ref q7, .ref q8])), (q2, .inl (G.2.1 1, 8, .inl (fun _ => 0))), (q3, .inl (G.2.1 1, 8, .inl (fun _ => 0))), (q4, .inl (G.2.1 1, 5, .inl (fun _ => 0))), (q5, .inl (G.2.1 1, 5, .inl (fun _ => 0))), (q6, .inl (G.2.1 1, 5, .inl (fun _ => 0))), (q7, .inl (G.2.1 1, 5, .inl (fun _ => 0))), (q8, .inl (G.2.1 1, 6, .inl (fun _ => 0))), (q9, .inr (6, [.int 0, .int 0, .int 0, .int 0, .int 0, .int 0, .int 0, .int 0, .ref q10, .ref q11, .ref q12, .ref q13, .ref q14, .ref q15, .ref q16])), (q10, .inl (G.2.1 1, 8, .inl (fun _ => 0))), (q11, .inl (G.2.1 1, 8, .inl (fun _ => 0))), (q12, .inl (G.2.1 1, 5, .inl (fun _ => 0))), (q13, .inl (G.2.1 1, 5, .inl (fun _ => 0))), (q14, .inl (G.2.1 1, 5, .inl (fun _ => 0))), (q15, .inl (G.2.1 1, 5, .inl (fun _ => 0))), (q16, .inl (G.2.1 1, 6, .inl (fun _ => 0)))]) hA k_in_X10 tyX10 tyX10_ok nmX10 rfl rfl 9 (by decide) wd_441 rfl (v := .ref q9) rfl rfl (Nat.le_of_ble_eq_true rfl) rfl dX10_init_32 ?_
  refine ka_aload_n (i := 0) hA dX10_init_35 rfl 0 rfl ?_
  refine ka_new (ci := 3) (fs := [.int 0, .int 0, .null, .int 0, .int 0, .int 0, .int 0, .long 0, .int 0, .null, .null, .null]) hA k_in_X5 tyX5 tyX5_ok wd_248 wd_249 wd_122 rfl (fun j hj => by rcases (show j = 0 ∨ j = 1 ∨ j = 2 ∨ j = 3 ∨ j = 4 ∨ j = 5 ∨ j = 6 ∨ j = 7 ∨ j = 8 ∨ j = 9 ∨ j = 10 ∨ j = 11 by omega) with rfl | rfl | rfl | rfl | rfl | rfl | rfl | rfl | rfl | rfl | rfl | rfl <;> rfl) (Nat.le_of_ble_eq_true rfl) (Nat.le_of_ble_eq_true rfl) dX10_init_36 (fun q17 => ?_)
  refine ka_dup hA dX10_init_39 rfl ?_
  refine ka_aload_n (i := 0) hA dX10_init_40 rfl 0 rfl ?_
  refine ka_get (ref := "") (q0 := 0) (fs := [.ref q0, .null, .null, .null, .null, .null, .null, .null, .ref q1, .ref q9, .int 0, .int 0, .int 0, .int 0, .int 0]) hA k_in_X10 rfl rfl 0 (by decide) wd_432 (v := .ref q0) rfl dX10_init_41 ?_
  refine ka_aload_n (i := 0) hA dX10_init_44 rfl 0 rfl ?_
  refine ka_get (ref := "") (q0 := 0) (fs := [.ref q0, .null, .null, .null, .null, .null, .null, .null, .ref q1, .ref q9, .int 0, .int 0, .int 0, .int 0, .int 0]) hA k_in_X10 rfl rfl 9 (by decide) wd_441 (v := .ref q9) rfl dX10_init_45 ?_
  refine ka_callI (R := rm_X10_init) (cells := 18) (slots := 1026) (w1 := [(h, .inr (8, [.ref q0, .null, .null, .null, .null, .null, .null, .null, .ref q1, .ref q9, .int 0, .int 0, .int 0, .int 0, .int 0])), (q0, .inl (G.2.1 0, 900, .inl (fun _ => 0))), (q1, .inr (6, [.int 0, .int 0, .int 0, .int 0, .int 0, .int 0, .int 0, .int 0, .ref q2, .ref q3, .ref q4, .ref q5, .ref q6, .ref q7, .ref q8])), (q2, .inl (G.2.1 1, 8, .inl (fun _ => 0))), (q3, .inl (G.2.1 1, 8, .inl (fun _ => 0))), (q4, .inl (G.2.1 1, 5, .inl (fun _ => 0))), (q5, .inl (G.2.1 1, 5, .inl (fun _ => 0))), (q6, .inl (G.2.1 1, 5, .inl (fun _ => 0))), (q7, .inl (G.2.1 1, 5, .inl (fun _ => 0))), (q8, .inl (G.2.1 1, 6, .inl (fun _ => 0))), (q9, .inr (6, [.int 0, .int 0, .int 0, .int 0, .int 0, .int 0, .int 0, .int 0, .ref q10, .ref q11, .ref q12, .ref q13, .ref q14, .ref q15, .ref q16])), (q10, .inl (G.2.1 1, 8, .inl (fun _ => 0))), (q11, .inl (G.2.1 1, 8, .inl (fun _ => 0))), (q12, .inl (G.2.1 1, 5, .inl (fun _ => 0))), (q13, .inl (G.2.1 1, 5, .inl (fun _ => 0))), (q14, .inl (G.2.1 1, 5, .inl (fun _ => 0))), (q15, .inl (G.2.1 1, 5, .inl (fun _ => 0))), (q16, .inl (G.2.1 1, 6, .inl (fun _ => 0)))]) (wc := [(q17, .inr (3, [.int 0, .int 0, .null, .int 0, .int 0, .int 0, .int 0, .long 0, .int 0, .null, .null, .null]))]) (w2 := []) (As := [.ref q0, .ref q9]) (rest := [.ref q17, .ref h]) hA (i_X5_init l G q17 q0 q9) ci_X5_init wd_250 ⟨(Nat.le_of_ble_eq_true rfl), (Nat.le_of_ble_eq_true rfl)⟩ ⟨(Nat.le_of_ble_eq_true rfl), (Nat.le_of_ble_eq_true rfl)⟩ rfl rfl (Nat.le_of_ble_eq_true rfl) dX10_init_48 (fun u hu => ?_)
  obtain ⟨q18, q19, rfl⟩ := hu
  refine ka_putF (q0 := 0) (fs := [.ref q0, .null, .null, .null, .null, .null, .null, .null, .ref q1, .ref q9, .int 0, .int 0, .int 0, .int 0, .int 0]) (w' := [(h, .inr (8, [.ref q0, .ref q17, .null, .null, .null, .null, .null, .null, .ref q1, .ref q9, .int 0, .int 0, .int 0, .int 0, .int 0])), (q0, .inl (G.2.1 0, 900, .inl (fun _ => 0))), (q1, .inr (6, [.int 0, .int 0, .int 0, .int 0, .int 0, .int 0, .int 0, .int 0, .ref q2, .ref q3, .ref q4, .ref q5, .ref q6, .ref q7, .ref q8])), (q2, .inl (G.2.1 1, 8, .inl (fun _ => 0))), (q3, .inl (G.2.1 1, 8, .inl (fun _ => 0))), (q4, .inl (G.2.1 1, 5, .inl (fun _ => 0))), (q5, .inl (G.2.1 1, 5, .inl (fun _ => 0))), (q6, .inl (G.2.1 1, 5, .inl (fun _ => 0))), (q7, .inl (G.2.1 1, 5, .inl (fun _ => 0))), (q8, .inl (G.2.1 1, 6, .inl (fun _ => 0))), (q9, .inr (6, [.int 0, .int 0, .int 0, .int 0, .int 0, .int 0, .int 0, .int 0, .ref q10, .ref q11, .ref q12, .ref q13, .ref q14, .ref q15, .ref q16])), (q10, .inl (G.2.1 1, 8, .inl (fun _ => 0))), (q11, .inl (G.2.1 1, 8, .inl (fun _ => 0))), (q12, .inl (G.2.1 1, 5, .inl (fun _ => 0))), (q13, .inl (G.2.1 1, 5, .inl (fun _ => 0))), (q14, .inl (G.2.1 1, 5, .inl (fun _ => 0))), (q15, .inl (G.2.1 1, 5, .inl (fun _ => 0))), (q16, .inl (G.2.1 1, 6, .inl (fun _ => 0))), (q17, .inr (3, [.int 0, .int 0, .ref q0, .int 0, .int 0, .int 0, .int 0, .long 0, .int 0, .ref q9, .ref q18, .ref q19])), (q18, .inl (G.2.1 2, 8, .inr (.inl (fun _ => 0)))), (q19, .inl (G.2.1 2, 5, .inr (.inl (fun _ => 0))))]) hA k_in_X10 tyX10 tyX10_ok nmX10 rfl rfl 1 (by decide) wd_433 rfl hin rfl (v := .ref q17) rfl rfl (Nat.le_of_ble_eq_true rfl) rfl dX10_init_51 ?_
  refine ka_aload_n (i := 0) hA dX10_init_54 rfl 0 rfl ?_
  refine ka_new (ci := 5) (fs := [.int 0, .null, .null]) hA k_in_X7 tyX7 tyX7_ok wd_294 wd_295 wd_123 rfl (fun j hj => by rcases (show j = 0 ∨ j = 1 ∨ j = 2 by omega) with rfl | rfl | rfl <;> rfl) (Nat.le_of_ble_eq_true rfl) (Nat.le_of_ble_eq_true rfl) dX10_init_55 (fun q20 => ?_)
  refine ka_dup hA dX10_init_58 rfl ?_
  refine ka_callIN (R := rm_X10_init) (cells := 21) (slots := 1042) (w1 := [(h, .inr (8, [.ref q0, .ref q17, .null, .null, .null, .null, .null, .null, .ref q1, .ref q9, .int 0, .int 0, .int 0, .int 0, .int 0])), (q0, .inl (G.2.1 0, 900, .inl (fun _ => 0))), (q1, .inr (6, [.int 0, .int 0, .int 0, .int 0, .int 0, .int 0, .int 0, .int 0, .ref q2, .ref q3, .ref q4, .ref q5, .ref q6, .ref q7, .ref q8])), (q2, .inl (G.2.1 1, 8, .inl (fun _ => 0))), (q3, .inl (G.2.1 1, 8, .inl (fun _ => 0))), (q4, .inl (G.2.1 1, 5, .inl (fun _ => 0))), (q5, .inl (G.2.1 1, 5, .inl (fun _ => 0))), (q6, .inl (G.2.1 1, 5, .inl (fun _ => 0))), (q7, .inl (G.2.1 1, 5, .inl (fun _ => 0))), (q8, .inl (G.2.1 1, 6, .inl (fun _ => 0))), (q9, .inr (6, [.int 0, .int 0, .int 0, .int 0, .int 0, .int 0, .int 0, .int 0, .ref q10, .ref q11, .ref q12, .ref q13, .ref q14, .ref q15, .ref q16])), (q10, .inl (G.2.1 1, 8, .inl (fun _ => 0))), (q11, .inl (G.2.1 1, 8, .inl (fun _ => 0))), (q12, .inl (G.2.1 1, 5, .inl (fun _ => 0))), (q13, .inl (G.2.1 1, 5, .inl (fun _ => 0))), (q14, .inl (G.2.1 1, 5, .inl (fun _ => 0))), (q15, .inl (G.2.1 1, 5, .inl (fun _ => 0))), (q16, .inl (G.2.1 1, 6, .inl (fun _ => 0))), (q17, .inr (3, [.int 0, .int 0, .ref q0, .int 0, .int 0, .int 0, .int 0, .long 0, .int 0, .ref q9, .ref q18, .ref q19])), (q18, .inl (G.2.1 2, 8, .inr (.inl (fun _ => 0)))), (q19, .inl (G.2.1 2, 5, .inr (.inl (fun _ => 0))))]) (wc := [(q20, .inr (5, [.int 0, .null, .null]))]) (w2 := []) (As := []) (rest := [.ref q20, .ref h]) hA (i_X7_init l G q20) ci_X7_init ni_RX10_34 ⟨(Nat.le_of_ble_eq_true rfl), (Nat.le_of_ble_eq_true rfl)⟩ ⟨(Nat.le_of_ble_eq_true rfl), (Nat.le_of_ble_eq_true rfl)⟩ rfl rfl (Nat.le_of_ble_eq_true rfl) dX10_init_59 (fun u hu => ?_)
  obtain ⟨q21, q22, rfl⟩ := hu
  refine ka_putF (q0 := 0) (fs := [.ref q0, .ref q17, .null, .null, .null, .null, .null, .null, .ref q1, .ref q9, .int 0, .int 0, .int 0, .int 0, .int 0]) (w' := [(h, .inr (8, [.ref q0, .ref q17, .ref q20, .null, .null, .null, .null, .null, .ref q1, .ref q9, .int 0, .int 0, .int 0, .int 0, .int 0])), (q0, .inl (G.2.1 0, 900, .inl (fun _ => 0))), (q1, .inr (6, [.int 0, .int 0, .int 0, .int 0, .int 0, .int 0, .int 0, .int 0, .ref q2, .ref q3, .ref q4, .ref q5, .ref q6, .ref q7, .ref q8])), (q2, .inl (G.2.1 1, 8, .inl (fun _ => 0))), (q3, .inl (G.2.1 1, 8, .inl (fun _ => 0))), (q4, .inl (G.2.1 1, 5, .inl (fun _ => 0))), (q5, .inl (G.2.1 1, 5, .inl (fun _ => 0))), (q6, .inl (G.2.1 1, 5, .inl (fun _ => 0))), (q7, .inl (G.2.1 1, 5, .inl (fun _ => 0))), (q8, .inl (G.2.1 1, 6, .inl (fun _ => 0))), (q9, .inr (6, [.int 0, .int 0, .int 0, .int 0, .int 0, .int 0, .int 0, .int 0, .ref q10, .ref q11, .ref q12, .ref q13, .ref q14, .ref q15, .ref q16])), (q10, .inl (G.2.1 1, 8, .inl (fun _ => 0))), (q11, .inl (G.2.1 1, 8, .inl (fun _ => 0))), (q12, .inl (G.2.1 1, 5, .inl (fun _ => 0))), (q13, .inl (G.2.1 1, 5, .inl (fun _ => 0))), (q14, .inl (G.2.1 1, 5, .inl (fun _ => 0))), (q15, .inl (G.2.1 1, 5, .inl (fun _ => 0))), (q16, .inl (G.2.1 1, 6, .inl (fun _ => 0))), (q17, .inr (3, [.int 0, .int 0, .ref q0, .int 0, .int 0, .int 0, .int 0, .long 0, .int 0, .ref q9, .ref q18, .ref q19])), (q18, .inl (G.2.1 2, 8, .inr (.inl (fun _ => 0)))), (q19, .inl (G.2.1 2, 5, .inr (.inl (fun _ => 0)))), (q20, .inr (5, [.int 0, .ref q21, .ref q22])), (q21, .inl (G.2.1 1, 162, .inl (fun _ => 0))), (q22, .inl (G.2.1 1, 162, .inl (fun _ => 0)))]) hA k_in_X10 tyX10 tyX10_ok nmX10 rfl rfl 2 (by decide) wd_434 rfl hin rfl (v := .ref q20) rfl rfl (Nat.le_of_ble_eq_true rfl) rfl dX10_init_62 ?_
  refine ka_aload_n (i := 0) hA dX10_init_65 rfl 0 rfl ?_
  refine ka_new (ci := 2) (fs := [.null, .null, .int 0, .int 0, .int 0, .int 0]) hA k_in_X4 tyX4 tyX4_ok wd_312 wd_313 wd_124 rfl (fun j hj => by rcases (show j = 0 ∨ j = 1 ∨ j = 2 ∨ j = 3 ∨ j = 4 ∨ j = 5 by omega) with rfl | rfl | rfl | rfl | rfl | rfl <;> rfl) (Nat.le_of_ble_eq_true rfl) (Nat.le_of_ble_eq_true rfl) dX10_init_66 (fun q23 => ?_)
  refine ka_dup hA dX10_init_69 rfl ?_
  refine ka_callIN (R := rm_X10_init) (cells := 24) (slots := 1372) (w1 := [(h, .inr (8, [.ref q0, .ref q17, .ref q20, .null, .null, .null, .null, .null, .ref q1, .ref q9, .int 0, .int 0, .int 0, .int 0, .int 0])), (q0, .inl (G.2.1 0, 900, .inl (fun _ => 0))), (q1, .inr (6, [.int 0, .int 0, .int 0, .int 0, .int 0, .int 0, .int 0, .int 0, .ref q2, .ref q3, .ref q4, .ref q5, .ref q6, .ref q7, .ref q8])), (q2, .inl (G.2.1 1, 8, .inl (fun _ => 0))), (q3, .inl (G.2.1 1, 8, .inl (fun _ => 0))), (q4, .inl (G.2.1 1, 5, .inl (fun _ => 0))), (q5, .inl (G.2.1 1, 5, .inl (fun _ => 0))), (q6, .inl (G.2.1 1, 5, .inl (fun _ => 0))), (q7, .inl (G.2.1 1, 5, .inl (fun _ => 0))), (q8, .inl (G.2.1 1, 6, .inl (fun _ => 0))), (q9, .inr (6, [.int 0, .int 0, .int 0, .int 0, .int 0, .int 0, .int 0, .int 0, .ref q10, .ref q11, .ref q12, .ref q13, .ref q14, .ref q15, .ref q16])), (q10, .inl (G.2.1 1, 8, .inl (fun _ => 0))), (q11, .inl (G.2.1 1, 8, .inl (fun _ => 0))), (q12, .inl (G.2.1 1, 5, .inl (fun _ => 0))), (q13, .inl (G.2.1 1, 5, .inl (fun _ => 0))), (q14, .inl (G.2.1 1, 5, .inl (fun _ => 0))), (q15, .inl (G.2.1 1, 5, .inl (fun _ => 0))), (q16, .inl (G.2.1 1, 6, .inl (fun _ => 0))), (q17, .inr (3, [.int 0, .int 0, .ref q0, .int 0, .int 0, .int 0, .int 0, .long 0, .int 0, .ref q9, .ref q18, .ref q19])), (q18, .inl (G.2.1 2, 8, .inr (.inl (fun _ => 0)))), (q19, .inl (G.2.1 2, 5, .inr (.inl (fun _ => 0)))), (q20, .inr (5, [.int 0, .ref q21, .ref q22])), (q21, .inl (G.2.1 1, 162, .inl (fun _ => 0))), (q22, .inl (G.2.1 1, 162, .inl (fun _ => 0)))]) (wc := [(q23, .inr (2, [.null, .null, .int 0, .int 0, .int 0, .int 0]))]) (w2 := []) (As := []) (rest := [.ref q23, .ref h]) hA (i_X4_init l G q23) ci_X4_init ni_RX10_41 ⟨(Nat.le_of_ble_eq_true rfl), (Nat.le_of_ble_eq_true rfl)⟩ ⟨(Nat.le_of_ble_eq_true rfl), (Nat.le_of_ble_eq_true rfl)⟩ rfl rfl (Nat.le_of_ble_eq_true rfl) dX10_init_70 (fun u hu => ?_)
  obtain ⟨q24, q25, rfl⟩ := hu
  refine ka_putF (q0 := 0) (fs := [.ref q0, .ref q17, .ref q20, .null, .null, .null, .null, .null, .ref q1, .ref q9, .int 0, .int 0, .int 0, .int 0, .int 0]) (w' := [(h, .inr (8, [.ref q0, .ref q17, .ref q20, .ref q23, .null, .null, .null, .null, .ref q1, .ref q9, .int 0, .int 0, .int 0, .int 0, .int 0])), (q0, .inl (G.2.1 0, 900, .inl (fun _ => 0))), (q1, .inr (6, [.int 0, .int 0, .int 0, .int 0, .int 0, .int 0, .int 0, .int 0, .ref q2, .ref q3, .ref q4, .ref q5, .ref q6, .ref q7, .ref q8])), (q2, .inl (G.2.1 1, 8, .inl (fun _ => 0))), (q3, .inl (G.2.1 1, 8, .inl (fun _ => 0))), (q4, .inl (G.2.1 1, 5, .inl (fun _ => 0))), (q5, .inl (G.2.1 1, 5, .inl (fun _ => 0))), (q6, .inl (G.2.1 1, 5, .inl (fun _ => 0))), (q7, .inl (G.2.1 1, 5, .inl (fun _ => 0))), (q8, .inl (G.2.1 1, 6, .inl (fun _ => 0))), (q9, .inr (6, [.int 0, .int 0, .int 0, .int 0, .int 0, .int 0, .int 0, .int 0, .ref q10, .ref q11, .ref q12, .ref q13, .ref q14, .ref q15, .ref q16])), (q10, .inl (G.2.1 1, 8, .inl (fun _ => 0))), (q11, .inl (G.2.1 1, 8, .inl (fun _ => 0))), (q12, .inl (G.2.1 1, 5, .inl (fun _ => 0))), (q13, .inl (G.2.1 1, 5, .inl (fun _ => 0))), (q14, .inl (G.2.1 1, 5, .inl (fun _ => 0))), (q15, .inl (G.2.1 1, 5, .inl (fun _ => 0))), (q16, .inl (G.2.1 1, 6, .inl (fun _ => 0))), (q17, .inr (3, [.int 0, .int 0, .ref q0, .int 0, .int 0, .int 0, .int 0, .long 0, .int 0, .ref q9, .ref q18, .ref q19])), (q18, .inl (G.2.1 2, 8, .inr (.inl (fun _ => 0)))), (q19, .inl (G.2.1 2, 5, .inr (.inl (fun _ => 0)))), (q20, .inr (5, [.int 0, .ref q21, .ref q22])), (q21, .inl (G.2.1 1, 162, .inl (fun _ => 0))), (q22, .inl (G.2.1 1, 162, .inl (fun _ => 0))), (q23, .inr (2, [.ref q24, .ref q25, .int 0, .int 0, .int 0, .int 0])), (q24, .inl (G.2.1 1, 26, .inl (fun _ => 0))), (q25, .inl (G.2.1 1, 3, .inl (fun _ => 0)))]) hA k_in_X10 tyX10 tyX10_ok nmX10 rfl rfl 3 (by decide) wd_435 rfl hin rfl (v := .ref q23) rfl rfl (Nat.le_of_ble_eq_true rfl) rfl dX10_init_73 ?_
  refine ka_aload_n (i := 0) hA dX10_init_76 rfl 0 rfl ?_
  refine ka_new (ci := 7) (fs := [.int 0, .int 0, .null, .null, .null]) hA k_in_X9 tyX9 tyX9_ok wd_337 wd_338 wd_125 rfl (fun j hj => by rcases (show j = 0 ∨ j = 1 ∨ j = 2 ∨ j = 3 ∨ j = 4 by omega) with rfl | rfl | rfl | rfl | rfl <;> rfl) (Nat.le_of_ble_eq_true rfl) (Nat.le_of_ble_eq_true rfl) dX10_init_77 (fun q26 => ?_)
  refine ka_dup hA dX10_init_80 rfl ?_
  refine ka_callIN (R := rm_X10_init) (cells := 27) (slots := 1406) (w1 := [(h, .inr (8, [.ref q0, .ref q17, .ref q20, .ref q23, .null, .null, .null, .null, .ref q1, .ref q9, .int 0, .int 0, .int 0, .int 0, .int 0])), (q0, .inl (G.2.1 0, 900, .inl (fun _ => 0))), (q1, .inr (6, [.int 0, .int 0, .int 0, .int 0, .int 0, .int 0, .int 0, .int 0, .ref q2, .ref q3, .ref q4, .ref q5, .ref q6, .ref q7, .ref q8])), (q2, .inl (G.2.1 1, 8, .inl (fun _ => 0))), (q3, .inl (G.2.1 1, 8, .inl (fun _ => 0))), (q4, .inl (G.2.1 1, 5, .inl (fun _ => 0))), (q5, .inl (G.2.1 1, 5, .inl (fun _ => 0))), (q6, .inl (G.2.1 1, 5, .inl (fun _ => 0))), (q7, .inl (G.2.1 1, 5, .inl (fun _ => 0))), (q8, .inl (G.2.1 1, 6, .inl (fun _ => 0))), (q9, .inr (6, [.int 0, .int 0, .int 0, .int 0, .int 0, .int 0, .int 0, .int 0, .ref q10, .ref q11, .ref q12, .ref q13, .ref q14, .ref q15, .ref q16])), (q10, .inl (G.2.1 1, 8, .inl (fun _ => 0))), (q11, .inl (G.2.1 1, 8, .inl (fun _ => 0))), (q12, .inl (G.2.1 1, 5, .inl (fun _ => 0))), (q13, .inl (G.2.1 1, 5, .inl (fun _ => 0))), (q14, .inl (G.2.1 1, 5, .inl (fun _ => 0))), (q15, .inl (G.2.1 1, 5, .inl (fun _ => 0))), (q16, .inl (G.2.1 1, 6, .inl (fun _ => 0))), (q17, .inr (3, [.int 0, .int 0, .ref q0, .int 0, .int 0, .int 0, .int 0, .long 0, .int 0, .ref q9, .ref q18, .ref q19])), (q18, .inl (G.2.1 2, 8, .inr (.inl (fun _ => 0)))), (q19, .inl (G.2.1 2, 5, .inr (.inl (fun _ => 0)))), (q20, .inr (5, [.int 0, .ref q21, .ref q22])), (q21, .inl (G.2.1 1, 162, .inl (fun _ => 0))), (q22, .inl (G.2.1 1, 162, .inl (fun _ => 0))), (q23, .inr (2, [.ref q24, .ref q25, .int 0, .int 0, .int 0, .int 0])), (q24, .inl (G.2.1 1, 26, .inl (fun _ => 0))), (q25, .inl (G.2.1 1, 3, .inl (fun _ => 0)))]) (wc := [(q26, .inr (7, [.int 0, .int 0, .null, .null, .null]))]) (w2 := []) (As := []) (rest := [.ref q26, .ref h]) hA (i_X9_init l G q26) ci_X9_init ni_RX10_48 ⟨(Nat.le_of_ble_eq_true rfl), (Nat.le_of_ble_eq_true rfl)⟩ ⟨(Nat.le_of_ble_eq_true rfl), (Nat.le_of_ble_eq_true rfl)⟩ rfl rfl (Nat.le_of_ble_eq_true rfl) dX10_init_81 (fun u hu => ?_)
  obtain ⟨q27, q28, q29, rfl⟩ := hu
  refine ka_putF (q0 := 0) (fs := [.ref q0, .ref q17, .ref q20, .ref q23, .null, .null, .null, .null, .ref q1, .ref q9, .int 0, .int 0, .int 0, .int 0, .int 0]) (w' := [(h, .inr (8, [.ref q0, .ref q17, .ref q20, .ref q23, .ref q26, .null, .null, .null, .ref q1, .ref q9, .int 0, .int 0, .int 0, .int 0, .int 0])), (q0, .inl (G.2.1 0, 900, .inl (fun _ => 0))), (q1, .inr (6, [.int 0, .int 0, .int 0, .int 0, .int 0, .int 0, .int 0, .int 0, .ref q2, .ref q3, .ref q4, .ref q5, .ref q6, .ref q7, .ref q8])), (q2, .inl (G.2.1 1, 8, .inl (fun _ => 0))), (q3, .inl (G.2.1 1, 8, .inl (fun _ => 0))), (q4, .inl (G.2.1 1, 5, .inl (fun _ => 0))), (q5, .inl (G.2.1 1, 5, .inl (fun _ => 0))), (q6, .inl (G.2.1 1, 5, .inl (fun _ => 0))), (q7, .inl (G.2.1 1, 5, .inl (fun _ => 0))), (q8, .inl (G.2.1 1, 6, .inl (fun _ => 0))), (q9, .inr (6, [.int 0, .int 0, .int 0, .int 0, .int 0, .int 0, .int 0, .int 0, .ref q10, .ref q11, .ref q12, .ref q13, .ref q14, .ref q15, .ref q16])), (q10, .inl (G.2.1 1, 8, .inl (fun _ => 0))), (q11, .inl (G.2.1 1, 8, .inl (fun _ => 0))), (q12, .inl (G.2.1 1, 5, .inl (fun _ => 0))), (q13, .inl (G.2.1 1, 5, .inl (fun _ => 0))), (q14, .inl (G.2.1 1, 5, .inl (fun _ => 0))), (q15, .inl (G.2.1 1, 5, .inl (fun _ => 0))), (q16, .inl (G.2.1 1, 6, .inl (fun _ => 0))), (q17, .inr (3, [.int 0, .int 0, .ref q0, .int 0, .int 0, .int 0, .int 0, .long 0, .int 0, .ref q9, .ref q18, .ref q19])), (q18, .inl (G.2.1 2, 8, .inr (.inl (fun _ => 0)))), (q19, .inl (G.2.1 2, 5, .inr (.inl (fun _ => 0)))), (q20, .inr (5, [.int 0, .ref q21, .ref q22])), (q21, .inl (G.2.1 1, 162, .inl (fun _ => 0))), (q22, .inl (G.2.1 1, 162, .inl (fun _ => 0))), (q23, .inr (2, [.ref q24, .ref q25, .int 0, .int 0, .int 0, .int 0])), (q24, .inl (G.2.1 1, 26, .inl (fun _ => 0))), (q25, .inl (G.2.1 1, 3, .inl (fun _ => 0))), (q26, .inr (7, [.int 0, .int 0, .ref q27, .ref q28, .ref q29])), (q27, .inl (G.2.1 1, 5, .inl (fun _ => 0))), (q28, .inl (G.2.1 1, 5, .inl (fun _ => 0))), (q29, .inl (G.2.1 1, 5, .inl (fun _ => 0)))]) hA k_in_X10 tyX10 tyX10_ok nmX10 rfl rfl 4 (by decide) wd_436 rfl hin rfl (v := .ref q26) rfl rfl (Nat.le_of_ble_eq_true rfl) rfl dX10_init_84 ?_
  refine ka_aload_n (i := 0) hA dX10_init_87 rfl 0 rfl ?_
  refine ka_new (ci := 4) (fs := [.int 0, .int 0, .int 0, .null]) hA k_in_X6 tyX6 tyX6_ok wd_363 wd_364 wd_126 rfl (fun j hj => by rcases (show j = 0 ∨ j = 1 ∨ j = 2 ∨ j = 3 by omega) with rfl | rfl | rfl | rfl <;> rfl) (Nat.le_of_ble_eq_true rfl) (Nat.le_of_ble_eq_true rfl) dX10_init_88 (fun q30 => ?_)
  refine ka_dup hA dX10_init_91 rfl ?_
  refine ka_callIN (R := rm_X10_init) (cells := 31) (slots := 1425) (w1 := [(h, .inr (8, [.ref q0, .ref q17, .ref q20, .ref q23, .ref q26, .null, .null, .null, .ref q1, .ref q9, .int 0, .int 0, .int 0, .int 0, .int 0])), (q0, .inl (G.2.1 0, 900, .inl (fun _ => 0))), (q1, .inr (6, [.int 0, .int 0, .int 0, .int 0, .int 0, .int 0, .int 0, .int 0, .ref q2, .ref q3, .ref q4, .ref q5, .ref q6, .ref q7, .ref q8])), (q2, .inl (G.2.1 1, 8, .inl (fun _ => 0))), (q3, .inl (G.2.1 1, 8, .inl (fun _ => 0))), (q4, .inl (G.2.1 1, 5, .inl (fun _ => 0))), (q5, .inl (G.2.1 1, 5, .inl (fun _ => 0))), (q6, .inl (G.2.1 1, 5, .inl (fun _ => 0))), (q7, .inl (G.2.1 1, 5, .inl (fun _ => 0))), (q8, .inl (G.2.1 1, 6, .inl (fun _ => 0))), (q9, .inr (6, [.int 0, .int 0, .int 0, .int 0, .int 0, .int 0, .int 0, .int 0, .ref q10, .ref q11, .ref q12, .ref q13, .ref q14, .ref q15, .ref q16])), (q10, .inl (G.2.1 1, 8, .inl (fun _ => 0))), (q11, .inl (G.2.1 1, 8, .inl (fun _ => 0))), (q12, .inl (G.2.1 1, 5, .inl (fun _ => 0))), (q13, .inl (G.2.1 1, 5, .inl (fun _ => 0))), (q14, .inl (G.2.1 1, 5, .inl (fun _ => 0))), (q15, .inl (G.2.1 1, 5, .inl (fun _ => 0))), (q16, .inl (G.2.1 1, 6, .inl (fun _ => 0))), (q17, .inr (3, [.int 0, .int 0, .ref q0, .int 0, .int 0, .int 0, .int 0, .long 0, .int 0, .ref q9, .ref q18, .ref q19])), (q18, .inl (G.2.1 2, 8, .inr (.inl (fun _ => 0)))), (q19, .inl (G.2.1 2, 5, .inr (.inl (fun _ => 0)))), (q20, .inr (5, [.int 0, .ref q21, .ref q22])), (q21, .inl (G.2.1 1, 162, .inl (fun _ => 0))), (q22, .inl (G.2.1 1, 162, .inl (fun _ => 0))), (q23, .inr (2, [.ref q24, .ref q25, .int 0, .int 0, .int 0, .int 0])), (q24, .inl (G.2.1 1, 26, .inl (fun _ => 0))), (q25, .inl (G.2.1 1, 3, .inl (fun _ => 0))), (q26, .inr (7, [.int 0, .int 0, .ref q27, .ref q28, .ref q29])), (q27, .inl (G.2.1 1, 5, .inl (fun _ => 0))), (q28, .inl (G.2.1 1, 5, .inl (fun _ => 0))), (q29, .inl (G.2.1 1, 5, .inl (fun _ => 0)))]) (wc := [(q30, .inr (4, [.int 0, .int 0, .int 0, .null]))]) (w2 := []) (As := []) (rest := [.ref q30, .ref h]) hA (i_X6_init l G q30) ci_X6_init ni_RX10_55 ⟨(Nat.le_of_ble_eq_true rfl), (Nat.le_of_ble_eq_true rfl)⟩ ⟨(Nat.le_of_ble_eq_true rfl), (Nat.le_of_ble_eq_true rfl)⟩ rfl rfl (Nat.le_of_ble_eq_true rfl) dX10_init_92 (fun u hu => ?_)
  obtain ⟨q31, rfl⟩ := hu
  refine ka_putF (q0 := 0) (fs := [.ref q0, .ref q17, .ref q20, .ref q23, .ref q26, .null, .null, .null, .ref q1, .ref q9, .int 0, .int 0, .int 0, .int 0, .int 0]) (w' := [(h, .inr (8, [.ref q0, .ref q17, .ref q20, .ref q23, .ref q26, .ref q30, .null, .null, .ref q1, .ref q9, .int 0, .int 0, .int 0, .int 0, .int 0])), (q0, .inl (G.2.1 0, 900, .inl (fun _ => 0))), (q1, .inr (6, [.int 0, .int 0, .int 0, .int 0, .int 0, .int 0, .int 0, .int 0, .ref q2, .ref q3, .ref q4, .ref q5, .ref q6, .ref q7, .ref q8])), (q2, .inl (G.2.1 1, 8, .inl (fun _ => 0))), (q3, .inl (G.2.1 1, 8, .inl (fun _ => 0))), (q4, .inl (G.2.1 1, 5, .inl (fun _ => 0))), (q5, .inl (G.2.1 1, 5, .inl (fun _ => 0))), (q6, .inl (G.2.1 1, 5, .inl (fun _ => 0))), (q7, .inl (G.2.1 1, 5, .inl (fun _ => 0))), (q8, .inl (G.2.1 1, 6, .inl (fun _ => 0))), (q9, .inr (6, [.int 0, .int 0, .int 0, .int 0, .int 0, .int 0, .int 0, .int 0, .ref q10, .ref q11, .ref q12, .ref q13, .ref q14, .ref q15, .ref q16])), (q10, .inl (G.2.1 1, 8, .inl (fun _ => 0))), (q11, .inl (G.2.1 1, 8, .inl (fun _ => 0))), (q12, .inl (G.2.1 1, 5, .inl (fun _ => 0))), (q13, .inl (G.2.1 1, 5, .inl (fun _ => 0))), (q14, .inl (G.2.1 1, 5, .inl (fun _ => 0))), (q15, .inl (G.2.1 1, 5, .inl (fun _ => 0))), (q16, .inl (G.2.1 1, 6, .inl (fun _ => 0))), (q17, .inr (3, [.int 0, .int 0, .ref q0, .int 0, .int 0, .int 0, .int 0, .long 0, .int 0, .ref q9, .ref q18, .ref q19])), (q18, .inl (G.2.1 2, 8, .inr (.inl (fun _ => 0)))), (q19, .inl (G.2.1 2, 5, .inr (.inl (fun _ => 0)))), (q20, .inr (5, [.int 0, .ref q21, .ref q22])), (q21, .inl (G.2.1 1, 162, .inl (fun _ => 0))), (q22, .inl (G.2.1 1, 162, .inl (fun _ => 0))), (q23, .inr (2, [.ref q24, .ref q25, .int 0, .int 0, .int 0, .int 0])), (q24, .inl (G.2.1 1, 26, .inl (fun _ => 0))), (q25, .inl (G.2.1 1, 3, .inl (fun _ => 0))), (q26, .inr (7, [.int 0, .int 0, .ref q27, .ref q28, .ref q29])), (q27, .inl (G.2.1 1, 5, .inl (fun _ => 0))), (q28, .inl (G.2.1 1, 5, .inl (fun _ => 0))), (q29, .inl (G.2.1 1, 5, .inl (fun _ => 0))), (q30, .inr (4, [.int 0, .int 0, .int 0, .ref q31])), (q31, .inl (G.2.1 1, 9, .inl (fun _ => 0)))]) hA k_in_X10 tyX10 tyX10_ok nmX10 rfl rfl 5 (by decide) wd_437 rfl hin rfl (v := .ref q30) rfl rfl (Nat.le_of_ble_eq_true rfl) rfl dX10_init_95 ?_
  refine ka_aload_n (i := 0) hA dX10_init_98 rfl 0 rfl ?_
  refine ka_new (ci := 0) (fs := [.int 0, .int 0]) hA k_in_X1 tyX1 tyX1_ok wd_385 wd_386 wd_127 rfl (fun j hj => by rcases (show j = 0 ∨ j = 1 by omega) with rfl | rfl <;> rfl) (Nat.le_of_ble_eq_true rfl) (Nat.le_of_ble_eq_true rfl) dX10_init_99 (fun q32 => ?_)
  refine ka_dup hA dX10_init_102 rfl ?_
  refine ka_callIN (R := rm_X10_init) (cells := 33) (slots := 1436) (w1 := [(h, .inr (8, [.ref q0, .ref q17, .ref q20, .ref q23, .ref q26, .ref q30, .null, .null, .ref q1, .ref q9, .int 0, .int 0, .int 0, .int 0, .int 0])), (q0, .inl (G.2.1 0, 900, .inl (fun _ => 0))), (q1, .inr (6, [.int 0, .int 0, .int 0, .int 0, .int 0, .int 0, .int 0, .int 0, .ref q2, .ref q3, .ref q4, .ref q5, .ref q6, .ref q7, .ref q8])), (q2, .inl (G.2.1 1, 8, .inl (fun _ => 0))), (q3, .inl (G.2.1 1, 8, .inl (fun _ => 0))), (q4, .inl (G.2.1 1, 5, .inl (fun _ => 0))), (q5, .inl (G.2.1 1, 5, .inl (fun _ => 0))), (q6, .inl (G.2.1 1, 5, .inl (fun _ => 0))), (q7, .inl (G.2.1 1, 5, .inl (fun _ => 0))), (q8, .inl (G.2.1 1, 6, .inl (fun _ => 0))), (q9, .inr (6, [.int 0, .int 0, .int 0, .int 0, .int 0, .int 0, .int 0, .int 0, .ref q10, .ref q11, .ref q12, .ref q13, .ref q14, .ref q15, .ref q16])), (q10, .inl (G.2.1 1, 8, .inl (fun _ => 0))), (q11, .inl (G.2.1 1, 8, .inl (fun _ => 0))), (q12, .inl (G.2.1 1, 5, .inl (fun _ => 0))), (q13, .inl (G.2.1 1, 5, .inl (fun _ => 0))), (q14, .inl (G.2.1 1, 5, .inl (fun _ => 0))), (q15, .inl (G.2.1 1, 5, .inl (fun _ => 0))), (q16, .inl (G.2.1 1, 6, .inl (fun _ => 0))), (q17, .inr (3, [.int 0, .int 0, .ref q0, .int 0, .int 0, .int 0, .int 0, .long 0, .int 0, .ref q9, .ref q18, .ref q19])), (q18, .inl (G.2.1 2, 8, .inr (.inl (fun _ => 0)))), (q19, .inl (G.2.1 2, 5, .inr (.inl (fun _ => 0)))), (q20, .inr (5, [.int 0, .ref q21, .ref q22])), (q21, .inl (G.2.1 1, 162, .inl (fun _ => 0))), (q22, .inl (G.2.1 1, 162, .inl (fun _ => 0))), (q23, .inr (2, [.ref q24, .ref q25, .int 0, .int 0, .int 0, .int 0])), (q24, .inl (G.2.1 1, 26, .inl (fun _ => 0))), (q25, .inl (G.2.1 1, 3, .inl (fun _ => 0))), (q26, .inr (7, [.int 0, .int 0, .ref q27, .ref q28, .ref q29])), (q27, .inl (G.2.1 1, 5, .inl (fun _ => 0))), (q28, .inl (G.2.1 1, 5, .inl (fun _ => 0))), (q29, .inl (G.2.1 1, 5, .inl (fun _ => 0))), (q30, .inr (4, [.int 0, .int 0, .int 0, .ref q31])), (q31, .inl (G.2.1 1, 9, .inl (fun _ => 0)))]) (wc := [(q32, .inr (0, [.int 0, .int 0]))]) (w2 := []) (As := []) (rest := [.ref q32, .ref h]) hA (i_X1_init l G q32) ci_X1_init ni_RX10_62 ⟨(Nat.le_of_ble_eq_true rfl), (Nat.le_of_ble_eq_true rfl)⟩ ⟨(Nat.le_of_ble_eq_true rfl), (Nat.le_of_ble_eq_true rfl)⟩ rfl rfl (Nat.le_of_ble_eq_true rfl) dX10_init_103 (fun u hu => ?_)
  obtain ⟨rfl⟩ := hu
  refine ka_putF (q0 := 0) (fs := [.ref q0, .ref q17, .ref q20, .ref q23, .ref q26, .ref q30, .null, .null, .ref q1, .ref q9, .int 0, .int 0, .int 0, .int 0, .int 0]) (w' := [(h, .inr (8, [.ref q0, .ref q17, .ref q20, .ref q23, .ref q26, .ref q30, .ref q32, .null, .ref q1, .ref q9, .int 0, .int 0, .int 0, .int 0, .int 0])), (q0, .inl (G.2.1 0, 900, .inl (fun _ => 0))), (q1, .inr (6, [.int 0, .int 0, .int 0, .int 0, .int 0, .int 0, .int 0, .int 0, .ref q2, .ref q3, .ref q4, .ref q5, .ref q6, .ref q7, .ref q8])), (q2, .inl (G.2.1 1, 8, .inl (fun _ => 0))), (q3, .inl (G.2.1 1, 8, .inl (fun _ => 0))), (q4, .inl (G.2.1 1, 5, .inl (fun _ => 0))), (q5, .inl (G.2.1 1, 5, .inl (fun _ => 0))), (q6, .inl (G.2.1 1, 5, .inl (fun _ => 0))), (q7, .inl (G.2.1 1, 5, .inl (fun _ => 0))), (q8, .inl (G.2.1 1, 6, .inl (fun _ => 0))), (q9, .inr (6, [.int 0, .int 0, .int 0, .int 0, .int 0, .int 0, .int 0, .int 0, .ref q10, .ref q11, .ref q12, .ref q13, .ref q14, .ref q15, .ref q16])), (q10, .inl (G.2.1 1, 8, .inl (fun _ => 0))), (q11, .inl (G.2.1 1, 8, .inl (fun _ => 0))), (q12, .inl (G.2.1 1, 5, .inl (fun _ => 0))), (q13, .inl (G.2.1 1, 5, .inl (fun _ => 0))), (q14, .inl (G.2.1 1, 5, .inl (fun _ => 0))), (q15, .inl (G.2.1 1, 5, .inl (fun _ => 0))), (q16, .inl (G.2.1 1, 6, .inl (fun _ => 0))), (q17, .inr (3, [.int 0, .int 0, .ref q0, .int 0, .int 0, .int 0, .int 0, .long 0, .int 0, .ref q9, .ref q18, .ref q19])), (q18, .inl (G.2.1 2, 8, .inr (.inl (fun _ => 0)))), (q19, .inl (G.2.1 2, 5, .inr (.inl (fun _ => 0)))), (q20, .inr (5, [.int 0, .ref q21, .ref q22])), (q21, .inl (G.2.1 1, 162, .inl (fun _ => 0))), (q22, .inl (G.2.1 1, 162, .inl (fun _ => 0))), (q23, .inr (2, [.ref q24, .ref q25, .int 0, .int 0, .int 0, .int 0])), (q24, .inl (G.2.1 1, 26, .inl (fun _ => 0))), (q25, .inl (G.2.1 1, 3, .inl (fun _ => 0))), (q26, .inr (7, [.int 0, .int 0, .ref q27, .ref q28, .ref q29])), (q27, .inl (G.2.1 1, 5, .inl (fun _ => 0))), (q28, .inl (G.2.1 1, 5, .inl (fun _ => 0))), (q29, .inl (G.2.1 1, 5, .inl (fun _ => 0))), (q30, .inr (4, [.int 0, .int 0, .int 0, .ref q31])), (q31, .inl (G.2.1 1, 9, .inl (fun _ => 0))), (q32, .inr (0, [.int 0, .int 0]))]) hA k_in_X10 tyX10 tyX10_ok nmX10 rfl rfl 6 (by decide) wd_438 rfl hin rfl (v := .ref q32) rfl rfl (Nat.le_of_ble_eq_true rfl) rfl dX10_init_106 ?_
  refine ka_aload_n (i := 0) hA dX10_init_109 rfl 0 rfl ?_
  refine ka_new (ci := 1) (fs := [.long 0, .int 0, .int 0, .int 0, .int 0, .null, .null]) hA k_in_X3 tyX3 tyX3_ok wd_400 wd_401 wd_128 rfl (fun j hj => by rcases (show j = 0 ∨ j = 1 ∨ j = 2 ∨ j = 3 ∨ j = 4 ∨ j = 5 ∨ j = 6 by omega) with rfl | rfl | rfl | rfl | rfl | rfl | rfl <;> rfl) (Nat.le_of_ble_eq_true rfl) (Nat.le_of_ble_eq_true rfl) dX10_init_110 (fun q33 => ?_)
  refine ka_dup hA dX10_init_113 rfl ?_
  refine ka_callIN (R := rm_X10_init) (cells := 34) (slots := 1443) (w1 := [(h, .inr (8, [.ref q0, .ref q17, .ref q20, .ref q23, .ref q26, .ref q30, .ref q32, .null, .ref q1, .ref q9, .int 0, .int 0, .int 0, .int 0, .int 0])), (q0, .inl (G.2.1 0, 900, .inl (fun _ => 0))), (q1, .inr (6, [.int 0, .int 0, .int 0, .int 0, .int 0, .int 0, .int 0, .int 0, .ref q2, .ref q3, .ref q4, .ref q5, .ref q6, .ref q7, .ref q8])), (q2, .inl (G.2.1 1, 8, .inl (fun _ => 0))), (q3, .inl (G.2.1 1, 8, .inl (fun _ => 0))), (q4, .inl (G.2.1 1, 5, .inl (fun _ => 0))), (q5, .inl (G.2.1 1, 5, .inl (fun _ => 0))), (q6, .inl (G.2.1 1, 5, .inl (fun _ => 0))), (q7, .inl (G.2.1 1, 5, .inl (fun _ => 0))), (q8, .inl (G.2.1 1, 6, .inl (fun _ => 0))), (q9, .inr (6, [.int 0, .int 0, .int 0, .int 0, .int 0, .int 0, .int 0, .int 0, .ref q10, .ref q11, .ref q12, .ref q13, .ref q14, .ref q15, .ref q16])), (q10, .inl (G.2.1 1, 8, .inl (fun _ => 0))), (q11, .inl (G.2.1 1, 8, .inl (fun _ => 0))), (q12, .inl (G.2.1 1, 5, .inl (fun _ => 0))), (q13, .inl (G.2.1 1, 5, .inl (fun _ => 0))), (q14, .inl (G.2.1 1, 5, .inl (fun _ => 0))), (q15, .inl (G.2.1 1, 5, .inl (fun _ => 0))), (q16, .inl (G.2.1 1, 6, .inl (fun _ => 0))), (q17, .inr (3, [.int 0, .int 0, .ref q0, .int 0, .int 0, .int 0, .int 0, .long 0, .int 0, .ref q9, .ref q18, .ref q19])), (q18, .inl (G.2.1 2, 8, .inr (.inl (fun _ => 0)))), (q19, .inl (G.2.1 2, 5, .inr (.inl (fun _ => 0)))), (q20, .inr (5, [.int 0, .ref q21, .ref q22])), (q21, .inl (G.2.1 1, 162, .inl (fun _ => 0))), (q22, .inl (G.2.1 1, 162, .inl (fun _ => 0))), (q23, .inr (2, [.ref q24, .ref q25, .int 0, .int 0, .int 0, .int 0])), (q24, .inl (G.2.1 1, 26, .inl (fun _ => 0))), (q25, .inl (G.2.1 1, 3, .inl (fun _ => 0))), (q26, .inr (7, [.int 0, .int 0, .ref q27, .ref q28, .ref q29])), (q27, .inl (G.2.1 1, 5, .inl (fun _ => 0))), (q28, .inl (G.2.1 1, 5, .inl (fun _ => 0))), (q29, .inl (G.2.1 1, 5, .inl (fun _ => 0))), (q30, .inr (4, [.int 0, .int 0, .int 0, .ref q31])), (q31, .inl (G.2.1 1, 9, .inl (fun _ => 0))), (q32, .inr (0, [.int 0, .int 0]))]) (wc := [(q33, .inr (1, [.long 0, .int 0, .int 0, .int 0, .int 0, .null, .null]))]) (w2 := []) (As := []) (rest := [.ref q33, .ref h]) hA (i_X3_init l G q33) ci_X3_init ni_RX10_69 ⟨(Nat.le_of_ble_eq_true rfl), (Nat.le_of_ble_eq_true rfl)⟩ ⟨(Nat.le_of_ble_eq_true rfl), (Nat.le_of_ble_eq_true rfl)⟩ rfl rfl (Nat.le_of_ble_eq_true rfl) dX10_init_114 (fun u hu => ?_)
  obtain ⟨q34, q35, rfl⟩ := hu
  refine ka_putF (q0 := 0) (fs := [.ref q0, .ref q17, .ref q20, .ref q23, .ref q26, .ref q30, .ref q32, .null, .ref q1, .ref q9, .int 0, .int 0, .int 0, .int 0, .int 0]) (w' := [(h, .inr (8, [.ref q0, .ref q17, .ref q20, .ref q23, .ref q26, .ref q30, .ref q32, .ref q33, .ref q1, .ref q9, .int 0, .int 0, .int 0, .int 0, .int 0])), (q0, .inl (G.2.1 0, 900, .inl (fun _ => 0))), (q1, .inr (6, [.int 0, .int 0, .int 0, .int 0, .int 0, .int 0, .int 0, .int 0, .ref q2, .ref q3, .ref q4, .ref q5, .ref q6, .ref q7, .ref q8])), (q2, .inl (G.2.1 1, 8, .inl (fun _ => 0))), (q3, .inl (G.2.1 1, 8, .inl (fun _ => 0))), (q4, .inl (G.2.1 1, 5, .inl (fun _ => 0))), (q5, .inl (G.2.1 1, 5, .inl (fun _ => 0))), (q6, .inl (G.2.1 1, 5, .inl (fun _ => 0))), (q7, .inl (G.2.1 1, 5, .inl (fun _ => 0))), (q8, .inl (G.2.1 1, 6, .inl (fun _ => 0))), (q9, .inr (6, [.int 0, .int 0, .int 0, .int 0, .int 0, .int 0, .int 0, .int 0, .ref q10, .ref q11, .ref q12, .ref q13, .ref q14, .ref q15, .ref q16])), (q10, .inl (G.2.1 1, 8, .inl (fun _ => 0))), (q11, .inl (G.2.1 1, 8, .inl (fun _ => 0))), (q12, .inl (G.2.1 1, 5, .inl (fun _ => 0))), (q13, .inl (G.2.1 1, 5, .inl (fun _ => 0))), (q14, .inl (G.2.1 1, 5, .inl (fun _ => 0))), (q15, .inl (G.2.1 1, 5, .inl (fun _ => 0))), (q16, .inl (G.2.1 1, 6, .inl (fun _ => 0))), (q17, .inr (3, [.int 0, .int 0, .ref q0, .int 0, .int 0, .int 0, .int 0, .long 0, .int 0, .ref q9, .ref q18, .ref q19])), (q18, .inl (G.2.1 2, 8, .inr (.inl (fun _ => 0)))), (q19, .inl (G.2.1 2, 5, .inr (.inl (fun _ => 0)))), (q20, .inr (5, [.int 0, .ref q21, .ref q22])), (q21, .inl (G.2.1 1, 162, .inl (fun _ => 0))), (q22, .inl (G.2.1 1, 162, .inl (fun _ => 0))), (q23, .inr (2, [.ref q24, .ref q25, .int 0, .int 0, .int 0, .int 0])), (q24, .inl (G.2.1 1, 26, .inl (fun _ => 0))), (q25, .inl (G.2.1 1, 3, .inl (fun _ => 0))), (q26, .inr (7, [.int 0, .int 0, .ref q27, .ref q28, .ref q29])), (q27, .inl (G.2.1 1, 5, .inl (fun _ => 0))), (q28, .inl (G.2.1 1, 5, .inl (fun _ => 0))), (q29, .inl (G.2.1 1, 5, .inl (fun _ => 0))), (q30, .inr (4, [.int 0, .int 0, .int 0, .ref q31])), (q31, .inl (G.2.1 1, 9, .inl (fun _ => 0))), (q32, .inr (0, [.int 0, .int 0])), (q33, .inr (1, [.long 0, .int 0, .int 0, .int 0, .int 0, .ref q34, .ref q35])), (q34, .inl (G.2.1 2, 16, .inr (.inl (fun _ => 0)))), (q35, .inl (G.2.1 2, 3, .inr (.inl (fun _ => 0))))]) hA k_in_X10 tyX10 tyX10_ok nmX10 rfl rfl 7 (by decide) wd_439 rfl hin rfl (v := .ref q33) rfl rfl (Nat.le_of_ble_eq_true rfl) rfl dX10_init_117 ?_
  exact ka_vret hA hr ⟨[h, q0, q1, q2, q3, q4, q5, q6, q7, q8, q9, q10, q11, q12, q13, q14, q15, q16, q17, q18, q19, q20, q21, q22, q23, q24, q25, q26, q27, q28, q29, q30, q31, q32, q33, q34, q35], rfl, rfl⟩ dX10_init_120
theorem dX12_init_0 : decode cX12_init 0 = .ok (.aload_n 0, 1) := by decide +kernel
theorem dX12_init_1 : decode cX12_init 1 = .ok (.invokespecial 3, 3) := by decide +kernel
theorem dX12_init_4 : decode cX12_init 4 = .ok (.aload_n 0, 1) := by decide +kernel
theorem dX12_init_5 : decode cX12_init 5 = .ok (.iconst (-1), 1) := by decide +kernel
theorem dX12_init_6 : decode cX12_init 6 = .ok (.putfield 9, 3) := by decide +kernel
theorem dX12_init_9 : decode cX12_init 9 = .ok (.aload_n 0, 1) := by decide +kernel
theorem dX12_init_10 : decode cX12_init 10 = .ok (.sipush 900, 3) := by decide +kernel
theorem dX12_init_13 : decode cX12_init 13 = .ok (.newarray .byte, 2) := by decide +kernel
theorem dX12_init_15 : decode cX12_init 15 = .ok (.putfield 13, 3) := by decide +kernel
theorem dX12_init_18 : decode cX12_init 18 = .ok (.aload_n 0, 1) := by decide +kernel
theorem dX12_init_19 : decode cX12_init 19 = .ok (.bipush 6, 2) := by decide +kernel
theorem dX12_init_21 : decode cX12_init 21 = .ok (.newarray .int, 2) := by decide +kernel
theorem dX12_init_23 : decode cX12_init 23 = .ok (.putfield 17, 3) := by decide +kernel
theorem dX12_init_26 : decode cX12_init 26 = .ok (.aload_n 0, 1) := by decide +kernel
theorem dX12_init_27 : decode cX12_init 27 = .ok (.bipush 6, 2) := by decide +kernel
theorem dX12_init_29 : decode cX12_init 29 = .ok (.newarray .int, 2) := by decide +kernel
theorem dX12_init_31 : decode cX12_init 31 = .ok (.putfield 21, 3) := by decide +kernel
theorem dX12_init_34 : decode cX12_init 34 = .ok (.aload_n 0, 1) := by decide +kernel
theorem dX12_init_35 : decode cX12_init 35 = .ok (.bipush 96, 2) := by decide +kernel
theorem dX12_init_37 : decode cX12_init 37 = .ok (.newarray .int, 2) := by decide +kernel
theorem dX12_init_39 : decode cX12_init 39 = .ok (.putfield 24, 3) := by decide +kernel
theorem dX12_init_42 : decode cX12_init 42 = .ok (.aload_n 0, 1) := by decide +kernel
theorem dX12_init_43 : decode cX12_init 43 = .ok (.bipush 18, 2) := by decide +kernel
theorem dX12_init_45 : decode cX12_init 45 = .ok (.newarray .int, 2) := by decide +kernel
theorem dX12_init_47 : decode cX12_init 47 = .ok (.putfield 27, 3) := by decide +kernel
theorem dX12_init_50 : decode cX12_init 50 = .ok (.aload_n 0, 1) := by decide +kernel
theorem dX12_init_51 : decode cX12_init 51 = .ok (.bipush 9, 2) := by decide +kernel
theorem dX12_init_53 : decode cX12_init 53 = .ok (.newarray .int, 2) := by decide +kernel
theorem dX12_init_55 : decode cX12_init 55 = .ok (.putfield 30, 3) := by decide +kernel
theorem dX12_init_58 : decode cX12_init 58 = .ok (.aload_n 0, 1) := by decide +kernel
theorem dX12_init_59 : decode cX12_init 59 = .ok (.bipush 8, 2) := by decide +kernel
theorem dX12_init_61 : decode cX12_init 61 = .ok (.newarray .int, 2) := by decide +kernel
theorem dX12_init_63 : decode cX12_init 63 = .ok (.putfield 33, 3) := by decide +kernel
theorem dX12_init_66 : decode cX12_init 66 = .ok (.aload_n 0, 1) := by decide +kernel
theorem dX12_init_67 : decode cX12_init 67 = .ok (.sipush 130, 3) := by decide +kernel
theorem dX12_init_70 : decode cX12_init 70 = .ok (.newarray .int, 2) := by decide +kernel
theorem dX12_init_72 : decode cX12_init 72 = .ok (.putfield 36, 3) := by decide +kernel
theorem dX12_init_75 : decode cX12_init 75 = .ok (.aload_n 0, 1) := by decide +kernel
theorem dX12_init_76 : decode cX12_init 76 = .ok (.iconst 5, 1) := by decide +kernel
theorem dX12_init_77 : decode cX12_init 77 = .ok (.newarray .int, 2) := by decide +kernel
theorem dX12_init_79 : decode cX12_init 79 = .ok (.putfield 39, 3) := by decide +kernel
theorem dX12_init_82 : decode cX12_init 82 = .ok (.aload_n 0, 1) := by decide +kernel
theorem dX12_init_83 : decode cX12_init 83 = .ok (.iconst 5, 1) := by decide +kernel
theorem dX12_init_84 : decode cX12_init 84 = .ok (.newarray .int, 2) := by decide +kernel
theorem dX12_init_86 : decode cX12_init 86 = .ok (.putfield 42, 3) := by decide +kernel
theorem dX12_init_89 : decode cX12_init 89 = .ok (.aload_n 0, 1) := by decide +kernel
theorem dX12_init_90 : decode cX12_init 90 = .ok (.iconst 5, 1) := by decide +kernel
theorem dX12_init_91 : decode cX12_init 91 = .ok (.newarray .int, 2) := by decide +kernel
theorem dX12_init_93 : decode cX12_init 93 = .ok (.putfield 45, 3) := by decide +kernel
theorem dX12_init_96 : decode cX12_init 96 = .ok (.aload_n 0, 1) := by decide +kernel
theorem dX12_init_97 : decode cX12_init 97 = .ok (.iconst 5, 1) := by decide +kernel
theorem dX12_init_98 : decode cX12_init 98 = .ok (.newarray .int, 2) := by decide +kernel
theorem dX12_init_100 : decode cX12_init 100 = .ok (.putfield 48, 3) := by decide +kernel
theorem dX12_init_103 : decode cX12_init 103 = .ok (.aload_n 0, 1) := by decide +kernel
theorem dX12_init_104 : decode cX12_init 104 = .ok (.iconst 5, 1) := by decide +kernel
theorem dX12_init_105 : decode cX12_init 105 = .ok (.newarray .int, 2) := by decide +kernel
theorem dX12_init_107 : decode cX12_init 107 = .ok (.putfield 51, 3) := by decide +kernel
theorem dX12_init_110 : decode cX12_init 110 = .ok (.aload_n 0, 1) := by decide +kernel
theorem dX12_init_111 : decode cX12_init 111 = .ok (.iconst 5, 1) := by decide +kernel
theorem dX12_init_112 : decode cX12_init 112 = .ok (.newarray .int, 2) := by decide +kernel
theorem dX12_init_114 : decode cX12_init 114 = .ok (.putfield 54, 3) := by decide +kernel
theorem dX12_init_117 : decode cX12_init 117 = .ok (.aload_n 0, 1) := by decide +kernel
theorem dX12_init_118 : decode cX12_init 118 = .ok (.iconst 5, 1) := by decide +kernel
theorem dX12_init_119 : decode cX12_init 119 = .ok (.newarray .int, 2) := by decide +kernel
theorem dX12_init_121 : decode cX12_init 121 = .ok (.putfield 57, 3) := by decide +kernel
theorem dX12_init_124 : decode cX12_init 124 = .ok (.aload_n 0, 1) := by decide +kernel
theorem dX12_init_125 : decode cX12_init 125 = .ok (.bipush 63, 2) := by decide +kernel
theorem dX12_init_127 : decode cX12_init 127 = .ok (.newarray .int, 2) := by decide +kernel
theorem dX12_init_129 : decode cX12_init 129 = .ok (.putfield 60, 3) := by decide +kernel
theorem dX12_init_132 : decode cX12_init 132 = .ok (.aload_n 0, 1) := by decide +kernel
theorem dX12_init_133 : decode cX12_init 133 = .ok (.bipush 8, 2) := by decide +kernel
theorem dX12_init_135 : decode cX12_init 135 = .ok (.newarray .int, 2) := by decide +kernel
theorem dX12_init_137 : decode cX12_init 137 = .ok (.putfield 63, 3) := by decide +kernel
theorem dX12_init_140 : decode cX12_init 140 = .ok (.return_, 1) := by decide +kernel
theorem wo_1253 : Cond.methodLink "TaleSharesModel" 3 objectInit ∈ k_TB := k_tb 1253 (by decide +kernel) rfl
def rm_X12_init : Room := { frames := 1, cells := 17, slots := 1279, locals := 52 }
theorem i_X12_init (l : Launch) (G : k_G) (h : Nat) : k_MV l G yX12_init cX12_init 1 rm_X12_init [(h, .inr (10, [.int 0, .int 0, .int 0, .null, .null, .null, .int 0, .int 0, .int 0, .int 0, .int 0, .int 0, .int 0, .int 0, .long 0, .null, .null, .null, .null, .int 0, .int 0, .null, .int 0, .int 0, .int 0, .int 0, .null, .null, .null, .null, .null, .int 0, .int 0, .null, .null, .null, .null, .int 0, .null, .null, .int 0, .int 0, .int 0]))] [.ref h] (fun u => ∃ l : List Nat, l.getD 0 0 = h ∧ u = k_WN G.2.1 (lsa l) .null tzM) 17 1279 := by
  refine k_startMV (lv := [(0, .ref h)]) (by decide +kernel) (Nat.le_of_ble_eq_true rfl) rfl ?_
  intro p e s m args below meth c hA hin hr
  have hA : k_Amb p s m args meth c cX12_init 1 "TaleSharesModel" G _ := hA
  have hin : meth.name = "<init>" := hin
  refine ka_aload_n (i := 0) hA dX12_init_0 rfl 0 rfl ?_
  refine ka_objInit hA wo_1253 wo_150 wo_151 (Nat.le_of_ble_eq_true rfl) (Nat.le_of_ble_eq_true rfl) dX12_init_1 ?_
  refine ka_aload_n (i := 0) hA dX12_init_4 rfl 0 rfl ?_
  refine ka_iconst hA dX12_init_5 kc_i_m1 ?_
  refine ka_put (q0 := 0) (fs := [.int 0, .int 0, .int 0, .null, .null, .null, .int 0, .int 0, .int 0, .int 0, .int 0, .int 0, .int 0, .int 0, .long 0, .null, .null, .null, .null, .int 0, .int 0, .null, .int 0, .int 0, .int 0, .int 0, .null, .null, .null, .null, .null, .int 0, .int 0, .null, .null, .null, .null, .int 0, .null, .null, .int 0, .int 0, .int 0]) (w' := [(h, .inr (10, [.int 0, .int 0, .int (-1), .null, .null, .null, .int 0, .int 0, .int 0, .int 0, .int 0, .int 0, .int 0, .int 0, .long 0, .null, .null, .null, .null, .int 0, .int 0, .null, .int 0, .int 0, .int 0, .int 0, .null, .null, .null, .null, .null, .int 0, .int 0, .null, .null, .null, .null, .int 0, .null, .null, .int 0, .int 0, .int 0]))]) hA k_in_X12 tyX12 tyX12_ok nmX12 rfl rfl 2 (by decide) wd_1256 rfl (v := .int (-1)) rfl rfl (Nat.le_of_ble_eq_true rfl) rfl dX12_init_6 ?_
  refine ka_aload_n (i := 0) hA dX12_init_9 rfl 0 rfl ?_
  refine ka_sipush hA dX12_init_10 kc_s_900 ?_
  refine ka_newB (N := 900) hA wd_246 (by decide) (by decide) (Nat.le_of_ble_eq_true rfl) (Nat.le_of_ble_eq_true rfl) (Nat.le_of_ble_eq_true rfl) dX12_init_13 (fun q0 => ?_)
  refine ka_putF (q0 := 0) (fs := [.int 0, .int 0, .int (-1), .null, .null, .null, .int 0, .int 0, .int 0, .int 0, .int 0, .int 0, .int 0, .int 0, .long 0, .null, .null, .null, .null, .int 0, .int 0, .null, .int 0, .int 0, .int 0, .int 0, .null, .null, .null, .null, .null, .int 0, .int 0, .null, .null, .null, .null, .int 0, .null, .null, .int 0, .int 0, .int 0]) (w' := [(h, .inr (10, [.int 0, .int 0, .int (-1), .null, .null, .ref q0, .int 0, .int 0, .int 0, .int 0, .int 0, .int 0, .int 0, .int 0, .long 0, .null, .null, .null, .null, .int 0, .int 0, .null, .int 0, .int 0, .int 0, .int 0, .null, .null, .null, .null, .null, .int 0, .int 0, .null, .null, .null, .null, .int 0, .null, .null, .int 0, .int 0, .int 0])), (q0, .inl (G.2.1 0, 900, .inl (fun _ => 0)))]) hA k_in_X12 tyX12 tyX12_ok nmX12 rfl rfl 5 (by decide) wd_1259 rfl hin rfl (v := .ref q0) rfl rfl (Nat.le_of_ble_eq_true rfl) rfl dX12_init_15 ?_
  refine ka_aload_n (i := 0) hA dX12_init_18 rfl 0 rfl ?_
  refine ka_bipush hA dX12_init_19 kc_b_6 ?_
  refine ka_newI (N := 6) hA wd_247 (by decide) (by decide) (Nat.le_of_ble_eq_true rfl) (Nat.le_of_ble_eq_true rfl) (Nat.le_of_ble_eq_true rfl) dX12_init_21 (fun q1 => ?_)
  refine ka_putF (q0 := 0) (fs := [.int 0, .int 0, .int (-1), .null, .null, .ref q0, .int 0, .int 0, .int 0, .int 0, .int 0, .int 0, .int 0, .int 0, .long 0, .null, .null, .null, .null, .int 0, .int 0, .null, .int 0, .int 0, .int 0, .int 0, .null, .null, .null, .null, .null, .int 0, .int 0, .null, .null, .null, .null, .int 0, .null, .null, .int 0, .int 0, .int 0]) (w' := [(h, .inr (10, [.int 0, .int 0, .int (-1), .null, .null, .ref q0, .int 0, .int 0, .int 0, .int 0, .int 0, .int 0, .int 0, .int 0, .long 0, .ref q1, .null, .null, .null, .int 0, .int 0, .null, .int 0, .int 0, .int 0, .int 0, .null, .null, .null, .null, .null, .int 0, .int 0, .null, .null, .null, .null, .int 0, .null, .null, .int 0, .int 0, .int 0])), (q0, .inl (G.2.1 0, 900, .inl (fun _ => 0))), (q1, .inl (G.2.1 1, 6, .inl (fun _ => 0)))]) hA k_in_X12 tyX12 tyX12_ok nmX12 rfl rfl 15 (by decide) wd_1269 rfl hin rfl (v := .ref q1) rfl rfl (Nat.le_of_ble_eq_true rfl) rfl dX12_init_23 ?_
  refine ka_aload_n (i := 0) hA dX12_init_26 rfl 0 rfl ?_
  refine ka_bipush hA dX12_init_27 kc_b_6 ?_
  refine ka_newI (N := 6) hA wd_247 (by decide) (by decide) (Nat.le_of_ble_eq_true rfl) (Nat.le_of_ble_eq_true rfl) (Nat.le_of_ble_eq_true rfl) dX12_init_29 (fun q2 => ?_)
  refine ka_putF (q0 := 0) (fs := [.int 0, .int 0, .int (-1), .null, .null, .ref q0, .int 0, .int 0, .int 0, .int 0, .int 0, .int 0, .int 0, .int 0, .long 0, .ref q1, .null, .null, .null, .int 0, .int 0, .null, .int 0, .int 0, .int 0, .int 0, .null, .null, .null, .null, .null, .int 0, .int 0, .null, .null, .null, .null, .int 0, .null, .null, .int 0, .int 0, .int 0]) (w' := [(h, .inr (10, [.int 0, .int 0, .int (-1), .null, .null, .ref q0, .int 0, .int 0, .int 0, .int 0, .int 0, .int 0, .int 0, .int 0, .long 0, .ref q1, .ref q2, .null, .null, .int 0, .int 0, .null, .int 0, .int 0, .int 0, .int 0, .null, .null, .null, .null, .null, .int 0, .int 0, .null, .null, .null, .null, .int 0, .null, .null, .int 0, .int 0, .int 0])), (q0, .inl (G.2.1 0, 900, .inl (fun _ => 0))), (q1, .inl (G.2.1 1, 6, .inl (fun _ => 0))), (q2, .inl (G.2.1 1, 6, .inl (fun _ => 0)))]) hA k_in_X12 tyX12 tyX12_ok nmX12 rfl rfl 16 (by decide) wd_1270 rfl hin rfl (v := .ref q2) rfl rfl (Nat.le_of_ble_eq_true rfl) rfl dX12_init_31 ?_
  refine ka_aload_n (i := 0) hA dX12_init_34 rfl 0 rfl ?_
  refine ka_bipush hA dX12_init_35 kc_b_96 ?_
  refine ka_newI (N := 96) hA wd_247 (by decide) (by decide) (Nat.le_of_ble_eq_true rfl) (Nat.le_of_ble_eq_true rfl) (Nat.le_of_ble_eq_true rfl) dX12_init_37 (fun q3 => ?_)
  refine ka_putF (q0 := 0) (fs := [.int 0, .int 0, .int (-1), .null, .null, .ref q0, .int 0, .int 0, .int 0, .int 0, .int 0, .int 0, .int 0, .int 0, .long 0, .ref q1, .ref q2, .null, .null, .int 0, .int 0, .null, .int 0, .int 0, .int 0, .int 0, .null, .null, .null, .null, .null, .int 0, .int 0, .null, .null, .null, .null, .int 0, .null, .null, .int 0, .int 0, .int 0]) (w' := [(h, .inr (10, [.int 0, .int 0, .int (-1), .null, .null, .ref q0, .int 0, .int 0, .int 0, .int 0, .int 0, .int 0, .int 0, .int 0, .long 0, .ref q1, .ref q2, .ref q3, .null, .int 0, .int 0, .null, .int 0, .int 0, .int 0, .int 0, .null, .null, .null, .null, .null, .int 0, .int 0, .null, .null, .null, .null, .int 0, .null, .null, .int 0, .int 0, .int 0])), (q0, .inl (G.2.1 0, 900, .inl (fun _ => 0))), (q1, .inl (G.2.1 1, 6, .inl (fun _ => 0))), (q2, .inl (G.2.1 1, 6, .inl (fun _ => 0))), (q3, .inl (G.2.1 1, 96, .inl (fun _ => 0)))]) hA k_in_X12 tyX12 tyX12_ok nmX12 rfl rfl 17 (by decide) wd_1271 rfl hin rfl (v := .ref q3) rfl rfl (Nat.le_of_ble_eq_true rfl) rfl dX12_init_39 ?_
  refine ka_aload_n (i := 0) hA dX12_init_42 rfl 0 rfl ?_
  refine ka_bipush hA dX12_init_43 kc_b_18 ?_
  refine ka_newI (N := 18) hA wd_247 (by decide) (by decide) (Nat.le_of_ble_eq_true rfl) (Nat.le_of_ble_eq_true rfl) (Nat.le_of_ble_eq_true rfl) dX12_init_45 (fun q4 => ?_)
  refine ka_putF (q0 := 0) (fs := [.int 0, .int 0, .int (-1), .null, .null, .ref q0, .int 0, .int 0, .int 0, .int 0, .int 0, .int 0, .int 0, .int 0, .long 0, .ref q1, .ref q2, .ref q3, .null, .int 0, .int 0, .null, .int 0, .int 0, .int 0, .int 0, .null, .null, .null, .null, .null, .int 0, .int 0, .null, .null, .null, .null, .int 0, .null, .null, .int 0, .int 0, .int 0]) (w' := [(h, .inr (10, [.int 0, .int 0, .int (-1), .null, .null, .ref q0, .int 0, .int 0, .int 0, .int 0, .int 0, .int 0, .int 0, .int 0, .long 0, .ref q1, .ref q2, .ref q3, .ref q4, .int 0, .int 0, .null, .int 0, .int 0, .int 0, .int 0, .null, .null, .null, .null, .null, .int 0, .int 0, .null, .null, .null, .null, .int 0, .null, .null, .int 0, .int 0, .int 0])), (q0, .inl (G.2.1 0, 900, .inl (fun _ => 0))), (q1, .inl (G.2.1 1, 6, .inl (fun _ => 0))), (q2, .inl (G.2.1 1, 6, .inl (fun _ => 0))), (q3, .inl (G.2.1 1, 96, .inl (fun _ => 0))), (q4, .inl (G.2.1 1, 18, .inl (fun _ => 0)))]) hA k_in_X12 tyX12 tyX12_ok nmX12 rfl rfl 18 (by decide) wd_1272 rfl hin rfl (v := .ref q4) rfl rfl (Nat.le_of_ble_eq_true rfl) rfl dX12_init_47 ?_
  refine ka_aload_n (i := 0) hA dX12_init_50 rfl 0 rfl ?_
  refine ka_bipush hA dX12_init_51 kc_b_9 ?_
  refine ka_newI (N := 9) hA wd_247 (by decide) (by decide) (Nat.le_of_ble_eq_true rfl) (Nat.le_of_ble_eq_true rfl) (Nat.le_of_ble_eq_true rfl) dX12_init_53 (fun q5 => ?_)
  refine ka_putF (q0 := 0) (fs := [.int 0, .int 0, .int (-1), .null, .null, .ref q0, .int 0, .int 0, .int 0, .int 0, .int 0, .int 0, .int 0, .int 0, .long 0, .ref q1, .ref q2, .ref q3, .ref q4, .int 0, .int 0, .null, .int 0, .int 0, .int 0, .int 0, .null, .null, .null, .null, .null, .int 0, .int 0, .null, .null, .null, .null, .int 0, .null, .null, .int 0, .int 0, .int 0]) (w' := [(h, .inr (10, [.int 0, .int 0, .int (-1), .null, .null, .ref q0, .int 0, .int 0, .int 0, .int 0, .int 0, .int 0, .int 0, .int 0, .long 0, .ref q1, .ref q2, .ref q3, .ref q4, .int 0, .int 0, .ref q5, .int 0, .int 0, .int 0, .int 0, .null, .null, .null, .null, .null, .int 0, .int 0, .null, .null, .null, .null, .int 0, .null, .null, .int 0, .int 0, .int 0])), (q0, .inl (G.2.1 0, 900, .inl (fun _ => 0))), (q1, .inl (G.2.1 1, 6, .inl (fun _ => 0))), (q2, .inl (G.2.1 1, 6, .inl (fun _ => 0))), (q3, .inl (G.2.1 1, 96, .inl (fun _ => 0))), (q4, .inl (G.2.1 1, 18, .inl (fun _ => 0))), (q5, .inl (G.2.1 1, 9, .inl (fun _ => 0)))]) hA k_in_X12 tyX12 tyX12_ok nmX12 rfl rfl 21 (by decide) wd_1275 rfl hin rfl (v := .ref q5) rfl rfl (Nat.le_of_ble_eq_true rfl) rfl dX12_init_55 ?_
  refine ka_aload_n (i := 0) hA dX12_init_58 rfl 0 rfl ?_
  refine ka_bipush hA dX12_init_59 kc_b_8 ?_
  refine ka_newI (N := 8) hA wd_247 (by decide) (by decide) (Nat.le_of_ble_eq_true rfl) (Nat.le_of_ble_eq_true rfl) (Nat.le_of_ble_eq_true rfl) dX12_init_61 (fun q6 => ?_)
  refine ka_putF (q0 := 0) (fs := [.int 0, .int 0, .int (-1), .null, .null, .ref q0, .int 0, .int 0, .int 0, .int 0, .int 0, .int 0, .int 0, .int 0, .long 0, .ref q1, .ref q2, .ref q3, .ref q4, .int 0, .int 0, .ref q5, .int 0, .int 0, .int 0, .int 0, .null, .null, .null, .null, .null, .int 0, .int 0, .null, .null, .null, .null, .int 0, .null, .null, .int 0, .int 0, .int 0]) (w' := [(h, .inr (10, [.int 0, .int 0, .int (-1), .null, .null, .ref q0, .int 0, .int 0, .int 0, .int 0, .int 0, .int 0, .int 0, .int 0, .long 0, .ref q1, .ref q2, .ref q3, .ref q4, .int 0, .int 0, .ref q5, .int 0, .int 0, .int 0, .int 0, .ref q6, .null, .null, .null, .null, .int 0, .int 0, .null, .null, .null, .null, .int 0, .null, .null, .int 0, .int 0, .int 0])), (q0, .inl (G.2.1 0, 900, .inl (fun _ => 0))), (q1, .inl (G.2.1 1, 6, .inl (fun _ => 0))), (q2, .inl (G.2.1 1, 6, .inl (fun _ => 0))), (q3, .inl (G.2.1 1, 96, .inl (fun _ => 0))), (q4, .inl (G.2.1 1, 18, .inl (fun _ => 0))), (q5, .inl (G.2.1 1, 9, .inl (fun _ => 0))), (q6, .inl (G.2.1 1, 8, .inl (fun _ => 0)))]) hA k_in_X12 tyX12 tyX12_ok nmX12 rfl rfl 26 (by decide) wd_1280 rfl hin rfl (v := .ref q6) rfl rfl (Nat.le_of_ble_eq_true rfl) rfl dX12_init_63 ?_
  refine ka_aload_n (i := 0) hA dX12_init_66 rfl 0 rfl ?_
  refine ka_sipush hA dX12_init_67 kc_s_130 ?_
  refine ka_newI (N := 130) hA wd_247 (by decide) (by decide) (Nat.le_of_ble_eq_true rfl) (Nat.le_of_ble_eq_true rfl) (Nat.le_of_ble_eq_true rfl) dX12_init_70 (fun q7 => ?_)
  refine ka_putF (q0 := 0) (fs := [.int 0, .int 0, .int (-1), .null, .null, .ref q0, .int 0, .int 0, .int 0, .int 0, .int 0, .int 0, .int 0, .int 0, .long 0, .ref q1, .ref q2, .ref q3, .ref q4, .int 0, .int 0, .ref q5, .int 0, .int 0, .int 0, .int 0, .ref q6, .null, .null, .null, .null, .int 0, .int 0, .null, .null, .null, .null, .int 0, .null, .null, .int 0, .int 0, .int 0]) (w' := [(h, .inr (10, [.int 0, .int 0, .int (-1), .null, .null, .ref q0, .int 0, .int 0, .int 0, .int 0, .int 0, .int 0, .int 0, .int 0, .long 0, .ref q1, .ref q2, .ref q3, .ref q4, .int 0, .int 0, .ref q5, .int 0, .int 0, .int 0, .int 0, .ref q6, .ref q7, .null, .null, .null, .int 0, .int 0, .null, .null, .null, .null, .int 0, .null, .null, .int 0, .int 0, .int 0])), (q0, .inl (G.2.1 0, 900, .inl (fun _ => 0))), (q1, .inl (G.2.1 1, 6, .inl (fun _ => 0))), (q2, .inl (G.2.1 1, 6, .inl (fun _ => 0))), (q3, .inl (G.2.1 1, 96, .inl (fun _ => 0))), (q4, .inl (G.2.1 1, 18, .inl (fun _ => 0))), (q5, .inl (G.2.1 1, 9, .inl (fun _ => 0))), (q6, .inl (G.2.1 1, 8, .inl (fun _ => 0))), (q7, .inl (G.2.1 1, 130, .inl (fun _ => 0)))]) hA k_in_X12 tyX12 tyX12_ok nmX12 rfl rfl 27 (by decide) wd_1281 rfl hin rfl (v := .ref q7) rfl rfl (Nat.le_of_ble_eq_true rfl) rfl dX12_init_72 ?_
  refine ka_aload_n (i := 0) hA dX12_init_75 rfl 0 rfl ?_
  refine ka_iconst hA dX12_init_76 kc_i_5 ?_
  refine ka_newI (N := 5) hA wd_247 (by decide) (by decide) (Nat.le_of_ble_eq_true rfl) (Nat.le_of_ble_eq_true rfl) (Nat.le_of_ble_eq_true rfl) dX12_init_77 (fun q8 => ?_)
  refine ka_putF (q0 := 0) (fs := [.int 0, .int 0, .int (-1), .null, .null, .ref q0, .int 0, .int 0, .int 0, .int 0, .int 0, .int 0, .int 0, .int 0, .long 0, .ref q1, .ref q2, .ref q3, .ref q4, .int 0, .int 0, .ref q5, .int 0, .int 0, .int 0, .int 0, .ref q6, .ref q7, .null, .null, .null, .int 0, .int 0, .null, .null, .null, .null, .int 0, .null, .null, .int 0, .int 0, .int 0]) (w' := [(h, .inr (10, [.int 0, .int 0, .int (-1), .null, .null, .ref q0, .int 0, .int 0, .int 0, .int 0, .int 0, .int 0, .int 0, .int 0, .long 0, .ref q1, .ref q2, .ref q3, .ref q4, .int 0, .int 0, .ref q5, .int 0, .int 0, .int 0, .int 0, .ref q6, .ref q7, .ref q8, .null, .null, .int 0, .int 0, .null, .null, .null, .null, .int 0, .null, .null, .int 0, .int 0, .int 0])), (q0, .inl (G.2.1 0, 900, .inl (fun _ => 0))), (q1, .inl (G.2.1 1, 6, .inl (fun _ => 0))), (q2, .inl (G.2.1 1, 6, .inl (fun _ => 0))), (q3, .inl (G.2.1 1, 96, .inl (fun _ => 0))), (q4, .inl (G.2.1 1, 18, .inl (fun _ => 0))), (q5, .inl (G.2.1 1, 9, .inl (fun _ => 0))), (q6, .inl (G.2.1 1, 8, .inl (fun _ => 0))), (q7, .inl (G.2.1 1, 130, .inl (fun _ => 0))), (q8, .inl (G.2.1 1, 5, .inl (fun _ => 0)))]) hA k_in_X12 tyX12 tyX12_ok nmX12 rfl rfl 28 (by decide) wd_1282 rfl hin rfl (v := .ref q8) rfl rfl (Nat.le_of_ble_eq_true rfl) rfl dX12_init_79 ?_
  refine ka_aload_n (i := 0) hA dX12_init_82 rfl 0 rfl ?_
  refine ka_iconst hA dX12_init_83 kc_i_5 ?_
  refine ka_newI (N := 5) hA wd_247 (by decide) (by decide) (Nat.le_of_ble_eq_true rfl) (Nat.le_of_ble_eq_true rfl) (Nat.le_of_ble_eq_true rfl) dX12_init_84 (fun q9 => ?_)
  refine ka_putF (q0 := 0) (fs := [.int 0, .int 0, .int (-1), .null, .null, .ref q0, .int 0, .int 0, .int 0, .int 0, .int 0, .int 0, .int 0, .int 0, .long 0, .ref q1, .ref q2, .ref q3, .ref q4, .int 0, .int 0, .ref q5, .int 0, .int 0, .int 0, .int 0, .ref q6, .ref q7, .ref q8, .null, .null, .int 0, .int 0, .null, .null, .null, .null, .int 0, .null, .null, .int 0, .int 0, .int 0]) (w' := [(h, .inr (10, [.int 0, .int 0, .int (-1), .null, .null, .ref q0, .int 0, .int 0, .int 0, .int 0, .int 0, .int 0, .int 0, .int 0, .long 0, .ref q1, .ref q2, .ref q3, .ref q4, .int 0, .int 0, .ref q5, .int 0, .int 0, .int 0, .int 0, .ref q6, .ref q7, .ref q8, .ref q9, .null, .int 0, .int 0, .null, .null, .null, .null, .int 0, .null, .null, .int 0, .int 0, .int 0])), (q0, .inl (G.2.1 0, 900, .inl (fun _ => 0))), (q1, .inl (G.2.1 1, 6, .inl (fun _ => 0))), (q2, .inl (G.2.1 1, 6, .inl (fun _ => 0))), (q3, .inl (G.2.1 1, 96, .inl (fun _ => 0))), (q4, .inl (G.2.1 1, 18, .inl (fun _ => 0))), (q5, .inl (G.2.1 1, 9, .inl (fun _ => 0))), (q6, .inl (G.2.1 1, 8, .inl (fun _ => 0))), (q7, .inl (G.2.1 1, 130, .inl (fun _ => 0))), (q8, .inl (G.2.1 1, 5, .inl (fun _ => 0))), (q9, .inl (G.2.1 1, 5, .inl (fun _ => 0)))]) hA k_in_X12 tyX12 tyX12_ok nmX12 rfl rfl 29 (by decide) wd_1283 rfl hin rfl (v := .ref q9) rfl rfl (Nat.le_of_ble_eq_true rfl) rfl dX12_init_86 ?_
  refine ka_aload_n (i := 0) hA dX12_init_89 rfl 0 rfl ?_
  refine ka_iconst hA dX12_init_90 kc_i_5 ?_
  refine ka_newI (N := 5) hA wd_247 (by decide) (by decide) (Nat.le_of_ble_eq_true rfl) (Nat.le_of_ble_eq_true rfl) (Nat.le_of_ble_eq_true rfl) dX12_init_91 (fun q10 => ?_)
  refine ka_putF (q0 := 0) (fs := [.int 0, .int 0, .int (-1), .null, .null, .ref q0, .int 0, .int 0, .int 0, .int 0, .int 0, .int 0, .int 0, .int 0, .long 0, .ref q1, .ref q2, .ref q3, .ref q4, .int 0, .int 0, .ref q5, .int 0, .int 0, .int 0, .int 0, .ref q6, .ref q7, .ref q8, .ref q9, .null, .int 0, .int 0, .null, .null, .null, .null, .int 0, .null, .null, .int 0, .int 0, .int 0]) (w' := [(h, .inr (10, [.int 0, .int 0, .int (-1), .null, .null, .ref q0, .int 0, .int 0, .int 0, .int 0, .int 0, .int 0, .int 0, .int 0, .long 0, .ref q1, .ref q2, .ref q3, .ref q4, .int 0, .int 0, .ref q5, .int 0, .int 0, .int 0, .int 0, .ref q6, .ref q7, .ref q8, .ref q9, .ref q10, .int 0, .int 0, .null, .null, .null, .null, .int 0, .null, .null, .int 0, .int 0, .int 0])), (q0, .inl (G.2.1 0, 900, .inl (fun _ => 0))), (q1, .inl (G.2.1 1, 6, .inl (fun _ => 0))), (q2, .inl (G.2.1 1, 6, .inl (fun _ => 0))), (q3, .inl (G.2.1 1, 96, .inl (fun _ => 0))), (q4, .inl (G.2.1 1, 18, .inl (fun _ => 0))), (q5, .inl (G.2.1 1, 9, .inl (fun _ => 0))), (q6, .inl (G.2.1 1, 8, .inl (fun _ => 0))), (q7, .inl (G.2.1 1, 130, .inl (fun _ => 0))), (q8, .inl (G.2.1 1, 5, .inl (fun _ => 0))), (q9, .inl (G.2.1 1, 5, .inl (fun _ => 0))), (q10, .inl (G.2.1 1, 5, .inl (fun _ => 0)))]) hA k_in_X12 tyX12 tyX12_ok nmX12 rfl rfl 30 (by decide) wd_1284 rfl hin rfl (v := .ref q10) rfl rfl (Nat.le_of_ble_eq_true rfl) rfl dX12_init_93 ?_
  refine ka_aload_n (i := 0) hA dX12_init_96 rfl 0 rfl ?_
  refine ka_iconst hA dX12_init_97 kc_i_5 ?_
  refine ka_newI (N := 5) hA wd_247 (by decide) (by decide) (Nat.le_of_ble_eq_true rfl) (Nat.le_of_ble_eq_true rfl) (Nat.le_of_ble_eq_true rfl) dX12_init_98 (fun q11 => ?_)
  refine ka_putF (q0 := 0) (fs := [.int 0, .int 0, .int (-1), .null, .null, .ref q0, .int 0, .int 0, .int 0, .int 0, .int 0, .int 0, .int 0, .int 0, .long 0, .ref q1, .ref q2, .ref q3, .ref q4, .int 0, .int 0, .ref q5, .int 0, .int 0, .int 0, .int 0, .ref q6, .ref q7, .ref q8, .ref q9, .ref q10, .int 0, .int 0, .null, .null, .null, .null, .int 0, .null, .null, .int 0, .int 0, .int 0]) (w' := [(h, .inr (10, [.int 0, .int 0, .int (-1), .null, .null, .ref q0, .int 0, .int 0, .int 0, .int 0, .int 0, .int 0, .int 0, .int 0, .long 0, .ref q1, .ref q2, .ref q3, .ref q4, .int 0, .int 0, .ref q5, .int 0, .int 0, .int 0, .int 0, .ref q6, .ref q7, .ref q8, .ref q9, .ref q10, .int 0, .int 0, .ref q11, .null, .null, .null, .int 0, .null, .null, .int 0, .int 0, .int 0])), (q0, .inl (G.2.1 0, 900, .inl (fun _ => 0))), (q1, .inl (G.2.1 1, 6, .inl (fun _ => 0))), (q2, .inl (G.2.1 1, 6, .inl (fun _ => 0))), (q3, .inl (G.2.1 1, 96, .inl (fun _ => 0))), (q4, .inl (G.2.1 1, 18, .inl (fun _ => 0))), (q5, .inl (G.2.1 1, 9, .inl (fun _ => 0))), (q6, .inl (G.2.1 1, 8, .inl (fun _ => 0))), (q7, .inl (G.2.1 1, 130, .inl (fun _ => 0))), (q8, .inl (G.2.1 1, 5, .inl (fun _ => 0))), (q9, .inl (G.2.1 1, 5, .inl (fun _ => 0))), (q10, .inl (G.2.1 1, 5, .inl (fun _ => 0))), (q11, .inl (G.2.1 1, 5, .inl (fun _ => 0)))]) hA k_in_X12 tyX12 tyX12_ok nmX12 rfl rfl 33 (by decide) wd_1287 rfl hin rfl (v := .ref q11) rfl rfl (Nat.le_of_ble_eq_true rfl) rfl dX12_init_100 ?_
  refine ka_aload_n (i := 0) hA dX12_init_103 rfl 0 rfl ?_
  refine ka_iconst hA dX12_init_104 kc_i_5 ?_
  refine ka_newI (N := 5) hA wd_247 (by decide) (by decide) (Nat.le_of_ble_eq_true rfl) (Nat.le_of_ble_eq_true rfl) (Nat.le_of_ble_eq_true rfl) dX12_init_105 (fun q12 => ?_)
  refine ka_putF (q0 := 0) (fs := [.int 0, .int 0, .int (-1), .null, .null, .ref q0, .int 0, .int 0, .int 0, .int 0, .int 0, .int 0, .int 0, .int 0, .long 0, .ref q1, .ref q2, .ref q3, .ref q4, .int 0, .int 0, .ref q5, .int 0, .int 0, .int 0, .int 0, .ref q6, .ref q7, .ref q8, .ref q9, .ref q10, .int 0, .int 0, .ref q11, .null, .null, .null, .int 0, .null, .null, .int 0, .int 0, .int 0]) (w' := [(h, .inr (10, [.int 0, .int 0, .int (-1), .null, .null, .ref q0, .int 0, .int 0, .int 0, .int 0, .int 0, .int 0, .int 0, .int 0, .long 0, .ref q1, .ref q2, .ref q3, .ref q4, .int 0, .int 0, .ref q5, .int 0, .int 0, .int 0, .int 0, .ref q6, .ref q7, .ref q8, .ref q9, .ref q10, .int 0, .int 0, .ref q11, .ref q12, .null, .null, .int 0, .null, .null, .int 0, .int 0, .int 0])), (q0, .inl (G.2.1 0, 900, .inl (fun _ => 0))), (q1, .inl (G.2.1 1, 6, .inl (fun _ => 0))), (q2, .inl (G.2.1 1, 6, .inl (fun _ => 0))), (q3, .inl (G.2.1 1, 96, .inl (fun _ => 0))), (q4, .inl (G.2.1 1, 18, .inl (fun _ => 0))), (q5, .inl (G.2.1 1, 9, .inl (fun _ => 0))), (q6, .inl (G.2.1 1, 8, .inl (fun _ => 0))), (q7, .inl (G.2.1 1, 130, .inl (fun _ => 0))), (q8, .inl (G.2.1 1, 5, .inl (fun _ => 0))), (q9, .inl (G.2.1 1, 5, .inl (fun _ => 0))), (q10, .inl (G.2.1 1, 5, .inl (fun _ => 0))), (q11, .inl (G.2.1 1, 5, .inl (fun _ => 0))), (q12, .inl (G.2.1 1, 5, .inl (fun _ => 0)))]) hA k_in_X12 tyX12 tyX12_ok nmX12 rfl rfl 34 (by decide) wd_1288 rfl hin rfl (v := .ref q12) rfl rfl (Nat.le_of_ble_eq_true rfl) rfl dX12_init_107 ?_
  refine ka_aload_n (i := 0) hA dX12_init_110 rfl 0 rfl ?_
  refine ka_iconst hA dX12_init_111 kc_i_5 ?_
  refine ka_newI (N := 5) hA wd_247 (by decide) (by decide) (Nat.le_of_ble_eq_true rfl) (Nat.le_of_ble_eq_true rfl) (Nat.le_of_ble_eq_true rfl) dX12_init_112 (fun q13 => ?_)
  refine ka_putF (q0 := 0) (fs := [.int 0, .int 0, .int (-1), .null, .null, .ref q0, .int 0, .int 0, .int 0, .int 0, .int 0, .int 0, .int 0, .int 0, .long 0, .ref q1, .ref q2, .ref q3, .ref q4, .int 0, .int 0, .ref q5, .int 0, .int 0, .int 0, .int 0, .ref q6, .ref q7, .ref q8, .ref q9, .ref q10, .int 0, .int 0, .ref q11, .ref q12, .null, .null, .int 0, .null, .null, .int 0, .int 0, .int 0]) (w' := [(h, .inr (10, [.int 0, .int 0, .int (-1), .null, .null, .ref q0, .int 0, .int 0, .int 0, .int 0, .int 0, .int 0, .int 0, .int 0, .long 0, .ref q1, .ref q2, .ref q3, .ref q4, .int 0, .int 0, .ref q5, .int 0, .int 0, .int 0, .int 0, .ref q6, .ref q7, .ref q8, .ref q9, .ref q10, .int 0, .int 0, .ref q11, .ref q12, .ref q13, .null, .int 0, .null, .null, .int 0, .int 0, .int 0])), (q0, .inl (G.2.1 0, 900, .inl (fun _ => 0))), (q1, .inl (G.2.1 1, 6, .inl (fun _ => 0))), (q2, .inl (G.2.1 1, 6, .inl (fun _ => 0))), (q3, .inl (G.2.1 1, 96, .inl (fun _ => 0))), (q4, .inl (G.2.1 1, 18, .inl (fun _ => 0))), (q5, .inl (G.2.1 1, 9, .inl (fun _ => 0))), (q6, .inl (G.2.1 1, 8, .inl (fun _ => 0))), (q7, .inl (G.2.1 1, 130, .inl (fun _ => 0))), (q8, .inl (G.2.1 1, 5, .inl (fun _ => 0))), (q9, .inl (G.2.1 1, 5, .inl (fun _ => 0))), (q10, .inl (G.2.1 1, 5, .inl (fun _ => 0))), (q11, .inl (G.2.1 1, 5, .inl (fun _ => 0))), (q12, .inl (G.2.1 1, 5, .inl (fun _ => 0))), (q13, .inl (G.2.1 1, 5, .inl (fun _ => 0)))]) hA k_in_X12 tyX12 tyX12_ok nmX12 rfl rfl 35 (by decide) wd_1289 rfl hin rfl (v := .ref q13) rfl rfl (Nat.le_of_ble_eq_true rfl) rfl dX12_init_114 ?_
  refine ka_aload_n (i := 0) hA dX12_init_117 rfl 0 rfl ?_
  refine ka_iconst hA dX12_init_118 kc_i_5 ?_
  refine ka_newI (N := 5) hA wd_247 (by decide) (by decide) (Nat.le_of_ble_eq_true rfl) (Nat.le_of_ble_eq_true rfl) (Nat.le_of_ble_eq_true rfl) dX12_init_119 (fun q14 => ?_)
  refine ka_putF (q0 := 0) (fs := [.int 0, .int 0, .int (-1), .null, .null, .ref q0, .int 0, .int 0, .int 0, .int 0, .int 0, .int 0, .int 0, .int 0, .long 0, .ref q1, .ref q2, .ref q3, .ref q4, .int 0, .int 0, .ref q5, .int 0, .int 0, .int 0, .int 0, .ref q6, .ref q7, .ref q8, .ref q9, .ref q10, .int 0, .int 0, .ref q11, .ref q12, .ref q13, .null, .int 0, .null, .null, .int 0, .int 0, .int 0]) (w' := [(h, .inr (10, [.int 0, .int 0, .int (-1), .null, .null, .ref q0, .int 0, .int 0, .int 0, .int 0, .int 0, .int 0, .int 0, .int 0, .long 0, .ref q1, .ref q2, .ref q3, .ref q4, .int 0, .int 0, .ref q5, .int 0, .int 0, .int 0, .int 0, .ref q6, .ref q7, .ref q8, .ref q9, .ref q10, .int 0, .int 0, .ref q11, .ref q12, .ref q13, .ref q14, .int 0, .null, .null, .int 0, .int 0, .int 0])), (q0, .inl (G.2.1 0, 900, .inl (fun _ => 0))), (q1, .inl (G.2.1 1, 6, .inl (fun _ => 0))), (q2, .inl (G.2.1 1, 6, .inl (fun _ => 0))), (q3, .inl (G.2.1 1, 96, .inl (fun _ => 0))), (q4, .inl (G.2.1 1, 18, .inl (fun _ => 0))), (q5, .inl (G.2.1 1, 9, .inl (fun _ => 0))), (q6, .inl (G.2.1 1, 8, .inl (fun _ => 0))), (q7, .inl (G.2.1 1, 130, .inl (fun _ => 0))), (q8, .inl (G.2.1 1, 5, .inl (fun _ => 0))), (q9, .inl (G.2.1 1, 5, .inl (fun _ => 0))), (q10, .inl (G.2.1 1, 5, .inl (fun _ => 0))), (q11, .inl (G.2.1 1, 5, .inl (fun _ => 0))), (q12, .inl (G.2.1 1, 5, .inl (fun _ => 0))), (q13, .inl (G.2.1 1, 5, .inl (fun _ => 0))), (q14, .inl (G.2.1 1, 5, .inl (fun _ => 0)))]) hA k_in_X12 tyX12 tyX12_ok nmX12 rfl rfl 36 (by decide) wd_1290 rfl hin rfl (v := .ref q14) rfl rfl (Nat.le_of_ble_eq_true rfl) rfl dX12_init_121 ?_
  refine ka_aload_n (i := 0) hA dX12_init_124 rfl 0 rfl ?_
  refine ka_bipush hA dX12_init_125 kc_b_63 ?_
  refine ka_newI (N := 63) hA wd_247 (by decide) (by decide) (Nat.le_of_ble_eq_true rfl) (Nat.le_of_ble_eq_true rfl) (Nat.le_of_ble_eq_true rfl) dX12_init_127 (fun q15 => ?_)
  refine ka_putF (q0 := 0) (fs := [.int 0, .int 0, .int (-1), .null, .null, .ref q0, .int 0, .int 0, .int 0, .int 0, .int 0, .int 0, .int 0, .int 0, .long 0, .ref q1, .ref q2, .ref q3, .ref q4, .int 0, .int 0, .ref q5, .int 0, .int 0, .int 0, .int 0, .ref q6, .ref q7, .ref q8, .ref q9, .ref q10, .int 0, .int 0, .ref q11, .ref q12, .ref q13, .ref q14, .int 0, .null, .null, .int 0, .int 0, .int 0]) (w' := [(h, .inr (10, [.int 0, .int 0, .int (-1), .null, .null, .ref q0, .int 0, .int 0, .int 0, .int 0, .int 0, .int 0, .int 0, .int 0, .long 0, .ref q1, .ref q2, .ref q3, .ref q4, .int 0, .int 0, .ref q5, .int 0, .int 0, .int 0, .int 0, .ref q6, .ref q7, .ref q8, .ref q9, .ref q10, .int 0, .int 0, .ref q11, .ref q12, .ref q13, .ref q14, .int 0, .ref q15, .null, .int 0, .int 0, .int 0])), (q0, .inl (G.2.1 0, 900, .inl (fun _ => 0))), (q1, .inl (G.2.1 1, 6, .inl (fun _ => 0))), (q2, .inl (G.2.1 1, 6, .inl (fun _ => 0))), (q3, .inl (G.2.1 1, 96, .inl (fun _ => 0))), (q4, .inl (G.2.1 1, 18, .inl (fun _ => 0))), (q5, .inl (G.2.1 1, 9, .inl (fun _ => 0))), (q6, .inl (G.2.1 1, 8, .inl (fun _ => 0))), (q7, .inl (G.2.1 1, 130, .inl (fun _ => 0))), (q8, .inl (G.2.1 1, 5, .inl (fun _ => 0))), (q9, .inl (G.2.1 1, 5, .inl (fun _ => 0))), (q10, .inl (G.2.1 1, 5, .inl (fun _ => 0))), (q11, .inl (G.2.1 1, 5, .inl (fun _ => 0))), (q12, .inl (G.2.1 1, 5, .inl (fun _ => 0))), (q13, .inl (G.2.1 1, 5, .inl (fun _ => 0))), (q14, .inl (G.2.1 1, 5, .inl (fun _ => 0))), (q15, .inl (G.2.1 1, 63, .inl (fun _ => 0)))]) hA k_in_X12 tyX12 tyX12_ok nmX12 rfl rfl 38 (by decide) wd_1292 rfl hin rfl (v := .ref q15) rfl rfl (Nat.le_of_ble_eq_true rfl) rfl dX12_init_129 ?_
  refine ka_aload_n (i := 0) hA dX12_init_132 rfl 0 rfl ?_
  refine ka_bipush hA dX12_init_133 kc_b_8 ?_
  refine ka_newI (N := 8) hA wd_247 (by decide) (by decide) (Nat.le_of_ble_eq_true rfl) (Nat.le_of_ble_eq_true rfl) (Nat.le_of_ble_eq_true rfl) dX12_init_135 (fun q16 => ?_)
  refine ka_putF (q0 := 0) (fs := [.int 0, .int 0, .int (-1), .null, .null, .ref q0, .int 0, .int 0, .int 0, .int 0, .int 0, .int 0, .int 0, .int 0, .long 0, .ref q1, .ref q2, .ref q3, .ref q4, .int 0, .int 0, .ref q5, .int 0, .int 0, .int 0, .int 0, .ref q6, .ref q7, .ref q8, .ref q9, .ref q10, .int 0, .int 0, .ref q11, .ref q12, .ref q13, .ref q14, .int 0, .ref q15, .null, .int 0, .int 0, .int 0]) (w' := [(h, .inr (10, [.int 0, .int 0, .int (-1), .null, .null, .ref q0, .int 0, .int 0, .int 0, .int 0, .int 0, .int 0, .int 0, .int 0, .long 0, .ref q1, .ref q2, .ref q3, .ref q4, .int 0, .int 0, .ref q5, .int 0, .int 0, .int 0, .int 0, .ref q6, .ref q7, .ref q8, .ref q9, .ref q10, .int 0, .int 0, .ref q11, .ref q12, .ref q13, .ref q14, .int 0, .ref q15, .ref q16, .int 0, .int 0, .int 0])), (q0, .inl (G.2.1 0, 900, .inl (fun _ => 0))), (q1, .inl (G.2.1 1, 6, .inl (fun _ => 0))), (q2, .inl (G.2.1 1, 6, .inl (fun _ => 0))), (q3, .inl (G.2.1 1, 96, .inl (fun _ => 0))), (q4, .inl (G.2.1 1, 18, .inl (fun _ => 0))), (q5, .inl (G.2.1 1, 9, .inl (fun _ => 0))), (q6, .inl (G.2.1 1, 8, .inl (fun _ => 0))), (q7, .inl (G.2.1 1, 130, .inl (fun _ => 0))), (q8, .inl (G.2.1 1, 5, .inl (fun _ => 0))), (q9, .inl (G.2.1 1, 5, .inl (fun _ => 0))), (q10, .inl (G.2.1 1, 5, .inl (fun _ => 0))), (q11, .inl (G.2.1 1, 5, .inl (fun _ => 0))), (q12, .inl (G.2.1 1, 5, .inl (fun _ => 0))), (q13, .inl (G.2.1 1, 5, .inl (fun _ => 0))), (q14, .inl (G.2.1 1, 5, .inl (fun _ => 0))), (q15, .inl (G.2.1 1, 63, .inl (fun _ => 0))), (q16, .inl (G.2.1 1, 8, .inl (fun _ => 0)))]) hA k_in_X12 tyX12 tyX12_ok nmX12 rfl rfl 39 (by decide) wd_1293 rfl hin rfl (v := .ref q16) rfl rfl (Nat.le_of_ble_eq_true rfl) rfl dX12_init_137 ?_
  exact ka_vret hA hr ⟨[h, q0, q1, q2, q3, q4, q5, q6, q7, q8, q9, q10, q11, q12, q13, q14, q15, q16], rfl, rfl⟩ dX12_init_140
