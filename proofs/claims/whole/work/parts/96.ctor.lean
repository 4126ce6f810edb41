/-! ===== constructors ===== -/
theorem kc_b_13 : (Int8.ofInt (13)).toInt32 = (13 : Int32) := by decide
theorem kc_b_96 : (Int8.ofInt (96)).toInt32 = (96 : Int32) := by decide
theorem kc_b_18 : (Int8.ofInt (18)).toInt32 = (18 : Int32) := by decide
theorem kc_s_130 : (Int16.ofInt (130)).toInt32 = (130 : Int32) := by decide
theorem wd_245 : Cond.arrayClass .int ∈ k_TB := k_tb 245 (by decide +kernel) rfl
theorem wd_189 : Cond.fieldLink "TaleShares$Terrace" 9 "TaleShares$Terrace" "kinds" "[I" ∈ k_TB := k_tb 189 (by decide +kernel) rfl
theorem wd_196 : Cond.fieldLink "TaleShares$Terrace" 18 "TaleShares$Terrace" "places" "[I" ∈ k_TB := k_tb 196 (by decide +kernel) rfl
theorem wd_200 : Cond.fieldLink "TaleShares$Terrace" 21 "TaleShares$Terrace" "from" "[I" ∈ k_TB := k_tb 200 (by decide +kernel) rfl
theorem wd_204 : Cond.fieldLink "TaleShares$Terrace" 24 "TaleShares$Terrace" "to" "[I" ∈ k_TB := k_tb 204 (by decide +kernel) rfl
theorem wd_211 : Cond.fieldLink "TaleShares$Terrace" 30 "TaleShares$Terrace" "mixedRow" "[I" ∈ k_TB := k_tb 211 (by decide +kernel) rfl
theorem wd_298 : Cond.arrayClass .long ∈ k_TB := k_tb 298 (by decide +kernel) rfl
theorem wd_297 : Cond.arrayClass .byte ∈ k_TB := k_tb 297 (by decide +kernel) rfl
theorem wd_252 : Cond.classLink "TaleShares$Reader" 15 "TaleShares$Terrace" ∈ k_TB := k_tb 252 (by decide +kernel) rfl
theorem wd_152 : Cond.instantiable "TaleShares$Terrace" 15 ∈ k_TB := k_tb 152 (by decide +kernel) rfl
theorem wd_120 : Cond.initialized "TaleShares$Terrace" ∈ k_TB := k_tb 120 (by decide +kernel) rfl
theorem wd_1400 : Cond.fieldLink "TaleSharesModel$Terrace" 9 "TaleSharesModel$Terrace" "kings" "I" ∈ k_TB := k_tb 1400 (by decide +kernel) rfl
theorem wd_1412 : Cond.fieldLink "TaleSharesModel$Terrace" 15 "TaleSharesModel$Terrace" "kind" "[I" ∈ k_TB := k_tb 1412 (by decide +kernel) rfl
theorem wd_1414 : Cond.fieldLink "TaleSharesModel$Terrace" 19 "TaleSharesModel$Terrace" "next" "[I" ∈ k_TB := k_tb 1414 (by decide +kernel) rfl
theorem wd_1416 : Cond.fieldLink "TaleSharesModel$Terrace" 22 "TaleSharesModel$Terrace" "place" "[I" ∈ k_TB := k_tb 1416 (by decide +kernel) rfl
theorem wd_1418 : Cond.fieldLink "TaleSharesModel$Terrace" 25 "TaleSharesModel$Terrace" "from" "[I" ∈ k_TB := k_tb 1418 (by decide +kernel) rfl
theorem wd_1420 : Cond.fieldLink "TaleSharesModel$Terrace" 28 "TaleSharesModel$Terrace" "to" "[I" ∈ k_TB := k_tb 1420 (by decide +kernel) rfl
theorem wd_1422 : Cond.fieldLink "TaleSharesModel$Terrace" 31 "TaleSharesModel$Terrace" "hears" "[I" ∈ k_TB := k_tb 1422 (by decide +kernel) rfl
theorem wd_1424 : Cond.fieldLink "TaleSharesModel$Terrace" 34 "TaleSharesModel$Terrace" "mix" "[I" ∈ k_TB := k_tb 1424 (by decide +kernel) rfl
theorem wd_1428 : Cond.fieldLink "TaleSharesModel$Terrace" 41 "TaleSharesModel$Terrace" "nameSort" "[I" ∈ k_TB := k_tb 1428 (by decide +kernel) rfl
theorem wd_1430 : Cond.fieldLink "TaleSharesModel$Terrace" 44 "TaleSharesModel$Terrace" "numberOf" "[I" ∈ k_TB := k_tb 1430 (by decide +kernel) rfl
theorem wd_151 : Cond.classLink "TaleShares" 7 "TaleShares$Terrace" ∈ k_TB := k_tb 151 (by decide +kernel) rfl
theorem wd_246 : Cond.classLink "TaleShares" 16 "TaleShares$Reader" ∈ k_TB := k_tb 246 (by decide +kernel) rfl
theorem wd_247 : Cond.instantiable "TaleShares$Reader" 13 ∈ k_TB := k_tb 247 (by decide +kernel) rfl
theorem wd_121 : Cond.initialized "TaleShares$Reader" ∈ k_TB := k_tb 121 (by decide +kernel) rfl
theorem wd_299 : Cond.classLink "TaleShares" 23 "TaleShares$Tales" ∈ k_TB := k_tb 299 (by decide +kernel) rfl
theorem wd_300 : Cond.instantiable "TaleShares$Tales" 3 ∈ k_TB := k_tb 300 (by decide +kernel) rfl
theorem wd_122 : Cond.initialized "TaleShares$Tales" ∈ k_TB := k_tb 122 (by decide +kernel) rfl
theorem wd_317 : Cond.classLink "TaleShares" 30 "TaleShares$Park" ∈ k_TB := k_tb 317 (by decide +kernel) rfl
theorem wd_318 : Cond.instantiable "TaleShares$Park" 6 ∈ k_TB := k_tb 318 (by decide +kernel) rfl
theorem wd_123 : Cond.initialized "TaleShares$Park" ∈ k_TB := k_tb 123 (by decide +kernel) rfl
theorem wd_342 : Cond.classLink "TaleShares" 37 "TaleShares$Timetable" ∈ k_TB := k_tb 342 (by decide +kernel) rfl
theorem wd_343 : Cond.instantiable "TaleShares$Timetable" 5 ∈ k_TB := k_tb 343 (by decide +kernel) rfl
theorem wd_124 : Cond.initialized "TaleShares$Timetable" ∈ k_TB := k_tb 124 (by decide +kernel) rfl
theorem wd_368 : Cond.classLink "TaleShares" 44 "TaleShares$Slips" ∈ k_TB := k_tb 368 (by decide +kernel) rfl
theorem wd_369 : Cond.instantiable "TaleShares$Slips" 4 ∈ k_TB := k_tb 369 (by decide +kernel) rfl
theorem wd_125 : Cond.initialized "TaleShares$Slips" ∈ k_TB := k_tb 125 (by decide +kernel) rfl
theorem wd_390 : Cond.classLink "TaleShares" 51 "TaleShares$Evening" ∈ k_TB := k_tb 390 (by decide +kernel) rfl
theorem wd_391 : Cond.instantiable "TaleShares$Evening" 2 ∈ k_TB := k_tb 391 (by decide +kernel) rfl
theorem wd_126 : Cond.initialized "TaleShares$Evening" ∈ k_TB := k_tb 126 (by decide +kernel) rfl
theorem wd_405 : Cond.classLink "TaleShares" 58 "TaleShares$Now" ∈ k_TB := k_tb 405 (by decide +kernel) rfl
theorem wd_406 : Cond.instantiable "TaleShares$Now" 7 ∈ k_TB := k_tb 406 (by decide +kernel) rfl
theorem wd_127 : Cond.initialized "TaleShares$Now" ∈ k_TB := k_tb 127 (by decide +kernel) rfl
theorem wo_I : Cond.instanceMethod objectInit ∈ k_TB := k_tb 149 (by decide +kernel) rfl
theorem wo_C : Cond.code objectInit ⟨#[0xb1]⟩ 1 none ∈ k_TB := k_tb 150 (by decide +kernel) rfl
theorem ka_perm {p : Program} {l : Launch} {e : Env} {R : Room} {s : State} {m : MethodId} {args : Array Value} {below : List Frame} {meth : Method} {c : Code} {Q : State → Prop} {nL cells slots : Nat} {G : k_G} {A : Nat → Prop} {w w' : va_W} {pc : Nat} {lv : List (Nat × Value)} {st : List Value} (is : List Nat) (hn : va_nd is = true) (h1 : is.filterMap (fun i => w[i]?) = w') (h2 : is.map (fun i => w[i]?) = w'.map some) (k : k_GoA p l e R s m args below meth c Q nL G A cells slots w' pc lv st) : k_GoA p l e R s m args below meth c Q nL G A cells slots w pc lv st := fun H locs ls hP hD hS hl => k H locs ls (hP.sub is h1) (hD.sub is hn h2) hS hl
theorem dX8_init_0 : decode cX8_init 0 = .ok (.aload_n 0, 1) := by decide +kernel
theorem dX8_init_1 : decode cX8_init 1 = .ok (.invokespecial 3, 3) := by decide +kernel
theorem dX8_init_4 : decode cX8_init 4 = .ok (.aload_n 0, 1) := by decide +kernel
theorem dX8_init_5 : decode cX8_init 5 = .ok (.bipush 8, 2) := by decide +kernel
theorem dX8_init_7 : decode cX8_init 7 = .ok (.newarray .int, 2) := by decide +kernel
theorem dX8_init_9 : decode cX8_init 9 = .ok (.putfield 9, 3) := by decide +kernel
theorem dX8_init_12 : decode cX8_init 12 = .ok (.aload_n 0, 1) := by decide +kernel
theorem dX8_init_13 : decode cX8_init 13 = .ok (.bipush 8, 2) := by decide +kernel
theorem dX8_init_15 : decode cX8_init 15 = .ok (.newarray .int, 2) := by decide +kernel
theorem dX8_init_17 : decode cX8_init 17 = .ok (.putfield 15, 3) := by decide +kernel
theorem dX8_init_20 : decode cX8_init 20 = .ok (.aload_n 0, 1) := by decide +kernel
theorem dX8_init_21 : decode cX8_init 21 = .ok (.iconst 5, 1) := by decide +kernel
theorem dX8_init_22 : decode cX8_init 22 = .ok (.newarray .int, 2) := by decide +kernel
theorem dX8_init_24 : decode cX8_init 24 = .ok (.putfield 18, 3) := by decide +kernel
theorem dX8_init_27 : decode cX8_init 27 = .ok (.aload_n 0, 1) := by decide +kernel
theorem dX8_init_28 : decode cX8_init 28 = .ok (.iconst 5, 1) := by decide +kernel
theorem dX8_init_29 : decode cX8_init 29 = .ok (.newarray .int, 2) := by decide +kernel
theorem dX8_init_31 : decode cX8_init 31 = .ok (.putfield 21, 3) := by decide +kernel
theorem dX8_init_34 : decode cX8_init 34 = .ok (.aload_n 0, 1) := by decide +kernel
theorem dX8_init_35 : decode cX8_init 35 = .ok (.iconst 5, 1) := by decide +kernel
theorem dX8_init_36 : decode cX8_init 36 = .ok (.newarray .int, 2) := by decide +kernel
theorem dX8_init_38 : decode cX8_init 38 = .ok (.putfield 24, 3) := by decide +kernel
theorem dX8_init_41 : decode cX8_init 41 = .ok (.aload_n 0, 1) := by decide +kernel
theorem dX8_init_42 : decode cX8_init 42 = .ok (.iconst 5, 1) := by decide +kernel
theorem dX8_init_43 : decode cX8_init 43 = .ok (.newarray .int, 2) := by decide +kernel
theorem dX8_init_45 : decode cX8_init 45 = .ok (.putfield 27, 3) := by decide +kernel
theorem dX8_init_48 : decode cX8_init 48 = .ok (.aload_n 0, 1) := by decide +kernel
theorem dX8_init_49 : decode cX8_init 49 = .ok (.bipush 6, 2) := by decide +kernel
theorem dX8_init_51 : decode cX8_init 51 = .ok (.newarray .int, 2) := by decide +kernel
theorem dX8_init_53 : decode cX8_init 53 = .ok (.putfield 30, 3) := by decide +kernel
theorem dX8_init_56 : decode cX8_init 56 = .ok (.return_, 1) := by decide +kernel
theorem wo_156 : Cond.methodLink "TaleShares$Terrace" 3 objectInit ∈ k_TB := k_tb 156 (by decide +kernel) rfl
def rm_X8_init : Room := { frames := 1, cells := 7, slots := 42, locals := 52 }
theorem i_X8_init (l : Launch) (G : k_G) (h : Nat) : k_MV l G yX8_init cX8_init 1 rm_X8_init [(h, .inr (6, [.int 0, .int 0, .int 0, .int 0, .int 0, .int 0, .int 0, .int 0, .null, .null, .null, .null, .null, .null, .null]))] [.ref h] (fun u => ∃ (q0 q1 q2 q3 q4 q5 q6 : Nat), u = [(h, .inr (6, [.int 0, .int 0, .int 0, .int 0, .int 0, .int 0, .int 0, .int 0, .ref q0, .ref q1, .ref q2, .ref q3, .ref q4, .ref q5, .ref q6])), (q0, .inl (G.2.1 1, 8, .inl (fun _ => 0))), (q1, .inl (G.2.1 1, 8, .inl (fun _ => 0))), (q2, .inl (G.2.1 1, 5, .inl (fun _ => 0))), (q3, .inl (G.2.1 1, 5, .inl (fun _ => 0))), (q4, .inl (G.2.1 1, 5, .inl (fun _ => 0))), (q5, .inl (G.2.1 1, 5, .inl (fun _ => 0))), (q6, .inl (G.2.1 1, 6, .inl (fun _ => 0)))]) 7 42 := by
  refine k_startMV (lv := [(0, .ref h)]) (by decide +kernel) (Nat.le_of_ble_eq_true rfl) rfl ?_
  intro p e s m args below meth c hA hin hr
  have hA : k_Amb p s m args meth c cX8_init 1 "TaleShares$Terrace" G _ := hA
  have hin : meth.name = "<init>" := hin
  refine ka_aload_n (i := 0) hA dX8_init_0 rfl 0 rfl ?_
  refine ka_objInit hA wo_156 wo_I wo_C (Nat.le_of_ble_eq_true rfl) (Nat.le_of_ble_eq_true rfl) dX8_init_1 ?_
  refine ka_aload_n (i := 0) hA dX8_init_4 rfl 0 rfl ?_
  refine ka_bipush hA dX8_init_5 kc_b_8 ?_
  refine ka_newI (N := 8) hA wd_245 (by decide) (by decide) (Nat.le_of_ble_eq_true rfl) (Nat.le_of_ble_eq_true rfl) (Nat.le_of_ble_eq_true rfl) dX8_init_7 (fun q0 => ?_)
  refine ka_putF (q0 := 0) (fs := [.int 0, .int 0, .int 0, .int 0, .int 0, .int 0, .int 0, .int 0, .null, .null, .null, .null, .null, .null, .null]) (w' := [(h, .inr (6, [.int 0, .int 0, .int 0, .int 0, .int 0, .int 0, .int 0, .int 0, .ref q0, .null, .null, .null, .null, .null, .null])), (q0, .inl (G.2.1 1, 8, .inl (fun _ => 0)))]) hA k_in_X8 tyX8 tyX8_ok nmX8 rfl rfl 8 (by decide) wd_189 rfl hin rfl (v := .ref q0) rfl rfl (Nat.le_of_ble_eq_true rfl) rfl dX8_init_9 ?_
  refine ka_aload_n (i := 0) hA dX8_init_12 rfl 0 rfl ?_
  refine ka_bipush hA dX8_init_13 kc_b_8 ?_
  refine ka_newI (N := 8) hA wd_245 (by decide) (by decide) (Nat.le_of_ble_eq_true rfl) (Nat.le_of_ble_eq_true rfl) (Nat.le_of_ble_eq_true rfl) dX8_init_15 (fun q1 => ?_)
  refine ka_putF (q0 := 0) (fs := [.int 0, .int 0, .int 0, .int 0, .int 0, .int 0, .int 0, .int 0, .ref q0, .null, .null, .null, .null, .null, .null]) (w' := [(h, .inr (6, [.int 0, .int 0, .int 0, .int 0, .int 0, .int 0, .int 0, .int 0, .ref q0, .ref q1, .null, .null, .null, .null, .null])), (q0, .inl (G.2.1 1, 8, .inl (fun _ => 0))), (q1, .inl (G.2.1 1, 8, .inl (fun _ => 0)))]) hA k_in_X8 tyX8 tyX8_ok nmX8 rfl rfl 9 (by decide) wd_193 rfl hin rfl (v := .ref q1) rfl rfl (Nat.le_of_ble_eq_true rfl) rfl dX8_init_17 ?_
  refine ka_aload_n (i := 0) hA dX8_init_20 rfl 0 rfl ?_
  refine ka_iconst hA dX8_init_21 kc_i_5 ?_
  refine ka_newI (N := 5) hA wd_245 (by decide) (by decide) (Nat.le_of_ble_eq_true rfl) (Nat.le_of_ble_eq_true rfl) (Nat.le_of_ble_eq_true rfl) dX8_init_22 (fun q2 => ?_)
  refine ka_putF (q0 := 0) (fs := [.int 0, .int 0, .int 0, .int 0, .int 0, .int 0, .int 0, .int 0, .ref q0, .ref q1, .null, .null, .null, .null, .null]) (w' := [(h, .inr (6, [.int 0, .int 0, .int 0, .int 0, .int 0, .int 0, .int 0, .int 0, .ref q0, .ref q1, .ref q2, .null, .null, .null, .null])), (q0, .inl (G.2.1 1, 8, .inl (fun _ => 0))), (q1, .inl (G.2.1 1, 8, .inl (fun _ => 0))), (q2, .inl (G.2.1 1, 5, .inl (fun _ => 0)))]) hA k_in_X8 tyX8 tyX8_ok nmX8 rfl rfl 10 (by decide) wd_196 rfl hin rfl (v := .ref q2) rfl rfl (Nat.le_of_ble_eq_true rfl) rfl dX8_init_24 ?_
  refine ka_aload_n (i := 0) hA dX8_init_27 rfl 0 rfl ?_
  refine ka_iconst hA dX8_init_28 kc_i_5 ?_
  refine ka_newI (N := 5) hA wd_245 (by decide) (by decide) (Nat.le_of_ble_eq_true rfl) (Nat.le_of_ble_eq_true rfl) (Nat.le_of_ble_eq_true rfl) dX8_init_29 (fun q3 => ?_)
  refine ka_putF (q0 := 0) (fs := [.int 0, .int 0, .int 0, .int 0, .int 0, .int 0, .int 0, .int 0, .ref q0, .ref q1, .ref q2, .null, .null, .null, .null]) (w' := [(h, .inr (6, [.int 0, .int 0, .int 0, .int 0, .int 0, .int 0, .int 0, .int 0, .ref q0, .ref q1, .ref q2, .ref q3, .null, .null, .null])), (q0, .inl (G.2.1 1, 8, .inl (fun _ => 0))), (q1, .inl (G.2.1 1, 8, .inl (fun _ => 0))), (q2, .inl (G.2.1 1, 5, .inl (fun _ => 0))), (q3, .inl (G.2.1 1, 5, .inl (fun _ => 0)))]) hA k_in_X8 tyX8 tyX8_ok nmX8 rfl rfl 11 (by decide) wd_200 rfl hin rfl (v := .ref q3) rfl rfl (Nat.le_of_ble_eq_true rfl) rfl dX8_init_31 ?_
  refine ka_aload_n (i := 0) hA dX8_init_34 rfl 0 rfl ?_
  refine ka_iconst hA dX8_init_35 kc_i_5 ?_
  refine ka_newI (N := 5) hA wd_245 (by decide) (by decide) (Nat.le_of_ble_eq_true rfl) (Nat.le_of_ble_eq_true rfl) (Nat.le_of_ble_eq_true rfl) dX8_init_36 (fun q4 => ?_)
  refine ka_putF (q0 := 0) (fs := [.int 0, .int 0, .int 0, .int 0, .int 0, .int 0, .int 0, .int 0, .ref q0, .ref q1, .ref q2, .ref q3, .null, .null, .null]) (w' := [(h, .inr (6, [.int 0, .int 0, .int 0, .int 0, .int 0, .int 0, .int 0, .int 0, .ref q0, .ref q1, .ref q2, .ref q3, .ref q4, .null, .null])), (q0, .inl (G.2.1 1, 8, .inl (fun _ => 0))), (q1, .inl (G.2.1 1, 8, .inl (fun _ => 0))), (q2, .inl (G.2.1 1, 5, .inl (fun _ => 0))), (q3, .inl (G.2.1 1, 5, .inl (fun _ => 0))), (q4, .inl (G.2.1 1, 5, .inl (fun _ => 0)))]) hA k_in_X8 tyX8 tyX8_ok nmX8 rfl rfl 12 (by decide) wd_204 rfl hin rfl (v := .ref q4) rfl rfl (Nat.le_of_ble_eq_true rfl) rfl dX8_init_38 ?_
  refine ka_aload_n (i := 0) hA dX8_init_41 rfl 0 rfl ?_
  refine ka_iconst hA dX8_init_42 kc_i_5 ?_
  refine ka_newI (N := 5) hA wd_245 (by decide) (by decide) (Nat.le_of_ble_eq_true rfl) (Nat.le_of_ble_eq_true rfl) (Nat.le_of_ble_eq_true rfl) dX8_init_43 (fun q5 => ?_)
  refine ka_putF (q0 := 0) (fs := [.int 0, .int 0, .int 0, .int 0, .int 0, .int 0, .int 0, .int 0, .ref q0, .ref q1, .ref q2, .ref q3, .ref q4, .null, .null]) (w' := [(h, .inr (6, [.int 0, .int 0, .int 0, .int 0, .int 0, .int 0, .int 0, .int 0, .ref q0, .ref q1, .ref q2, .ref q3, .ref q4, .ref q5, .null])), (q0, .inl (G.2.1 1, 8, .inl (fun _ => 0))), (q1, .inl (G.2.1 1, 8, .inl (fun _ => 0))), (q2, .inl (G.2.1 1, 5, .inl (fun _ => 0))), (q3, .inl (G.2.1 1, 5, .inl (fun _ => 0))), (q4, .inl (G.2.1 1, 5, .inl (fun _ => 0))), (q5, .inl (G.2.1 1, 5, .inl (fun _ => 0)))]) hA k_in_X8 tyX8 tyX8_ok nmX8 rfl rfl 13 (by decide) wd_208 rfl hin rfl (v := .ref q5) rfl rfl (Nat.le_of_ble_eq_true rfl) rfl dX8_init_45 ?_
  refine ka_aload_n (i := 0) hA dX8_init_48 rfl 0 rfl ?_
  refine ka_bipush hA dX8_init_49 kc_b_6 ?_
  refine ka_newI (N := 6) hA wd_245 (by decide) (by decide) (Nat.le_of_ble_eq_true rfl) (Nat.le_of_ble_eq_true rfl) (Nat.le_of_ble_eq_true rfl) dX8_init_51 (fun q6 => ?_)
  refine ka_putF (q0 := 0) (fs := [.int 0, .int 0, .int 0, .int 0, .int 0, .int 0, .int 0, .int 0, .ref q0, .ref q1, .ref q2, .ref q3, .ref q4, .ref q5, .null]) (w' := [(h, .inr (6, [.int 0, .int 0, .int 0, .int 0, .int 0, .int 0, .int 0, .int 0, .ref q0, .ref q1, .ref q2, .ref q3, .ref q4, .ref q5, .ref q6])), (q0, .inl (G.2.1 1, 8, .inl (fun _ => 0))), (q1, .inl (G.2.1 1, 8, .inl (fun _ => 0))), (q2, .inl (G.2.1 1, 5, .inl (fun _ => 0))), (q3, .inl (G.2.1 1, 5, .inl (fun _ => 0))), (q4, .inl (G.2.1 1, 5, .inl (fun _ => 0))), (q5, .inl (G.2.1 1, 5, .inl (fun _ => 0))), (q6, .inl (G.2.1 1, 6, .inl (fun _ => 0)))]) hA k_in_X8 tyX8 tyX8_ok nmX8 rfl rfl 14 (by decide) wd_211 rfl hin rfl (v := .ref q6) rfl rfl (Nat.le_of_ble_eq_true rfl) rfl dX8_init_53 ?_
  exact ka_vret hA hr ⟨q0, q1, q2, q3, q4, q5, q6, rfl⟩ dX8_init_56
theorem dX7_init_0 : decode cX7_init 0 = .ok (.aload_n 0, 1) := by decide +kernel
theorem dX7_init_1 : decode cX7_init 1 = .ok (.invokespecial 3, 3) := by decide +kernel
theorem dX7_init_4 : decode cX7_init 4 = .ok (.aload_n 0, 1) := by decide +kernel
theorem dX7_init_5 : decode cX7_init 5 = .ok (.sipush 162, 3) := by decide +kernel
theorem dX7_init_8 : decode cX7_init 8 = .ok (.newarray .int, 2) := by decide +kernel
theorem dX7_init_10 : decode cX7_init 10 = .ok (.putfield 11, 3) := by decide +kernel
theorem dX7_init_13 : decode cX7_init 13 = .ok (.aload_n 0, 1) := by decide +kernel
theorem dX7_init_14 : decode cX7_init 14 = .ok (.sipush 162, 3) := by decide +kernel
theorem dX7_init_17 : decode cX7_init 17 = .ok (.newarray .int, 2) := by decide +kernel
theorem dX7_init_19 : decode cX7_init 19 = .ok (.putfield 15, 3) := by decide +kernel
theorem dX7_init_22 : decode cX7_init 22 = .ok (.return_, 1) := by decide +kernel
theorem wo_304 : Cond.methodLink "TaleShares$Tales" 3 objectInit ∈ k_TB := k_tb 304 (by decide +kernel) rfl
def rm_X7_init : Room := { frames := 1, cells := 2, slots := 324, locals := 52 }
theorem i_X7_init (l : Launch) (G : k_G) (h : Nat) : k_MV l G yX7_init cX7_init 1 rm_X7_init [(h, .inr (5, [.int 0, .null, .null]))] [.ref h] (fun u => ∃ (q0 q1 : Nat), u = [(h, .inr (5, [.int 0, .ref q0, .ref q1])), (q0, .inl (G.2.1 1, 162, .inl (fun _ => 0))), (q1, .inl (G.2.1 1, 162, .inl (fun _ => 0)))]) 2 324 := by
  refine k_startMV (lv := [(0, .ref h)]) (by decide +kernel) (Nat.le_of_ble_eq_true rfl) rfl ?_
  intro p e s m args below meth c hA hin hr
  have hA : k_Amb p s m args meth c cX7_init 1 "TaleShares$Tales" G _ := hA
  have hin : meth.name = "<init>" := hin
  refine ka_aload_n (i := 0) hA dX7_init_0 rfl 0 rfl ?_
  refine ka_objInit hA wo_304 wo_I wo_C (Nat.le_of_ble_eq_true rfl) (Nat.le_of_ble_eq_true rfl) dX7_init_1 ?_
  refine ka_aload_n (i := 0) hA dX7_init_4 rfl 0 rfl ?_
  refine ka_sipush hA dX7_init_5 kc_s_162 ?_
  refine ka_newI (N := 162) hA wd_245 (by decide) (by decide) (Nat.le_of_ble_eq_true rfl) (Nat.le_of_ble_eq_true rfl) (Nat.le_of_ble_eq_true rfl) dX7_init_8 (fun q0 => ?_)
  refine ka_putF (q0 := 0) (fs := [.int 0, .null, .null]) (w' := [(h, .inr (5, [.int 0, .ref q0, .null])), (q0, .inl (G.2.1 1, 162, .inl (fun _ => 0)))]) hA k_in_X7 tyX7 tyX7_ok nmX7 rfl rfl 1 (by decide) wd_308 rfl hin rfl (v := .ref q0) rfl rfl (Nat.le_of_ble_eq_true rfl) rfl dX7_init_10 ?_
  refine ka_aload_n (i := 0) hA dX7_init_13 rfl 0 rfl ?_
  refine ka_sipush hA dX7_init_14 kc_s_162 ?_
  refine ka_newI (N := 162) hA wd_245 (by decide) (by decide) (Nat.le_of_ble_eq_true rfl) (Nat.le_of_ble_eq_true rfl) (Nat.le_of_ble_eq_true rfl) dX7_init_17 (fun q1 => ?_)
  refine ka_putF (q0 := 0) (fs := [.int 0, .ref q0, .null]) (w' := [(h, .inr (5, [.int 0, .ref q0, .ref q1])), (q0, .inl (G.2.1 1, 162, .inl (fun _ => 0))), (q1, .inl (G.2.1 1, 162, .inl (fun _ => 0)))]) hA k_in_X7 tyX7 tyX7_ok nmX7 rfl rfl 2 (by decide) wd_309 rfl hin rfl (v := .ref q1) rfl rfl (Nat.le_of_ble_eq_true rfl) rfl dX7_init_19 ?_
  exact ka_vret hA hr ⟨q0, q1, rfl⟩ dX7_init_22
theorem dX4_init_0 : decode cX4_init 0 = .ok (.aload_n 0, 1) := by decide +kernel
theorem dX4_init_1 : decode cX4_init 1 = .ok (.invokespecial 3, 3) := by decide +kernel
theorem dX4_init_4 : decode cX4_init 4 = .ok (.aload_n 0, 1) := by decide +kernel
theorem dX4_init_5 : decode cX4_init 5 = .ok (.bipush 26, 2) := by decide +kernel
theorem dX4_init_7 : decode cX4_init 7 = .ok (.newarray .int, 2) := by decide +kernel
theorem dX4_init_9 : decode cX4_init 9 = .ok (.putfield 11, 3) := by decide +kernel
theorem dX4_init_12 : decode cX4_init 12 = .ok (.aload_n 0, 1) := by decide +kernel
theorem dX4_init_13 : decode cX4_init 13 = .ok (.iconst 3, 1) := by decide +kernel
theorem dX4_init_14 : decode cX4_init 14 = .ok (.newarray .int, 2) := by decide +kernel
theorem dX4_init_16 : decode cX4_init 16 = .ok (.putfield 15, 3) := by decide +kernel
theorem dX4_init_19 : decode cX4_init 19 = .ok (.return_, 1) := by decide +kernel
theorem wo_322 : Cond.methodLink "TaleShares$Park" 3 objectInit ∈ k_TB := k_tb 322 (by decide +kernel) rfl
def rm_X4_init : Room := { frames := 1, cells := 2, slots := 29, locals := 52 }
theorem i_X4_init (l : Launch) (G : k_G) (h : Nat) : k_MV l G yX4_init cX4_init 1 rm_X4_init [(h, .inr (2, [.null, .null, .int 0, .int 0, .int 0, .int 0]))] [.ref h] (fun u => ∃ (q0 q1 : Nat), u = [(h, .inr (2, [.ref q0, .ref q1, .int 0, .int 0, .int 0, .int 0])), (q0, .inl (G.2.1 1, 26, .inl (fun _ => 0))), (q1, .inl (G.2.1 1, 3, .inl (fun _ => 0)))]) 2 29 := by
  refine k_startMV (lv := [(0, .ref h)]) (by decide +kernel) (Nat.le_of_ble_eq_true rfl) rfl ?_
  intro p e s m args below meth c hA hin hr
  have hA : k_Amb p s m args meth c cX4_init 1 "TaleShares$Park" G _ := hA
  have hin : meth.name = "<init>" := hin
  refine ka_aload_n (i := 0) hA dX4_init_0 rfl 0 rfl ?_
  refine ka_objInit hA wo_322 wo_I wo_C (Nat.le_of_ble_eq_true rfl) (Nat.le_of_ble_eq_true rfl) dX4_init_1 ?_
  refine ka_aload_n (i := 0) hA dX4_init_4 rfl 0 rfl ?_
  refine ka_bipush hA dX4_init_5 kc_b_26 ?_
  refine ka_newI (N := 26) hA wd_245 (by decide) (by decide) (Nat.le_of_ble_eq_true rfl) (Nat.le_of_ble_eq_true rfl) (Nat.le_of_ble_eq_true rfl) dX4_init_7 (fun q0 => ?_)
  refine ka_putF (q0 := 0) (fs := [.null, .null, .int 0, .int 0, .int 0, .int 0]) (w' := [(h, .inr (2, [.ref q0, .null, .int 0, .int 0, .int 0, .int 0])), (q0, .inl (G.2.1 1, 26, .inl (fun _ => 0)))]) hA k_in_X4 tyX4 tyX4_ok nmX4 rfl rfl 0 (by decide) wd_323 rfl hin rfl (v := .ref q0) rfl rfl (Nat.le_of_ble_eq_true rfl) rfl dX4_init_9 ?_
  refine ka_aload_n (i := 0) hA dX4_init_12 rfl 0 rfl ?_
  refine ka_iconst hA dX4_init_13 kc_i_3 ?_
  refine ka_newI (N := 3) hA wd_245 (by decide) (by decide) (Nat.le_of_ble_eq_true rfl) (Nat.le_of_ble_eq_true rfl) (Nat.le_of_ble_eq_true rfl) dX4_init_14 (fun q1 => ?_)
  refine ka_putF (q0 := 0) (fs := [.ref q0, .null, .int 0, .int 0, .int 0, .int 0]) (w' := [(h, .inr (2, [.ref q0, .ref q1, .int 0, .int 0, .int 0, .int 0])), (q0, .inl (G.2.1 1, 26, .inl (fun _ => 0))), (q1, .inl (G.2.1 1, 3, .inl (fun _ => 0)))]) hA k_in_X4 tyX4 tyX4_ok nmX4 rfl rfl 1 (by decide) wd_324 rfl hin rfl (v := .ref q1) rfl rfl (Nat.le_of_ble_eq_true rfl) rfl dX4_init_16 ?_
  exact ka_vret hA hr ⟨q0, q1, rfl⟩ dX4_init_19
theorem dX9_init_0 : decode cX9_init 0 = .ok (.aload_n 0, 1) := by decide +kernel
theorem dX9_init_1 : decode cX9_init 1 = .ok (.invokespecial 3, 3) := by decide +kernel
theorem dX9_init_4 : decode cX9_init 4 = .ok (.aload_n 0, 1) := by decide +kernel
theorem dX9_init_5 : decode cX9_init 5 = .ok (.iconst 5, 1) := by decide +kernel
theorem dX9_init_6 : decode cX9_init 6 = .ok (.newarray .int, 2) := by decide +kernel
theorem dX9_init_8 : decode cX9_init 8 = .ok (.putfield 9, 3) := by decide +kernel
theorem dX9_init_11 : decode cX9_init 11 = .ok (.aload_n 0, 1) := by decide +kernel
theorem dX9_init_12 : decode cX9_init 12 = .ok (.iconst 5, 1) := by decide +kernel
theorem dX9_init_13 : decode cX9_init 13 = .ok (.newarray .int, 2) := by decide +kernel
theorem dX9_init_15 : decode cX9_init 15 = .ok (.putfield 15, 3) := by decide +kernel
theorem dX9_init_18 : decode cX9_init 18 = .ok (.aload_n 0, 1) := by decide +kernel
theorem dX9_init_19 : decode cX9_init 19 = .ok (.iconst 5, 1) := by decide +kernel
theorem dX9_init_20 : decode cX9_init 20 = .ok (.newarray .int, 2) := by decide +kernel
theorem dX9_init_22 : decode cX9_init 22 = .ok (.putfield 18, 3) := by decide +kernel
theorem dX9_init_25 : decode cX9_init 25 = .ok (.return_, 1) := by decide +kernel
theorem wo_347 : Cond.methodLink "TaleShares$Timetable" 3 objectInit ∈ k_TB := k_tb 347 (by decide +kernel) rfl
def rm_X9_init : Room := { frames := 1, cells := 3, slots := 15, locals := 52 }
theorem i_X9_init (l : Launch) (G : k_G) (h : Nat) : k_MV l G yX9_init cX9_init 1 rm_X9_init [(h, .inr (7, [.int 0, .int 0, .null, .null, .null]))] [.ref h] (fun u => ∃ (q0 q1 q2 : Nat), u = [(h, .inr (7, [.int 0, .int 0, .ref q0, .ref q1, .ref q2])), (q0, .inl (G.2.1 1, 5, .inl (fun _ => 0))), (q1, .inl (G.2.1 1, 5, .inl (fun _ => 0))), (q2, .inl (G.2.1 1, 5, .inl (fun _ => 0)))]) 3 15 := by
  refine k_startMV (lv := [(0, .ref h)]) (by decide +kernel) (Nat.le_of_ble_eq_true rfl) rfl ?_
  intro p e s m args below meth c hA hin hr
  have hA : k_Amb p s m args meth c cX9_init 1 "TaleShares$Timetable" G _ := hA
  have hin : meth.name = "<init>" := hin
  refine ka_aload_n (i := 0) hA dX9_init_0 rfl 0 rfl ?_
  refine ka_objInit hA wo_347 wo_I wo_C (Nat.le_of_ble_eq_true rfl) (Nat.le_of_ble_eq_true rfl) dX9_init_1 ?_
  refine ka_aload_n (i := 0) hA dX9_init_4 rfl 0 rfl ?_
  refine ka_iconst hA dX9_init_5 kc_i_5 ?_
  refine ka_newI (N := 5) hA wd_245 (by decide) (by decide) (Nat.le_of_ble_eq_true rfl) (Nat.le_of_ble_eq_true rfl) (Nat.le_of_ble_eq_true rfl) dX9_init_6 (fun q0 => ?_)
  refine ka_putF (q0 := 0) (fs := [.int 0, .int 0, .null, .null, .null]) (w' := [(h, .inr (7, [.int 0, .int 0, .ref q0, .null, .null])), (q0, .inl (G.2.1 1, 5, .inl (fun _ => 0)))]) hA k_in_X9 tyX9 tyX9_ok nmX9 rfl rfl 2 (by decide) wd_352 rfl hin rfl (v := .ref q0) rfl rfl (Nat.le_of_ble_eq_true rfl) rfl dX9_init_8 ?_
  refine ka_aload_n (i := 0) hA dX9_init_11 rfl 0 rfl ?_
  refine ka_iconst hA dX9_init_12 kc_i_5 ?_
  refine ka_newI (N := 5) hA wd_245 (by decide) (by decide) (Nat.le_of_ble_eq_true rfl) (Nat.le_of_ble_eq_true rfl) (Nat.le_of_ble_eq_true rfl) dX9_init_13 (fun q1 => ?_)
  refine ka_putF (q0 := 0) (fs := [.int 0, .int 0, .ref q0, .null, .null]) (w' := [(h, .inr (7, [.int 0, .int 0, .ref q0, .ref q1, .null])), (q0, .inl (G.2.1 1, 5, .inl (fun _ => 0))), (q1, .inl (G.2.1 1, 5, .inl (fun _ => 0)))]) hA k_in_X9 tyX9 tyX9_ok nmX9 rfl rfl 3 (by decide) wd_354 rfl hin rfl (v := .ref q1) rfl rfl (Nat.le_of_ble_eq_true rfl) rfl dX9_init_15 ?_
  refine ka_aload_n (i := 0) hA dX9_init_18 rfl 0 rfl ?_
  refine ka_iconst hA dX9_init_19 kc_i_5 ?_
  refine ka_newI (N := 5) hA wd_245 (by decide) (by decide) (Nat.le_of_ble_eq_true rfl) (Nat.le_of_ble_eq_true rfl) (Nat.le_of_ble_eq_true rfl) dX9_init_20 (fun q2 => ?_)
  refine ka_putF (q0 := 0) (fs := [.int 0, .int 0, .ref q0, .ref q1, .null]) (w' := [(h, .inr (7, [.int 0, .int 0, .ref q0, .ref q1, .ref q2])), (q0, .inl (G.2.1 1, 5, .inl (fun _ => 0))), (q1, .inl (G.2.1 1, 5, .inl (fun _ => 0))), (q2, .inl (G.2.1 1, 5, .inl (fun _ => 0)))]) hA k_in_X9 tyX9 tyX9_ok nmX9 rfl rfl 4 (by decide) wd_356 rfl hin rfl (v := .ref q2) rfl rfl (Nat.le_of_ble_eq_true rfl) rfl dX9_init_22 ?_
  exact ka_vret hA hr ⟨q0, q1, q2, rfl⟩ dX9_init_25
theorem dX6_init_0 : decode cX6_init 0 = .ok (.aload_n 0, 1) := by decide +kernel
theorem dX6_init_1 : decode cX6_init 1 = .ok (.invokespecial 3, 3) := by decide +kernel
theorem dX6_init_4 : decode cX6_init 4 = .ok (.aload_n 0, 1) := by decide +kernel
theorem dX6_init_5 : decode cX6_init 5 = .ok (.bipush 9, 2) := by decide +kernel
theorem dX6_init_7 : decode cX6_init 7 = .ok (.newarray .int, 2) := by decide +kernel
theorem dX6_init_9 : decode cX6_init 9 = .ok (.putfield 9, 3) := by decide +kernel
theorem dX6_init_12 : decode cX6_init 12 = .ok (.return_, 1) := by decide +kernel
theorem wo_373 : Cond.methodLink "TaleShares$Slips" 3 objectInit ∈ k_TB := k_tb 373 (by decide +kernel) rfl
def rm_X6_init : Room := { frames := 1, cells := 1, slots := 9, locals := 52 }
theorem i_X6_init (l : Launch) (G : k_G) (h : Nat) : k_MV l G yX6_init cX6_init 1 rm_X6_init [(h, .inr (4, [.int 0, .int 0, .int 0, .null]))] [.ref h] (fun u => ∃ (q0 : Nat), u = [(h, .inr (4, [.int 0, .int 0, .int 0, .ref q0])), (q0, .inl (G.2.1 1, 9, .inl (fun _ => 0)))]) 1 9 := by
  refine k_startMV (lv := [(0, .ref h)]) (by decide +kernel) (Nat.le_of_ble_eq_true rfl) rfl ?_
  intro p e s m args below meth c hA hin hr
  have hA : k_Amb p s m args meth c cX6_init 1 "TaleShares$Slips" G _ := hA
  have hin : meth.name = "<init>" := hin
  refine ka_aload_n (i := 0) hA dX6_init_0 rfl 0 rfl ?_
  refine ka_objInit hA wo_373 wo_I wo_C (Nat.le_of_ble_eq_true rfl) (Nat.le_of_ble_eq_true rfl) dX6_init_1 ?_
  refine ka_aload_n (i := 0) hA dX6_init_4 rfl 0 rfl ?_
  refine ka_bipush hA dX6_init_5 kc_b_9 ?_
  refine ka_newI (N := 9) hA wd_245 (by decide) (by decide) (Nat.le_of_ble_eq_true rfl) (Nat.le_of_ble_eq_true rfl) (Nat.le_of_ble_eq_true rfl) dX6_init_7 (fun q0 => ?_)
  refine ka_putF (q0 := 0) (fs := [.int 0, .int 0, .int 0, .null]) (w' := [(h, .inr (4, [.int 0, .int 0, .int 0, .ref q0])), (q0, .inl (G.2.1 1, 9, .inl (fun _ => 0)))]) hA k_in_X6 tyX6 tyX6_ok nmX6 rfl rfl 3 (by decide) wd_380 rfl hin rfl (v := .ref q0) rfl rfl (Nat.le_of_ble_eq_true rfl) rfl dX6_init_9 ?_
  exact ka_vret hA hr ⟨q0, rfl⟩ dX6_init_12
theorem dX1_init_0 : decode cX1_init 0 = .ok (.aload_n 0, 1) := by decide +kernel
theorem dX1_init_1 : decode cX1_init 1 = .ok (.invokespecial 3, 3) := by decide +kernel
theorem dX1_init_4 : decode cX1_init 4 = .ok (.return_, 1) := by decide +kernel
theorem wo_395 : Cond.methodLink "TaleShares$Evening" 3 objectInit ∈ k_TB := k_tb 395 (by decide +kernel) rfl
def rm_X1_init : Room := { frames := 1, cells := 0, slots := 0, locals := 52 }
theorem i_X1_init (l : Launch) (G : k_G) (h : Nat) : k_MV l G yX1_init cX1_init 1 rm_X1_init [(h, .inr (0, [.int 0, .int 0]))] [.ref h] (fun u => u = [(h, .inr (0, [.int 0, .int 0]))]) 0 0 := by
  refine k_startMV (lv := [(0, .ref h)]) (by decide +kernel) (Nat.le_of_ble_eq_true rfl) rfl ?_
  intro p e s m args below meth c hA hin hr
  have hA : k_Amb p s m args meth c cX1_init 1 "TaleShares$Evening" G _ := hA
  have hin : meth.name = "<init>" := hin
  refine ka_aload_n (i := 0) hA dX1_init_0 rfl 0 rfl ?_
  refine ka_objInit hA wo_395 wo_I wo_C (Nat.le_of_ble_eq_true rfl) (Nat.le_of_ble_eq_true rfl) dX1_init_1 ?_
  exact ka_vret hA hr rfl dX1_init_4
theorem dX3_init_0 : decode cX3_init 0 = .ok (.aload_n 0, 1) := by decide +kernel
theorem dX3_init_1 : decode cX3_init 1 = .ok (.invokespecial 3, 3) := by decide +kernel
theorem dX3_init_4 : decode cX3_init 4 = .ok (.aload_n 0, 1) := by decide +kernel
theorem dX3_init_5 : decode cX3_init 5 = .ok (.bipush 16, 2) := by decide +kernel
theorem dX3_init_7 : decode cX3_init 7 = .ok (.newarray .long, 2) := by decide +kernel
theorem dX3_init_9 : decode cX3_init 9 = .ok (.putfield 11, 3) := by decide +kernel
theorem dX3_init_12 : decode cX3_init 12 = .ok (.aload_n 0, 1) := by decide +kernel
theorem dX3_init_13 : decode cX3_init 13 = .ok (.iconst 3, 1) := by decide +kernel
theorem dX3_init_14 : decode cX3_init 14 = .ok (.newarray .long, 2) := by decide +kernel
theorem dX3_init_16 : decode cX3_init 16 = .ok (.putfield 15, 3) := by decide +kernel
theorem dX3_init_19 : decode cX3_init 19 = .ok (.return_, 1) := by decide +kernel
theorem wo_410 : Cond.methodLink "TaleShares$Now" 3 objectInit ∈ k_TB := k_tb 410 (by decide +kernel) rfl
def rm_X3_init : Room := { frames := 1, cells := 2, slots := 19, locals := 52 }
theorem i_X3_init (l : Launch) (G : k_G) (h : Nat) : k_MV l G yX3_init cX3_init 1 rm_X3_init [(h, .inr (1, [.long 0, .int 0, .int 0, .int 0, .int 0, .null, .null]))] [.ref h] (fun u => ∃ (q0 q1 : Nat), u = [(h, .inr (1, [.long 0, .int 0, .int 0, .int 0, .int 0, .ref q0, .ref q1])), (q0, .inl (G.2.1 2, 16, .inr (.inl (fun _ => 0)))), (q1, .inl (G.2.1 2, 3, .inr (.inl (fun _ => 0))))]) 2 19 := by
  refine k_startMV (lv := [(0, .ref h)]) (by decide +kernel) (Nat.le_of_ble_eq_true rfl) rfl ?_
  intro p e s m args below meth c hA hin hr
  have hA : k_Amb p s m args meth c cX3_init 1 "TaleShares$Now" G _ := hA
  have hin : meth.name = "<init>" := hin
  refine ka_aload_n (i := 0) hA dX3_init_0 rfl 0 rfl ?_
  refine ka_objInit hA wo_410 wo_I wo_C (Nat.le_of_ble_eq_true rfl) (Nat.le_of_ble_eq_true rfl) dX3_init_1 ?_
  refine ka_aload_n (i := 0) hA dX3_init_4 rfl 0 rfl ?_
  refine ka_bipush hA dX3_init_5 kc_b_16 ?_
  refine ka_newJ (N := 16) hA wd_298 (by decide) (by decide) (Nat.le_of_ble_eq_true rfl) (Nat.le_of_ble_eq_true rfl) (Nat.le_of_ble_eq_true rfl) dX3_init_7 (fun q0 => ?_)
  refine ka_putF (q0 := 0) (fs := [.long 0, .int 0, .int 0, .int 0, .int 0, .null, .null]) (w' := [(h, .inr (1, [.long 0, .int 0, .int 0, .int 0, .int 0, .ref q0, .null])), (q0, .inl (G.2.1 2, 16, .inr (.inl (fun _ => 0))))]) hA k_in_X3 tyX3 tyX3_ok nmX3 rfl rfl 5 (by decide) wd_420 rfl hin rfl (v := .ref q0) rfl rfl (Nat.le_of_ble_eq_true rfl) rfl dX3_init_9 ?_
  refine ka_aload_n (i := 0) hA dX3_init_12 rfl 0 rfl ?_
  refine ka_iconst hA dX3_init_13 kc_i_3 ?_
  refine ka_newJ (N := 3) hA wd_298 (by decide) (by decide) (Nat.le_of_ble_eq_true rfl) (Nat.le_of_ble_eq_true rfl) (Nat.le_of_ble_eq_true rfl) dX3_init_14 (fun q1 => ?_)
  refine ka_putF (q0 := 0) (fs := [.long 0, .int 0, .int 0, .int 0, .int 0, .ref q0, .null]) (w' := [(h, .inr (1, [.long 0, .int 0, .int 0, .int 0, .int 0, .ref q0, .ref q1])), (q0, .inl (G.2.1 2, 16, .inr (.inl (fun _ => 0)))), (q1, .inl (G.2.1 2, 3, .inr (.inl (fun _ => 0))))]) hA k_in_X3 tyX3 tyX3_ok nmX3 rfl rfl 6 (by decide) wd_421 rfl hin rfl (v := .ref q1) rfl rfl (Nat.le_of_ble_eq_true rfl) rfl dX3_init_16 ?_
  exact ka_vret hA hr ⟨q0, q1, rfl⟩ dX3_init_19
theorem dX5_init_0 : decode cX5_init 0 = .ok (.aload_n 0, 1) := by decide +kernel
theorem dX5_init_1 : decode cX5_init 1 = .ok (.invokespecial 3, 3) := by decide +kernel
theorem dX5_init_4 : decode cX5_init 4 = .ok (.aload_n 0, 1) := by decide +kernel
theorem dX5_init_5 : decode cX5_init 5 = .ok (.sipush 900, 3) := by decide +kernel
theorem dX5_init_8 : decode cX5_init 8 = .ok (.newarray .byte, 2) := by decide +kernel
theorem dX5_init_10 : decode cX5_init 10 = .ok (.putfield 9, 3) := by decide +kernel
theorem dX5_init_13 : decode cX5_init 13 = .ok (.aload_n 0, 1) := by decide +kernel
theorem dX5_init_14 : decode cX5_init 14 = .ok (.new 15, 3) := by decide +kernel
theorem dX5_init_17 : decode cX5_init 17 = .ok (.dup, 1) := by decide +kernel
theorem dX5_init_18 : decode cX5_init 18 = .ok (.invokespecial 17, 3) := by decide +kernel
theorem dX5_init_21 : decode cX5_init 21 = .ok (.putfield 18, 3) := by decide +kernel
theorem dX5_init_24 : decode cX5_init 24 = .ok (.aload_n 0, 1) := by decide +kernel
theorem dX5_init_25 : decode cX5_init 25 = .ok (.bipush 8, 2) := by decide +kernel
theorem dX5_init_27 : decode cX5_init 27 = .ok (.newarray .long, 2) := by decide +kernel
theorem dX5_init_29 : decode cX5_init 29 = .ok (.putfield 22, 3) := by decide +kernel
theorem dX5_init_32 : decode cX5_init 32 = .ok (.aload_n 0, 1) := by decide +kernel
theorem dX5_init_33 : decode cX5_init 33 = .ok (.iconst 5, 1) := by decide +kernel
theorem dX5_init_34 : decode cX5_init 34 = .ok (.newarray .long, 2) := by decide +kernel
theorem dX5_init_36 : decode cX5_init 36 = .ok (.putfield 26, 3) := by decide +kernel
theorem dX5_init_39 : decode cX5_init 39 = .ok (.return_, 1) := by decide +kernel
theorem wo_251 : Cond.methodLink "TaleShares$Reader" 3 objectInit ∈ k_TB := k_tb 251 (by decide +kernel) rfl
theorem ni_RX5_17 : ("TaleShares$Reader", 17, yX8_init, "TaleShares") ∈ k_nM := by decide
theorem ci_X8_init : k_cardI yX8_init cX8_init 1 0 := ⟨k_tb 155 (by decide +kernel) rfl, k_tb 154 (by decide +kernel) rfl, k_tb 120 (by decide +kernel) rfl, by decide +kernel, by decide +kernel, by decide +kernel, rfl⟩
def rm_X5_init : Room := { frames := 2, cells := 11, slots := 970, locals := 92 }
theorem i_X5_init (l : Launch) (G : k_G) (h : Nat) : k_MV l G yX5_init cX5_init 1 rm_X5_init [(h, .inr (3, [.int 0, .int 0, .int 0, .null, .int 0, .int 0, .int 0, .int 0, .long 0, .int 0, .null, .null, .null]))] [.ref h] (fun u => ∃ (q0 q1 q2 q3 q4 q5 q6 q7 q8 q9 q10 : Nat), u = [(h, .inr (3, [.int 0, .int 0, .int 0, .ref q0, .int 0, .int 0, .int 0, .int 0, .long 0, .int 0, .ref q1, .ref q9, .ref q10])), (q0, .inl (G.2.1 0, 900, .inl (fun _ => 0))), (q1, .inr (6, [.int 0, .int 0, .int 0, .int 0, .int 0, .int 0, .int 0, .int 0, .ref q2, .ref q3, .ref q4, .ref q5, .ref q6, .ref q7, .ref q8])), (q2, .inl (G.2.1 1, 8, .inl (fun _ => 0))), (q3, .inl (G.2.1 1, 8, .inl (fun _ => 0))), (q4, .inl (G.2.1 1, 5, .inl (fun _ => 0))), (q5, .inl (G.2.1 1, 5, .inl (fun _ => 0))), (q6, .inl (G.2.1 1, 5, .inl (fun _ => 0))), (q7, .inl (G.2.1 1, 5, .inl (fun _ => 0))), (q8, .inl (G.2.1 1, 6, .inl (fun _ => 0))), (q9, .inl (G.2.1 2, 8, .inr (.inl (fun _ => 0)))), (q10, .inl (G.2.1 2, 5, .inr (.inl (fun _ => 0))))]) 11 970 := by
  refine k_startMV (lv := [(0, .ref h)]) (by decide +kernel) (Nat.le_of_ble_eq_true rfl) rfl ?_
  intro p e s m args below meth c hA hin hr
  have hA : k_Amb p s m args meth c cX5_init 1 "TaleShares$Reader" G _ := hA
  have hin : meth.name = "<init>" := hin
  refine ka_aload_n (i := 0) hA dX5_init_0 rfl 0 rfl ?_
  refine ka_objInit hA wo_251 wo_I wo_C (Nat.le_of_ble_eq_true rfl) (Nat.le_of_ble_eq_true rfl) dX5_init_1 ?_
  refine ka_aload_n (i := 0) hA dX5_init_4 rfl 0 rfl ?_
  refine ka_sipush hA dX5_init_5 kc_s_900 ?_
  refine ka_newB (N := 900) hA wd_297 (by decide) (by decide) (Nat.le_of_ble_eq_true rfl) (Nat.le_of_ble_eq_true rfl) (Nat.le_of_ble_eq_true rfl) dX5_init_8 (fun q0 => ?_)
  refine ka_putF (q0 := 0) (fs := [.int 0, .int 0, .int 0, .null, .int 0, .int 0, .int 0, .int 0, .long 0, .int 0, .null, .null, .null]) (w' := [(h, .inr (3, [.int 0, .int 0, .int 0, .ref q0, .int 0, .int 0, .int 0, .int 0, .long 0, .int 0, .null, .null, .null])), (q0, .inl (G.2.1 0, 900, .inl (fun _ => 0)))]) hA k_in_X5 tyX5 tyX5_ok nmX5 rfl rfl 3 (by decide) wd_260 rfl hin rfl (v := .ref q0) rfl rfl (Nat.le_of_ble_eq_true rfl) rfl dX5_init_10 ?_
  refine ka_aload_n (i := 0) hA dX5_init_13 rfl 0 rfl ?_
  refine ka_new (ci := 6) (fs := [.int 0, .int 0, .int 0, .int 0, .int 0, .int 0, .int 0, .int 0, .null, .null, .null, .null, .null, .null, .null]) hA k_in_X8 tyX8 tyX8_ok wd_252 wd_152 wd_120 rfl (fun j hj => by rcases (show j = 0 ∨ j = 1 ∨ j = 2 ∨ j = 3 ∨ j = 4 ∨ j = 5 ∨ j = 6 ∨ j = 7 ∨ j = 8 ∨ j = 9 ∨ j = 10 ∨ j = 11 ∨ j = 12 ∨ j = 13 ∨ j = 14 by omega) with rfl | rfl | rfl | rfl | rfl | rfl | rfl | rfl | rfl | rfl | rfl | rfl | rfl | rfl | rfl <;> rfl) (Nat.le_of_ble_eq_true rfl) (Nat.le_of_ble_eq_true rfl) dX5_init_14 (fun q1 => ?_)
  refine ka_dup hA dX5_init_17 rfl ?_
  refine ka_callIN (R := rm_X5_init) (cells := 2) (slots := 915) (w1 := [(h, .inr (3, [.int 0, .int 0, .int 0, .ref q0, .int 0, .int 0, .int 0, .int 0, .long 0, .int 0, .null, .null, .null])), (q0, .inl (G.2.1 0, 900, .inl (fun _ => 0)))]) (wc := [(q1, .inr (6, [.int 0, .int 0, .int 0, .int 0, .int 0, .int 0, .int 0, .int 0, .null, .null, .null, .null, .null, .null, .null]))]) (w2 := []) (As := []) (rest := [.ref q1, .ref h]) hA (i_X8_init l G q1) ci_X8_init ni_RX5_17 ⟨(Nat.le_of_ble_eq_true rfl), (Nat.le_of_ble_eq_true rfl)⟩ ⟨(Nat.le_of_ble_eq_true rfl), (Nat.le_of_ble_eq_true rfl)⟩ rfl rfl (Nat.le_of_ble_eq_true rfl) dX5_init_18 (fun u hu => ?_)
  obtain ⟨q2, q3, q4, q5, q6, q7, q8, rfl⟩ := hu
  refine ka_put (q0 := 0) (fs := [.int 0, .int 0, .int 0, .ref q0, .int 0, .int 0, .int 0, .int 0, .long 0, .int 0, .null, .null, .null]) (w' := [(h, .inr (3, [.int 0, .int 0, .int 0, .ref q0, .int 0, .int 0, .int 0, .int 0, .long 0, .int 0, .ref q1, .null, .null])), (q0, .inl (G.2.1 0, 900, .inl (fun _ => 0))), (q1, .inr (6, [.int 0, .int 0, .int 0, .int 0, .int 0, .int 0, .int 0, .int 0, .ref q2, .ref q3, .ref q4, .ref q5, .ref q6, .ref q7, .ref q8])), (q2, .inl (G.2.1 1, 8, .inl (fun _ => 0))), (q3, .inl (G.2.1 1, 8, .inl (fun _ => 0))), (q4, .inl (G.2.1 1, 5, .inl (fun _ => 0))), (q5, .inl (G.2.1 1, 5, .inl (fun _ => 0))), (q6, .inl (G.2.1 1, 5, .inl (fun _ => 0))), (q7, .inl (G.2.1 1, 5, .inl (fun _ => 0))), (q8, .inl (G.2.1 1, 6, .inl (fun _ => 0)))]) hA k_in_X5 tyX5 tyX5_ok nmX5 rfl rfl 10 (by decide) wd_267 rfl (v := .ref q1) rfl rfl (Nat.le_of_ble_eq_true rfl) rfl dX5_init_21 ?_
  refine ka_aload_n (i := 0) hA dX5_init_24 rfl 0 rfl ?_
  refine ka_bipush hA dX5_init_25 kc_b_8 ?_
  refine ka_newJ (N := 8) hA wd_298 (by decide) (by decide) (Nat.le_of_ble_eq_true rfl) (Nat.le_of_ble_eq_true rfl) (Nat.le_of_ble_eq_true rfl) dX5_init_27 (fun q9 => ?_)
  refine ka_putF (q0 := 0) (fs := [.int 0, .int 0, .int 0, .ref q0, .int 0, .int 0, .int 0, .int 0, .long 0, .int 0, .ref q1, .null, .null]) (w' := [(h, .inr (3, [.int 0, .int 0, .int 0, .ref q0, .int 0, .int 0, .int 0, .int 0, .long 0, .int 0, .ref q1, .ref q9, .null])), (q0, .inl (G.2.1 0, 900, .inl (fun _ => 0))), (q1, .inr (6, [.int 0, .int 0, .int 0, .int 0, .int 0, .int 0, .int 0, .int 0, .ref q2, .ref q3, .ref q4, .ref q5, .ref q6, .ref q7, .ref q8])), (q2, .inl (G.2.1 1, 8, .inl (fun _ => 0))), (q3, .inl (G.2.1 1, 8, .inl (fun _ => 0))), (q4, .inl (G.2.1 1, 5, .inl (fun _ => 0))), (q5, .inl (G.2.1 1, 5, .inl (fun _ => 0))), (q6, .inl (G.2.1 1, 5, .inl (fun _ => 0))), (q7, .inl (G.2.1 1, 5, .inl (fun _ => 0))), (q8, .inl (G.2.1 1, 6, .inl (fun _ => 0))), (q9, .inl (G.2.1 2, 8, .inr (.inl (fun _ => 0))))]) hA k_in_X5 tyX5 tyX5_ok nmX5 rfl rfl 11 (by decide) wd_268 rfl hin rfl (v := .ref q9) rfl rfl (Nat.le_of_ble_eq_true rfl) rfl dX5_init_29 ?_
  refine ka_aload_n (i := 0) hA dX5_init_32 rfl 0 rfl ?_
  refine ka_iconst hA dX5_init_33 kc_i_5 ?_
  refine ka_newJ (N := 5) hA wd_298 (by decide) (by decide) (Nat.le_of_ble_eq_true rfl) (Nat.le_of_ble_eq_true rfl) (Nat.le_of_ble_eq_true rfl) dX5_init_34 (fun q10 => ?_)
  refine ka_putF (q0 := 0) (fs := [.int 0, .int 0, .int 0, .ref q0, .int 0, .int 0, .int 0, .int 0, .long 0, .int 0, .ref q1, .ref q9, .null]) (w' := [(h, .inr (3, [.int 0, .int 0, .int 0, .ref q0, .int 0, .int 0, .int 0, .int 0, .long 0, .int 0, .ref q1, .ref q9, .ref q10])), (q0, .inl (G.2.1 0, 900, .inl (fun _ => 0))), (q1, .inr (6, [.int 0, .int 0, .int 0, .int 0, .int 0, .int 0, .int 0, .int 0, .ref q2, .ref q3, .ref q4, .ref q5, .ref q6, .ref q7, .ref q8])), (q2, .inl (G.2.1 1, 8, .inl (fun _ => 0))), (q3, .inl (G.2.1 1, 8, .inl (fun _ => 0))), (q4, .inl (G.2.1 1, 5, .inl (fun _ => 0))), (q5, .inl (G.2.1 1, 5, .inl (fun _ => 0))), (q6, .inl (G.2.1 1, 5, .inl (fun _ => 0))), (q7, .inl (G.2.1 1, 5, .inl (fun _ => 0))), (q8, .inl (G.2.1 1, 6, .inl (fun _ => 0))), (q9, .inl (G.2.1 2, 8, .inr (.inl (fun _ => 0)))), (q10, .inl (G.2.1 2, 5, .inr (.inl (fun _ => 0))))]) hA k_in_X5 tyX5 tyX5_ok nmX5 rfl rfl 12 (by decide) wd_269 rfl hin rfl (v := .ref q10) rfl rfl (Nat.le_of_ble_eq_true rfl) rfl dX5_init_36 ?_
  exact ka_vret hA hr ⟨q0, q1, q2, q3, q4, q5, q6, q7, q8, q9, q10, rfl⟩ dX5_init_39
theorem dX11_init_0 : decode cX11_init 0 = .ok (.aload_n 0, 1) := by decide +kernel
theorem dX11_init_1 : decode cX11_init 1 = .ok (.invokespecial 3, 3) := by decide +kernel
theorem dX11_init_4 : decode cX11_init 4 = .ok (.aload_n 0, 1) := by decide +kernel
theorem dX11_init_5 : decode cX11_init 5 = .ok (.iconst (-1), 1) := by decide +kernel
theorem dX11_init_6 : decode cX11_init 6 = .ok (.putfield 9, 3) := by decide +kernel
theorem dX11_init_9 : decode cX11_init 9 = .ok (.aload_n 0, 1) := by decide +kernel
theorem dX11_init_10 : decode cX11_init 10 = .ok (.bipush 8, 2) := by decide +kernel
theorem dX11_init_12 : decode cX11_init 12 = .ok (.newarray .int, 2) := by decide +kernel
theorem dX11_init_14 : decode cX11_init 14 = .ok (.putfield 15, 3) := by decide +kernel
theorem dX11_init_17 : decode cX11_init 17 = .ok (.aload_n 0, 1) := by decide +kernel
theorem dX11_init_18 : decode cX11_init 18 = .ok (.bipush 8, 2) := by decide +kernel
theorem dX11_init_20 : decode cX11_init 20 = .ok (.newarray .int, 2) := by decide +kernel
theorem dX11_init_22 : decode cX11_init 22 = .ok (.putfield 19, 3) := by decide +kernel
theorem dX11_init_25 : decode cX11_init 25 = .ok (.aload_n 0, 1) := by decide +kernel
theorem dX11_init_26 : decode cX11_init 26 = .ok (.iconst 5, 1) := by decide +kernel
theorem dX11_init_27 : decode cX11_init 27 = .ok (.newarray .int, 2) := by decide +kernel
theorem dX11_init_29 : decode cX11_init 29 = .ok (.putfield 22, 3) := by decide +kernel
theorem dX11_init_32 : decode cX11_init 32 = .ok (.aload_n 0, 1) := by decide +kernel
theorem dX11_init_33 : decode cX11_init 33 = .ok (.iconst 5, 1) := by decide +kernel
theorem dX11_init_34 : decode cX11_init 34 = .ok (.newarray .int, 2) := by decide +kernel
theorem dX11_init_36 : decode cX11_init 36 = .ok (.putfield 25, 3) := by decide +kernel
theorem dX11_init_39 : decode cX11_init 39 = .ok (.aload_n 0, 1) := by decide +kernel
theorem dX11_init_40 : decode cX11_init 40 = .ok (.iconst 5, 1) := by decide +kernel
theorem dX11_init_41 : decode cX11_init 41 = .ok (.newarray .int, 2) := by decide +kernel
theorem dX11_init_43 : decode cX11_init 43 = .ok (.putfield 28, 3) := by decide +kernel
theorem dX11_init_46 : decode cX11_init 46 = .ok (.aload_n 0, 1) := by decide +kernel
theorem dX11_init_47 : decode cX11_init 47 = .ok (.iconst 5, 1) := by decide +kernel
theorem dX11_init_48 : decode cX11_init 48 = .ok (.newarray .int, 2) := by decide +kernel
theorem dX11_init_50 : decode cX11_init 50 = .ok (.putfield 31, 3) := by decide +kernel
theorem dX11_init_53 : decode cX11_init 53 = .ok (.aload_n 0, 1) := by decide +kernel
theorem dX11_init_54 : decode cX11_init 54 = .ok (.bipush 6, 2) := by decide +kernel
theorem dX11_init_56 : decode cX11_init 56 = .ok (.newarray .int, 2) := by decide +kernel
theorem dX11_init_58 : decode cX11_init 58 = .ok (.putfield 34, 3) := by decide +kernel
theorem dX11_init_61 : decode cX11_init 61 = .ok (.aload_n 0, 1) := by decide +kernel
theorem dX11_init_62 : decode cX11_init 62 = .ok (.bipush 13, 2) := by decide +kernel
theorem dX11_init_64 : decode cX11_init 64 = .ok (.newarray .long, 2) := by decide +kernel
theorem dX11_init_66 : decode cX11_init 66 = .ok (.putfield 37, 3) := by decide +kernel
theorem dX11_init_69 : decode cX11_init 69 = .ok (.aload_n 0, 1) := by decide +kernel
theorem dX11_init_70 : decode cX11_init 70 = .ok (.bipush 13, 2) := by decide +kernel
theorem dX11_init_72 : decode cX11_init 72 = .ok (.newarray .int, 2) := by decide +kernel
theorem dX11_init_74 : decode cX11_init 74 = .ok (.putfield 41, 3) := by decide +kernel
theorem dX11_init_77 : decode cX11_init 77 = .ok (.aload_n 0, 1) := by decide +kernel
theorem dX11_init_78 : decode cX11_init 78 = .ok (.bipush 13, 2) := by decide +kernel
theorem dX11_init_80 : decode cX11_init 80 = .ok (.newarray .int, 2) := by decide +kernel
theorem dX11_init_82 : decode cX11_init 82 = .ok (.putfield 44, 3) := by decide +kernel
theorem dX11_init_85 : decode cX11_init 85 = .ok (.return_, 1) := by decide +kernel
theorem wo_1399 : Cond.methodLink "TaleSharesModel$Terrace" 3 objectInit ∈ k_TB := k_tb 1399 (by decide +kernel) rfl
def rm_X11_init : Room := { frames := 1, cells := 10, slots := 81, locals := 52 }
theorem i_X11_init (l : Launch) (G : k_G) (h : Nat) : k_MV l G yX11_init cX11_init 1 rm_X11_init [(h, .inr (9, [.int 0, .int 0, .int 0, .int 0, .int 0, .int 0, .int 0, .int 0, .int 0, .null, .null, .null, .null, .null, .null, .null, .null, .null, .null]))] [.ref h] (fun u => ∃ (q0 q1 q2 q3 q4 q5 q6 q7 q8 q9 : Nat), u = [(h, .inr (9, [.int (-1), .int 0, .int 0, .int 0, .int 0, .int 0, .int 0, .int 0, .int 0, .ref q0, .ref q1, .ref q2, .ref q3, .ref q4, .ref q5, .ref q6, .ref q7, .ref q8, .ref q9])), (q0, .inl (G.2.1 1, 8, .inl (fun _ => 0))), (q1, .inl (G.2.1 1, 8, .inl (fun _ => 0))), (q2, .inl (G.2.1 1, 5, .inl (fun _ => 0))), (q3, .inl (G.2.1 1, 5, .inl (fun _ => 0))), (q4, .inl (G.2.1 1, 5, .inl (fun _ => 0))), (q5, .inl (G.2.1 1, 5, .inl (fun _ => 0))), (q6, .inl (G.2.1 1, 6, .inl (fun _ => 0))), (q7, .inl (G.2.1 2, 13, .inr (.inl (fun _ => 0)))), (q8, .inl (G.2.1 1, 13, .inl (fun _ => 0))), (q9, .inl (G.2.1 1, 13, .inl (fun _ => 0)))]) 10 81 := by
  refine k_startMV (lv := [(0, .ref h)]) (by decide +kernel) (Nat.le_of_ble_eq_true rfl) rfl ?_
  intro p e s m args below meth c hA hin hr
  have hA : k_Amb p s m args meth c cX11_init 1 "TaleSharesModel$Terrace" G _ := hA
  have hin : meth.name = "<init>" := hin
  refine ka_aload_n (i := 0) hA dX11_init_0 rfl 0 rfl ?_
  refine ka_objInit hA wo_1399 wo_I wo_C (Nat.le_of_ble_eq_true rfl) (Nat.le_of_ble_eq_true rfl) dX11_init_1 ?_
  refine ka_aload_n (i := 0) hA dX11_init_4 rfl 0 rfl ?_
  refine ka_iconst hA dX11_init_5 kc_i_m1 ?_
  refine ka_put (q0 := 0) (fs := [.int 0, .int 0, .int 0, .int 0, .int 0, .int 0, .int 0, .int 0, .int 0, .null, .null, .null, .null, .null, .null, .null, .null, .null, .null]) (w' := [(h, .inr (9, [.int (-1), .int 0, .int 0, .int 0, .int 0, .int 0, .int 0, .int 0, .int 0, .null, .null, .null, .null, .null, .null, .null, .null, .null, .null]))]) hA k_in_X11 tyX11 tyX11_ok nmX11 rfl rfl 0 (by decide) wd_1400 rfl (v := .int (-1)) rfl rfl (Nat.le_of_ble_eq_true rfl) rfl dX11_init_6 ?_
  refine ka_aload_n (i := 0) hA dX11_init_9 rfl 0 rfl ?_
  refine ka_bipush hA dX11_init_10 kc_b_8 ?_
  refine ka_newI (N := 8) hA wd_245 (by decide) (by decide) (Nat.le_of_ble_eq_true rfl) (Nat.le_of_ble_eq_true rfl) (Nat.le_of_ble_eq_true rfl) dX11_init_12 (fun q0 => ?_)
  refine ka_putF (q0 := 0) (fs := [.int (-1), .int 0, .int 0, .int 0, .int 0, .int 0, .int 0, .int 0, .int 0, .null, .null, .null, .null, .null, .null, .null, .null, .null, .null]) (w' := [(h, .inr (9, [.int (-1), .int 0, .int 0, .int 0, .int 0, .int 0, .int 0, .int 0, .int 0, .ref q0, .null, .null, .null, .null, .null, .null, .null, .null, .null])), (q0, .inl (G.2.1 1, 8, .inl (fun _ => 0)))]) hA k_in_X11 tyX11 tyX11_ok nmX11 rfl rfl 9 (by decide) wd_1412 rfl hin rfl (v := .ref q0) rfl rfl (Nat.le_of_ble_eq_true rfl) rfl dX11_init_14 ?_
  refine ka_aload_n (i := 0) hA dX11_init_17 rfl 0 rfl ?_
  refine ka_bipush hA dX11_init_18 kc_b_8 ?_
  refine ka_newI (N := 8) hA wd_245 (by decide) (by decide) (Nat.le_of_ble_eq_true rfl) (Nat.le_of_ble_eq_true rfl) (Nat.le_of_ble_eq_true rfl) dX11_init_20 (fun q1 => ?_)
  refine ka_putF (q0 := 0) (fs := [.int (-1), .int 0, .int 0, .int 0, .int 0, .int 0, .int 0, .int 0, .int 0, .ref q0, .null, .null, .null, .null, .null, .null, .null, .null, .null]) (w' := [(h, .inr (9, [.int (-1), .int 0, .int 0, .int 0, .int 0, .int 0, .int 0, .int 0, .int 0, .ref q0, .ref q1, .null, .null, .null, .null, .null, .null, .null, .null])), (q0, .inl (G.2.1 1, 8, .inl (fun _ => 0))), (q1, .inl (G.2.1 1, 8, .inl (fun _ => 0)))]) hA k_in_X11 tyX11 tyX11_ok nmX11 rfl rfl 10 (by decide) wd_1414 rfl hin rfl (v := .ref q1) rfl rfl (Nat.le_of_ble_eq_true rfl) rfl dX11_init_22 ?_
  refine ka_aload_n (i := 0) hA dX11_init_25 rfl 0 rfl ?_
  refine ka_iconst hA dX11_init_26 kc_i_5 ?_
  refine ka_newI (N := 5) hA wd_245 (by decide) (by decide) (Nat.le_of_ble_eq_true rfl) (Nat.le_of_ble_eq_true rfl) (Nat.le_of_ble_eq_true rfl) dX11_init_27 (fun q2 => ?_)
  refine ka_putF (q0 := 0) (fs := [.int (-1), .int 0, .int 0, .int 0, .int 0, .int 0, .int 0, .int 0, .int 0, .ref q0, .ref q1, .null, .null, .null, .null, .null, .null, .null, .null]) (w' := [(h, .inr (9, [.int (-1), .int 0, .int 0, .int 0, .int 0, .int 0, .int 0, .int 0, .int 0, .ref q0, .ref q1, .ref q2, .null, .null, .null, .null, .null, .null, .null])), (q0, .inl (G.2.1 1, 8, .inl (fun _ => 0))), (q1, .inl (G.2.1 1, 8, .inl (fun _ => 0))), (q2, .inl (G.2.1 1, 5, .inl (fun _ => 0)))]) hA k_in_X11 tyX11 tyX11_ok nmX11 rfl rfl 11 (by decide) wd_1416 rfl hin rfl (v := .ref q2) rfl rfl (Nat.le_of_ble_eq_true rfl) rfl dX11_init_29 ?_
  refine ka_aload_n (i := 0) hA dX11_init_32 rfl 0 rfl ?_
  refine ka_iconst hA dX11_init_33 kc_i_5 ?_
  refine ka_newI (N := 5) hA wd_245 (by decide) (by decide) (Nat.le_of_ble_eq_true rfl) (Nat.le_of_ble_eq_true rfl) (Nat.le_of_ble_eq_true rfl) dX11_init_34 (fun q3 => ?_)
  refine ka_putF (q0 := 0) (fs := [.int (-1), .int 0, .int 0, .int 0, .int 0, .int 0, .int 0, .int 0, .int 0, .ref q0, .ref q1, .ref q2, .null, .null, .null, .null, .null, .null, .null]) (w' := [(h, .inr (9, [.int (-1), .int 0, .int 0, .int 0, .int 0, .int 0, .int 0, .int 0, .int 0, .ref q0, .ref q1, .ref q2, .ref q3, .null, .null, .null, .null, .null, .null])), (q0, .inl (G.2.1 1, 8, .inl (fun _ => 0))), (q1, .inl (G.2.1 1, 8, .inl (fun _ => 0))), (q2, .inl (G.2.1 1, 5, .inl (fun _ => 0))), (q3, .inl (G.2.1 1, 5, .inl (fun _ => 0)))]) hA k_in_X11 tyX11 tyX11_ok nmX11 rfl rfl 12 (by decide) wd_1418 rfl hin rfl (v := .ref q3) rfl rfl (Nat.le_of_ble_eq_true rfl) rfl dX11_init_36 ?_
  refine ka_aload_n (i := 0) hA dX11_init_39 rfl 0 rfl ?_
  refine ka_iconst hA dX11_init_40 kc_i_5 ?_
  refine ka_newI (N := 5) hA wd_245 (by decide) (by decide) (Nat.le_of_ble_eq_true rfl) (Nat.le_of_ble_eq_true rfl) (Nat.le_of_ble_eq_true rfl) dX11_init_41 (fun q4 => ?_)
  refine ka_putF (q0 := 0) (fs := [.int (-1), .int 0, .int 0, .int 0, .int 0, .int 0, .int 0, .int 0, .int 0, .ref q0, .ref q1, .ref q2, .ref q3, .null, .null, .null, .null, .null, .null]) (w' := [(h, .inr (9, [.int (-1), .int 0, .int 0, .int 0, .int 0, .int 0, .int 0, .int 0, .int 0, .ref q0, .ref q1, .ref q2, .ref q3, .ref q4, .null, .null, .null, .null, .null])), (q0, .inl (G.2.1 1, 8, .inl (fun _ => 0))), (q1, .inl (G.2.1 1, 8, .inl (fun _ => 0))), (q2, .inl (G.2.1 1, 5, .inl (fun _ => 0))), (q3, .inl (G.2.1 1, 5, .inl (fun _ => 0))), (q4, .inl (G.2.1 1, 5, .inl (fun _ => 0)))]) hA k_in_X11 tyX11 tyX11_ok nmX11 rfl rfl 13 (by decide) wd_1420 rfl hin rfl (v := .ref q4) rfl rfl (Nat.le_of_ble_eq_true rfl) rfl dX11_init_43 ?_
  refine ka_aload_n (i := 0) hA dX11_init_46 rfl 0 rfl ?_
  refine ka_iconst hA dX11_init_47 kc_i_5 ?_
  refine ka_newI (N := 5) hA wd_245 (by decide) (by decide) (Nat.le_of_ble_eq_true rfl) (Nat.le_of_ble_eq_true rfl) (Nat.le_of_ble_eq_true rfl) dX11_init_48 (fun q5 => ?_)
  refine ka_putF (q0 := 0) (fs := [.int (-1), .int 0, .int 0, .int 0, .int 0, .int 0, .int 0, .int 0, .int 0, .ref q0, .ref q1, .ref q2, .ref q3, .ref q4, .null, .null, .null, .null, .null]) (w' := [(h, .inr (9, [.int (-1), .int 0, .int 0, .int 0, .int 0, .int 0, .int 0, .int 0, .int 0, .ref q0, .ref q1, .ref q2, .ref q3, .ref q4, .ref q5, .null, .null, .null, .null])), (q0, .inl (G.2.1 1, 8, .inl (fun _ => 0))), (q1, .inl (G.2.1 1, 8, .inl (fun _ => 0))), (q2, .inl (G.2.1 1, 5, .inl (fun _ => 0))), (q3, .inl (G.2.1 1, 5, .inl (fun _ => 0))), (q4, .inl (G.2.1 1, 5, .inl (fun _ => 0))), (q5, .inl (G.2.1 1, 5, .inl (fun _ => 0)))]) hA k_in_X11 tyX11 tyX11_ok nmX11 rfl rfl 14 (by decide) wd_1422 rfl hin rfl (v := .ref q5) rfl rfl (Nat.le_of_ble_eq_true rfl) rfl dX11_init_50 ?_
  refine ka_aload_n (i := 0) hA dX11_init_53 rfl 0 rfl ?_
  refine ka_bipush hA dX11_init_54 kc_b_6 ?_
  refine ka_newI (N := 6) hA wd_245 (by decide) (by decide) (Nat.le_of_ble_eq_true rfl) (Nat.le_of_ble_eq_true rfl) (Nat.le_of_ble_eq_true rfl) dX11_init_56 (fun q6 => ?_)
  refine ka_putF (q0 := 0) (fs := [.int (-1), .int 0, .int 0, .int 0, .int 0, .int 0, .int 0, .int 0, .int 0, .ref q0, .ref q1, .ref q2, .ref q3, .ref q4, .ref q5, .null, .null, .null, .null]) (w' := [(h, .inr (9, [.int (-1), .int 0, .int 0, .int 0, .int 0, .int 0, .int 0, .int 0, .int 0, .ref q0, .ref q1, .ref q2, .ref q3, .ref q4, .ref q5, .ref q6, .null, .null, .null])), (q0, .inl (G.2.1 1, 8, .inl (fun _ => 0))), (q1, .inl (G.2.1 1, 8, .inl (fun _ => 0))), (q2, .inl (G.2.1 1, 5, .inl (fun _ => 0))), (q3, .inl (G.2.1 1, 5, .inl (fun _ => 0))), (q4, .inl (G.2.1 1, 5, .inl (fun _ => 0))), (q5, .inl (G.2.1 1, 5, .inl (fun _ => 0))), (q6, .inl (G.2.1 1, 6, .inl (fun _ => 0)))]) hA k_in_X11 tyX11 tyX11_ok nmX11 rfl rfl 15 (by decide) wd_1424 rfl hin rfl (v := .ref q6) rfl rfl (Nat.le_of_ble_eq_true rfl) rfl dX11_init_58 ?_
  refine ka_aload_n (i := 0) hA dX11_init_61 rfl 0 rfl ?_
  refine ka_bipush hA dX11_init_62 kc_b_13 ?_
  refine ka_newJ (N := 13) hA wd_298 (by decide) (by decide) (Nat.le_of_ble_eq_true rfl) (Nat.le_of_ble_eq_true rfl) (Nat.le_of_ble_eq_true rfl) dX11_init_64 (fun q7 => ?_)
  refine ka_putF (q0 := 0) (fs := [.int (-1), .int 0, .int 0, .int 0, .int 0, .int 0, .int 0, .int 0, .int 0, .ref q0, .ref q1, .ref q2, .ref q3, .ref q4, .ref q5, .ref q6, .null, .null, .null]) (w' := [(h, .inr (9, [.int (-1), .int 0, .int 0, .int 0, .int 0, .int 0, .int 0, .int 0, .int 0, .ref q0, .ref q1, .ref q2, .ref q3, .ref q4, .ref q5, .ref q6, .ref q7, .null, .null])), (q0, .inl (G.2.1 1, 8, .inl (fun _ => 0))), (q1, .inl (G.2.1 1, 8, .inl (fun _ => 0))), (q2, .inl (G.2.1 1, 5, .inl (fun _ => 0))), (q3, .inl (G.2.1 1, 5, .inl (fun _ => 0))), (q4, .inl (G.2.1 1, 5, .inl (fun _ => 0))), (q5, .inl (G.2.1 1, 5, .inl (fun _ => 0))), (q6, .inl (G.2.1 1, 6, .inl (fun _ => 0))), (q7, .inl (G.2.1 2, 13, .inr (.inl (fun _ => 0))))]) hA k_in_X11 tyX11 tyX11_ok nmX11 rfl rfl 16 (by decide) wd_1426 rfl hin rfl (v := .ref q7) rfl rfl (Nat.le_of_ble_eq_true rfl) rfl dX11_init_66 ?_
  refine ka_aload_n (i := 0) hA dX11_init_69 rfl 0 rfl ?_
  refine ka_bipush hA dX11_init_70 kc_b_13 ?_
  refine ka_newI (N := 13) hA wd_245 (by decide) (by decide) (Nat.le_of_ble_eq_true rfl) (Nat.le_of_ble_eq_true rfl) (Nat.le_of_ble_eq_true rfl) dX11_init_72 (fun q8 => ?_)
  refine ka_putF (q0 := 0) (fs := [.int (-1), .int 0, .int 0, .int 0, .int 0, .int 0, .int 0, .int 0, .int 0, .ref q0, .ref q1, .ref q2, .ref q3, .ref q4, .ref q5, .ref q6, .ref q7, .null, .null]) (w' := [(h, .inr (9, [.int (-1), .int 0, .int 0, .int 0, .int 0, .int 0, .int 0, .int 0, .int 0, .ref q0, .ref q1, .ref q2, .ref q3, .ref q4, .ref q5, .ref q6, .ref q7, .ref q8, .null])), (q0, .inl (G.2.1 1, 8, .inl (fun _ => 0))), (q1, .inl (G.2.1 1, 8, .inl (fun _ => 0))), (q2, .inl (G.2.1 1, 5, .inl (fun _ => 0))), (q3, .inl (G.2.1 1, 5, .inl (fun _ => 0))), (q4, .inl (G.2.1 1, 5, .inl (fun _ => 0))), (q5, .inl (G.2.1 1, 5, .inl (fun _ => 0))), (q6, .inl (G.2.1 1, 6, .inl (fun _ => 0))), (q7, .inl (G.2.1 2, 13, .inr (.inl (fun _ => 0)))), (q8, .inl (G.2.1 1, 13, .inl (fun _ => 0)))]) hA k_in_X11 tyX11 tyX11_ok nmX11 rfl rfl 17 (by decide) wd_1428 rfl hin rfl (v := .ref q8) rfl rfl (Nat.le_of_ble_eq_true rfl) rfl dX11_init_74 ?_
  refine ka_aload_n (i := 0) hA dX11_init_77 rfl 0 rfl ?_
  refine ka_bipush hA dX11_init_78 kc_b_13 ?_
  refine ka_newI (N := 13) hA wd_245 (by decide) (by decide) (Nat.le_of_ble_eq_true rfl) (Nat.le_of_ble_eq_true rfl) (Nat.le_of_ble_eq_true rfl) dX11_init_80 (fun q9 => ?_)
  refine ka_putF (q0 := 0) (fs := [.int (-1), .int 0, .int 0, .int 0, .int 0, .int 0, .int 0, .int 0, .int 0, .ref q0, .ref q1, .ref q2, .ref q3, .ref q4, .ref q5, .ref q6, .ref q7, .ref q8, .null]) (w' := [(h, .inr (9, [.int (-1), .int 0, .int 0, .int 0, .int 0, .int 0, .int 0, .int 0, .int 0, .ref q0, .ref q1, .ref q2, .ref q3, .ref q4, .ref q5, .ref q6, .ref q7, .ref q8, .ref q9])), (q0, .inl (G.2.1 1, 8, .inl (fun _ => 0))), (q1, .inl (G.2.1 1, 8, .inl (fun _ => 0))), (q2, .inl (G.2.1 1, 5, .inl (fun _ => 0))), (q3, .inl (G.2.1 1, 5, .inl (fun _ => 0))), (q4, .inl (G.2.1 1, 5, .inl (fun _ => 0))), (q5, .inl (G.2.1 1, 5, .inl (fun _ => 0))), (q6, .inl (G.2.1 1, 6, .inl (fun _ => 0))), (q7, .inl (G.2.1 2, 13, .inr (.inl (fun _ => 0)))), (q8, .inl (G.2.1 1, 13, .inl (fun _ => 0))), (q9, .inl (G.2.1 1, 13, .inl (fun _ => 0)))]) hA k_in_X11 tyX11 tyX11_ok nmX11 rfl rfl 18 (by decide) wd_1430 rfl hin rfl (v := .ref q9) rfl rfl (Nat.le_of_ble_eq_true rfl) rfl dX11_init_82 ?_
  exact ka_vret hA hr ⟨q0, q1, q2, q3, q4, q5, q6, q7, q8, q9, rfl⟩ dX11_init_85
def lsa (l : List Nat) : Nat → Nat := fun i => l.getD i 0
def tz : k_St := (fun _ _ => 0, fun _ _ => 0)
def tzM : k_St := (fun o k => if o = 0 ∧ k = 2 then -1 else 0, fun _ _ => 0)
theorem dX10_init_0 : decode cX10_init 0 = .ok (.aload_n 0, 1) := by decide +kernel
theorem dX10_init_1 : decode cX10_init 1 = .ok (.invokespecial 1, 3) := by decide +kernel
theorem dX10_init_4 : decode cX10_init 4 = .ok (.aload_n 0, 1) := by decide +kernel
theorem dX10_init_5 : decode cX10_init 5 = .ok (.new 7, 3) := by decide +kernel
theorem dX10_init_8 : decode cX10_init 8 = .ok (.dup, 1) := by decide +kernel
theorem dX10_init_9 : decode cX10_init 9 = .ok (.invokespecial 9, 3) := by decide +kernel
theorem dX10_init_12 : decode cX10_init 12 = .ok (.putfield 10, 3) := by decide +kernel
theorem dX10_init_15 : decode cX10_init 15 = .ok (.aload_n 0, 1) := by decide +kernel
theorem dX10_init_16 : decode cX10_init 16 = .ok (.new 16, 3) := by decide +kernel
theorem dX10_init_19 : decode cX10_init 19 = .ok (.dup, 1) := by decide +kernel
theorem dX10_init_20 : decode cX10_init 20 = .ok (.invokespecial 18, 3) := by decide +kernel
theorem dX10_init_23 : decode cX10_init 23 = .ok (.putfield 19, 3) := by decide +kernel
theorem dX10_init_26 : decode cX10_init 26 = .ok (.aload_n 0, 1) := by decide +kernel
theorem dX10_init_27 : decode cX10_init 27 = .ok (.new 23, 3) := by decide +kernel
theorem dX10_init_30 : decode cX10_init 30 = .ok (.dup, 1) := by decide +kernel
theorem dX10_init_31 : decode cX10_init 31 = .ok (.invokespecial 25, 3) := by decide +kernel
theorem dX10_init_34 : decode cX10_init 34 = .ok (.putfield 26, 3) := by decide +kernel
theorem dX10_init_37 : decode cX10_init 37 = .ok (.aload_n 0, 1) := by decide +kernel
theorem dX10_init_38 : decode cX10_init 38 = .ok (.new 30, 3) := by decide +kernel
theorem dX10_init_41 : decode cX10_init 41 = .ok (.dup, 1) := by decide +kernel
theorem dX10_init_42 : decode cX10_init 42 = .ok (.invokespecial 32, 3) := by decide +kernel
theorem dX10_init_45 : decode cX10_init 45 = .ok (.putfield 33, 3) := by decide +kernel
theorem dX10_init_48 : decode cX10_init 48 = .ok (.aload_n 0, 1) := by decide +kernel
theorem dX10_init_49 : decode cX10_init 49 = .ok (.new 37, 3) := by decide +kernel
theorem dX10_init_52 : decode cX10_init 52 = .ok (.dup, 1) := by decide +kernel
theorem dX10_init_53 : decode cX10_init 53 = .ok (.invokespecial 39, 3) := by decide +kernel
theorem dX10_init_56 : decode cX10_init 56 = .ok (.putfield 40, 3) := by decide +kernel
theorem dX10_init_59 : decode cX10_init 59 = .ok (.aload_n 0, 1) := by decide +kernel
theorem dX10_init_60 : decode cX10_init 60 = .ok (.new 44, 3) := by decide +kernel
theorem dX10_init_63 : decode cX10_init 63 = .ok (.dup, 1) := by decide +kernel
theorem dX10_init_64 : decode cX10_init 64 = .ok (.invokespecial 46, 3) := by decide +kernel
theorem dX10_init_67 : decode cX10_init 67 = .ok (.putfield 47, 3) := by decide +kernel
theorem dX10_init_70 : decode cX10_init 70 = .ok (.aload_n 0, 1) := by decide +kernel
theorem dX10_init_71 : decode cX10_init 71 = .ok (.new 51, 3) := by decide +kernel
theorem dX10_init_74 : decode cX10_init 74 = .ok (.dup, 1) := by decide +kernel
theorem dX10_init_75 : decode cX10_init 75 = .ok (.invokespecial 53, 3) := by decide +kernel
theorem dX10_init_78 : decode cX10_init 78 = .ok (.putfield 54, 3) := by decide +kernel
theorem dX10_init_81 : decode cX10_init 81 = .ok (.aload_n 0, 1) := by decide +kernel
theorem dX10_init_82 : decode cX10_init 82 = .ok (.new 58, 3) := by decide +kernel
theorem dX10_init_85 : decode cX10_init 85 = .ok (.dup, 1) := by decide +kernel
theorem dX10_init_86 : decode cX10_init 86 = .ok (.invokespecial 60, 3) := by decide +kernel
theorem dX10_init_89 : decode cX10_init 89 = .ok (.putfield 61, 3) := by decide +kernel
theorem dX10_init_92 : decode cX10_init 92 = .ok (.return_, 1) := by decide +kernel
theorem wo_148 : Cond.methodLink "TaleShares" 1 objectInit ∈ k_TB := k_tb 148 (by decide +kernel) rfl
theorem ni_RX10_9 : ("TaleShares", 9, yX8_init, "TaleShares") ∈ k_nM := by decide
theorem ni_RX10_18 : ("TaleShares", 18, yX5_init, "TaleShares") ∈ k_nM := by decide
theorem ci_X5_init : k_cardI yX5_init cX5_init 1 0 := ⟨k_tb 250 (by decide +kernel) rfl, k_tb 249 (by decide +kernel) rfl, k_tb 121 (by decide +kernel) rfl, by decide +kernel, by decide +kernel, by decide +kernel, rfl⟩
theorem ni_RX10_25 : ("TaleShares", 25, yX7_init, "TaleShares") ∈ k_nM := by decide
theorem ci_X7_init : k_cardI yX7_init cX7_init 1 0 := ⟨k_tb 303 (by decide +kernel) rfl, k_tb 302 (by decide +kernel) rfl, k_tb 122 (by decide +kernel) rfl, by decide +kernel, by decide +kernel, by decide +kernel, rfl⟩
theorem ni_RX10_32 : ("TaleShares", 32, yX4_init, "TaleShares") ∈ k_nM := by decide
theorem ci_X4_init : k_cardI yX4_init cX4_init 1 0 := ⟨k_tb 321 (by decide +kernel) rfl, k_tb 320 (by decide +kernel) rfl, k_tb 123 (by decide +kernel) rfl, by decide +kernel, by decide +kernel, by decide +kernel, rfl⟩
theorem ni_RX10_39 : ("TaleShares", 39, yX9_init, "TaleShares") ∈ k_nM := by decide
theorem ci_X9_init : k_cardI yX9_init cX9_init 1 0 := ⟨k_tb 346 (by decide +kernel) rfl, k_tb 345 (by decide +kernel) rfl, k_tb 124 (by decide +kernel) rfl, by decide +kernel, by decide +kernel, by decide +kernel, rfl⟩
theorem ni_RX10_46 : ("TaleShares", 46, yX6_init, "TaleShares") ∈ k_nM := by decide
theorem ci_X6_init : k_cardI yX6_init cX6_init 1 0 := ⟨k_tb 372 (by decide +kernel) rfl, k_tb 371 (by decide +kernel) rfl, k_tb 125 (by decide +kernel) rfl, by decide +kernel, by decide +kernel, by decide +kernel, rfl⟩
theorem ni_RX10_53 : ("TaleShares", 53, yX1_init, "TaleShares") ∈ k_nM := by decide
theorem ci_X1_init : k_cardI yX1_init cX1_init 1 0 := ⟨k_tb 394 (by decide +kernel) rfl, k_tb 393 (by decide +kernel) rfl, k_tb 126 (by decide +kernel) rfl, by decide +kernel, by decide +kernel, by decide +kernel, rfl⟩
theorem ni_RX10_60 : ("TaleShares", 60, yX3_init, "TaleShares") ∈ k_nM := by decide
theorem ci_X3_init : k_cardI yX3_init cX3_init 1 0 := ⟨k_tb 409 (by decide +kernel) rfl, k_tb 408 (by decide +kernel) rfl, k_tb 127 (by decide +kernel) rfl, by decide +kernel, by decide +kernel, by decide +kernel, rfl⟩
def rm_X10_init : Room := { frames := 3, cells := 36, slots := 1463, locals := 132 }
theorem i_X10_init (l : Launch) (G : k_G) (h : Nat) : k_MV l G yX10_init cX10_init 1 rm_X10_init [(h, .inr (8, [.null, .null, .null, .null, .null, .null, .null, .null, .int 0, .int 0]))] [.ref h] (fun u => ∃ l : List Nat, l.getD 0 0 = h ∧ u = k_WX G.2.1 (lsa l) (.ref (lsa l 10)) tz) 36 1463 := by
  refine k_startMV (lv := [(0, .ref h)]) (by decide +kernel) (Nat.le_of_ble_eq_true rfl) rfl ?_
  intro p e s m args below meth c hA hin hr
  have hA : k_Amb p s m args meth c cX10_init 1 "TaleShares" G _ := hA
  have hin : meth.name = "<init>" := hin
  refine ka_aload_n (i := 0) hA dX10_init_0 rfl 0 rfl ?_
  refine ka_objInit hA wo_148 wo_I wo_C (Nat.le_of_ble_eq_true rfl) (Nat.le_of_ble_eq_true rfl) dX10_init_1 ?_
  refine ka_aload_n (i := 0) hA dX10_init_4 rfl 0 rfl ?_
  refine ka_new (ci := 6) (fs := [.int 0, .int 0, .int 0, .int 0, .int 0, .int 0, .int 0, .int 0, .null, .null, .null, .null, .null, .null, .null]) hA k_in_X8 tyX8 tyX8_ok wd_151 wd_152 wd_120 rfl (fun j hj => by rcases (show j = 0 ∨ j = 1 ∨ j = 2 ∨ j = 3 ∨ j = 4 ∨ j = 5 ∨ j = 6 ∨ j = 7 ∨ j = 8 ∨ j = 9 ∨ j = 10 ∨ j = 11 ∨ j = 12 ∨ j = 13 ∨ j = 14 by omega) with rfl | rfl | rfl | rfl | rfl | rfl | rfl | rfl | rfl | rfl | rfl | rfl | rfl | rfl | rfl <;> rfl) (Nat.le_of_ble_eq_true rfl) (Nat.le_of_ble_eq_true rfl) dX10_init_5 (fun q0 => ?_)
  refine ka_dup hA dX10_init_8 rfl ?_
  refine ka_callIN (R := rm_X10_init) (cells := 1) (slots := 15) (w1 := [(h, .inr (8, [.null, .null, .null, .null, .null, .null, .null, .null, .int 0, .int 0]))]) (wc := [(q0, .inr (6, [.int 0, .int 0, .int 0, .int 0, .int 0, .int 0, .int 0, .int 0, .null, .null, .null, .null, .null, .null, .null]))]) (w2 := []) (As := []) (rest := [.ref q0, .ref h]) hA (i_X8_init l G q0) ci_X8_init ni_RX10_9 ⟨(Nat.le_of_ble_eq_true rfl), (Nat.le_of_ble_eq_true rfl)⟩ ⟨(Nat.le_of_ble_eq_true rfl), (Nat.le_of_ble_eq_true rfl)⟩ rfl rfl (Nat.le_of_ble_eq_true rfl) dX10_init_9 (fun u hu => ?_)
  obtain ⟨q1, q2, q3, q4, q5, q6, q7, rfl⟩ := hu
  refine ka_put (q0 := 0) (fs := [.null, .null, .null, .null, .null, .null, .null, .null, .int 0, .int 0]) (w' := [(h, .inr (8, [.null, .null, .null, .null, .null, .null, .null, .ref q0, .int 0, .int 0])), (q0, .inr (6, [.int 0, .int 0, .int 0, .int 0, .int 0, .int 0, .int 0, .int 0, .ref q1, .ref q2, .ref q3, .ref q4, .ref q5, .ref q6, .ref q7])), (q1, .inl (G.2.1 1, 8, .inl (fun _ => 0))), (q2, .inl (G.2.1 1, 8, .inl (fun _ => 0))), (q3, .inl (G.2.1 1, 5, .inl (fun _ => 0))), (q4, .inl (G.2.1 1, 5, .inl (fun _ => 0))), (q5, .inl (G.2.1 1, 5, .inl (fun _ => 0))), (q6, .inl (G.2.1 1, 5, .inl (fun _ => 0))), (q7, .inl (G.2.1 1, 6, .inl (fun _ => 0)))]) hA k_in_X10 tyX10 tyX10_ok nmX10 rfl rfl 7 (by decide) wd_444 rfl (v := .ref q0) rfl rfl (Nat.le_of_ble_eq_true rfl) rfl dX10_init_12 ?_
  refine ka_aload_n (i := 0) hA dX10_init_15 rfl 0 rfl ?_
  refine ka_new (ci := 3) (fs := [.int 0, .int 0, .int 0, .null, .int 0, .int 0, .int 0, .int 0, .long 0, .int 0, .null, .null, .null]) hA k_in_X5 tyX5 tyX5_ok wd_246 wd_247 wd_121 rfl (fun j hj => by rcases (show j = 0 ∨ j = 1 ∨ j = 2 ∨ j = 3 ∨ j = 4 ∨ j = 5 ∨ j = 6 ∨ j = 7 ∨ j = 8 ∨ j = 9 ∨ j = 10 ∨ j = 11 ∨ j = 12 by omega) with rfl | rfl | rfl | rfl | rfl | rfl | rfl | rfl | rfl | rfl | rfl | rfl | rfl <;> rfl) (Nat.le_of_ble_eq_true rfl) (Nat.le_of_ble_eq_true rfl) dX10_init_16 (fun q8 => ?_)
  refine ka_dup hA dX10_init_19 rfl ?_
  refine ka_callIN (R := rm_X10_init) (cells := 9) (slots := 70) (w1 := [(h, .inr (8, [.null, .null, .null, .null, .null, .null, .null, .ref q0, .int 0, .int 0])), (q0, .inr (6, [.int 0, .int 0, .int 0, .int 0, .int 0, .int 0, .int 0, .int 0, .ref q1, .ref q2, .ref q3, .ref q4, .ref q5, .ref q6, .ref q7])), (q1, .inl (G.2.1 1, 8, .inl (fun _ => 0))), (q2, .inl (G.2.1 1, 8, .inl (fun _ => 0))), (q3, .inl (G.2.1 1, 5, .inl (fun _ => 0))), (q4, .inl (G.2.1 1, 5, .inl (fun _ => 0))), (q5, .inl (G.2.1 1, 5, .inl (fun _ => 0))), (q6, .inl (G.2.1 1, 5, .inl (fun _ => 0))), (q7, .inl (G.2.1 1, 6, .inl (fun _ => 0)))]) (wc := [(q8, .inr (3, [.int 0, .int 0, .int 0, .null, .int 0, .int 0, .int 0, .int 0, .long 0, .int 0, .null, .null, .null]))]) (w2 := []) (As := []) (rest := [.ref q8, .ref h]) hA (i_X5_init l G q8) ci_X5_init ni_RX10_18 ⟨(Nat.le_of_ble_eq_true rfl), (Nat.le_of_ble_eq_true rfl)⟩ ⟨(Nat.le_of_ble_eq_true rfl), (Nat.le_of_ble_eq_true rfl)⟩ rfl rfl (Nat.le_of_ble_eq_true rfl) dX10_init_20 (fun u hu => ?_)
  obtain ⟨q9, q10, q11, q12, q13, q14, q15, q16, q17, q18, q19, rfl⟩ := hu
  refine ka_putF (q0 := 0) (fs := [.null, .null, .null, .null, .null, .null, .null, .ref q0, .int 0, .int 0]) (w' := [(h, .inr (8, [.ref q8, .null, .null, .null, .null, .null, .null, .ref q0, .int 0, .int 0])), (q0, .inr (6, [.int 0, .int 0, .int 0, .int 0, .int 0, .int 0, .int 0, .int 0, .ref q1, .ref q2, .ref q3, .ref q4, .ref q5, .ref q6, .ref q7])), (q1, .inl (G.2.1 1, 8, .inl (fun _ => 0))), (q2, .inl (G.2.1 1, 8, .inl (fun _ => 0))), (q3, .inl (G.2.1 1, 5, .inl (fun _ => 0))), (q4, .inl (G.2.1 1, 5, .inl (fun _ => 0))), (q5, .inl (G.2.1 1, 5, .inl (fun _ => 0))), (q6, .inl (G.2.1 1, 5, .inl (fun _ => 0))), (q7, .inl (G.2.1 1, 6, .inl (fun _ => 0))), (q8, .inr (3, [.int 0, .int 0, .int 0, .ref q9, .int 0, .int 0, .int 0, .int 0, .long 0, .int 0, .ref q10, .ref q18, .ref q19])), (q9, .inl (G.2.1 0, 900, .inl (fun _ => 0))), (q10, .inr (6, [.int 0, .int 0, .int 0, .int 0, .int 0, .int 0, .int 0, .int 0, .ref q11, .ref q12, .ref q13, .ref q14, .ref q15, .ref q16, .ref q17])), (q11, .inl (G.2.1 1, 8, .inl (fun _ => 0))), (q12, .inl (G.2.1 1, 8, .inl (fun _ => 0))), (q13, .inl (G.2.1 1, 5, .inl (fun _ => 0))), (q14, .inl (G.2.1 1, 5, .inl (fun _ => 0))), (q15, .inl (G.2.1 1, 5, .inl (fun _ => 0))), (q16, .inl (G.2.1 1, 5, .inl (fun _ => 0))), (q17, .inl (G.2.1 1, 6, .inl (fun _ => 0))), (q18, .inl (G.2.1 2, 8, .inr (.inl (fun _ => 0)))), (q19, .inl (G.2.1 2, 5, .inr (.inl (fun _ => 0))))]) hA k_in_X10 tyX10 tyX10_ok nmX10 rfl rfl 0 (by decide) wd_437 rfl hin rfl (v := .ref q8) rfl rfl (Nat.le_of_ble_eq_true rfl) rfl dX10_init_23 ?_
  refine ka_aload_n (i := 0) hA dX10_init_26 rfl 0 rfl ?_
  refine ka_new (ci := 5) (fs := [.int 0, .null, .null]) hA k_in_X7 tyX7 tyX7_ok wd_299 wd_300 wd_122 rfl (fun j hj => by rcases (show j = 0 ∨ j = 1 ∨ j = 2 by omega) with rfl | rfl | rfl <;> rfl) (Nat.le_of_ble_eq_true rfl) (Nat.le_of_ble_eq_true rfl) dX10_init_27 (fun q20 => ?_)
  refine ka_dup hA dX10_init_30 rfl ?_
  refine ka_callIN (R := rm_X10_init) (cells := 21) (slots := 1043) (w1 := [(h, .inr (8, [.ref q8, .null, .null, .null, .null, .null, .null, .ref q0, .int 0, .int 0])), (q0, .inr (6, [.int 0, .int 0, .int 0, .int 0, .int 0, .int 0, .int 0, .int 0, .ref q1, .ref q2, .ref q3, .ref q4, .ref q5, .ref q6, .ref q7])), (q1, .inl (G.2.1 1, 8, .inl (fun _ => 0))), (q2, .inl (G.2.1 1, 8, .inl (fun _ => 0))), (q3, .inl (G.2.1 1, 5, .inl (fun _ => 0))), (q4, .inl (G.2.1 1, 5, .inl (fun _ => 0))), (q5, .inl (G.2.1 1, 5, .inl (fun _ => 0))), (q6, .inl (G.2.1 1, 5, .inl (fun _ => 0))), (q7, .inl (G.2.1 1, 6, .inl (fun _ => 0))), (q8, .inr (3, [.int 0, .int 0, .int 0, .ref q9, .int 0, .int 0, .int 0, .int 0, .long 0, .int 0, .ref q10, .ref q18, .ref q19])), (q9, .inl (G.2.1 0, 900, .inl (fun _ => 0))), (q10, .inr (6, [.int 0, .int 0, .int 0, .int 0, .int 0, .int 0, .int 0, .int 0, .ref q11, .ref q12, .ref q13, .ref q14, .ref q15, .ref q16, .ref q17])), (q11, .inl (G.2.1 1, 8, .inl (fun _ => 0))), (q12, .inl (G.2.1 1, 8, .inl (fun _ => 0))), (q13, .inl (G.2.1 1, 5, .inl (fun _ => 0))), (q14, .inl (G.2.1 1, 5, .inl (fun _ => 0))), (q15, .inl (G.2.1 1, 5, .inl (fun _ => 0))), (q16, .inl (G.2.1 1, 5, .inl (fun _ => 0))), (q17, .inl (G.2.1 1, 6, .inl (fun _ => 0))), (q18, .inl (G.2.1 2, 8, .inr (.inl (fun _ => 0)))), (q19, .inl (G.2.1 2, 5, .inr (.inl (fun _ => 0))))]) (wc := [(q20, .inr (5, [.int 0, .null, .null]))]) (w2 := []) (As := []) (rest := [.ref q20, .ref h]) hA (i_X7_init l G q20) ci_X7_init ni_RX10_25 ⟨(Nat.le_of_ble_eq_true rfl), (Nat.le_of_ble_eq_true rfl)⟩ ⟨(Nat.le_of_ble_eq_true rfl), (Nat.le_of_ble_eq_true rfl)⟩ rfl rfl (Nat.le_of_ble_eq_true rfl) dX10_init_31 (fun u hu => ?_)
  obtain ⟨q21, q22, rfl⟩ := hu
  refine ka_putF (q0 := 0) (fs := [.ref q8, .null, .null, .null, .null, .null, .null, .ref q0, .int 0, .int 0]) (w' := [(h, .inr (8, [.ref q8, .ref q20, .null, .null, .null, .null, .null, .ref q0, .int 0, .int 0])), (q0, .inr (6, [.int 0, .int 0, .int 0, .int 0, .int 0, .int 0, .int 0, .int 0, .ref q1, .ref q2, .ref q3, .ref q4, .ref q5, .ref q6, .ref q7])), (q1, .inl (G.2.1 1, 8, .inl (fun _ => 0))), (q2, .inl (G.2.1 1, 8, .inl (fun _ => 0))), (q3, .inl (G.2.1 1, 5, .inl (fun _ => 0))), (q4, .inl (G.2.1 1, 5, .inl (fun _ => 0))), (q5, .inl (G.2.1 1, 5, .inl (fun _ => 0))), (q6, .inl (G.2.1 1, 5, .inl (fun _ => 0))), (q7, .inl (G.2.1 1, 6, .inl (fun _ => 0))), (q8, .inr (3, [.int 0, .int 0, .int 0, .ref q9, .int 0, .int 0, .int 0, .int 0, .long 0, .int 0, .ref q10, .ref q18, .ref q19])), (q9, .inl (G.2.1 0, 900, .inl (fun _ => 0))), (q10, .inr (6, [.int 0, .int 0, .int 0, .int 0, .int 0, .int 0, .int 0, .int 0, .ref q11, .ref q12, .ref q13, .ref q14, .ref q15, .ref q16, .ref q17])), (q11, .inl (G.2.1 1, 8, .inl (fun _ => 0))), (q12, .inl (G.2.1 1, 8, .inl (fun _ => 0))), (q13, .inl (G.2.1 1, 5, .inl (fun _ => 0))), (q14, .inl (G.2.1 1, 5, .inl (fun _ => 0))), (q15, .inl (G.2.1 1, 5, .inl (fun _ => 0))), (q16, .inl (G.2.1 1, 5, .inl (fun _ => 0))), (q17, .inl (G.2.1 1, 6, .inl (fun _ => 0))), (q18, .inl (G.2.1 2, 8, .inr (.inl (fun _ => 0)))), (q19, .inl (G.2.1 2, 5, .inr (.inl (fun _ => 0)))), (q20, .inr (5, [.int 0, .ref q21, .ref q22])), (q21, .inl (G.2.1 1, 162, .inl (fun _ => 0))), (q22, .inl (G.2.1 1, 162, .inl (fun _ => 0)))]) hA k_in_X10 tyX10 tyX10_ok nmX10 rfl rfl 1 (by decide) wd_438 rfl hin rfl (v := .ref q20) rfl rfl (Nat.le_of_ble_eq_true rfl) rfl dX10_init_34 ?_
  refine ka_aload_n (i := 0) hA dX10_init_37 rfl 0 rfl ?_
  refine ka_new (ci := 2) (fs := [.null, .null, .int 0, .int 0, .int 0, .int 0]) hA k_in_X4 tyX4 tyX4_ok wd_317 wd_318 wd_123 rfl (fun j hj => by rcases (show j = 0 ∨ j = 1 ∨ j = 2 ∨ j = 3 ∨ j = 4 ∨ j = 5 by omega) with rfl | rfl | rfl | rfl | rfl | rfl <;> rfl) (Nat.le_of_ble_eq_true rfl) (Nat.le_of_ble_eq_true rfl) dX10_init_38 (fun q23 => ?_)
  refine ka_dup hA dX10_init_41 rfl ?_
  refine ka_callIN (R := rm_X10_init) (cells := 24) (slots := 1373) (w1 := [(h, .inr (8, [.ref q8, .ref q20, .null, .null, .null, .null, .null, .ref q0, .int 0, .int 0])), (q0, .inr (6, [.int 0, .int 0, .int 0, .int 0, .int 0, .int 0, .int 0, .int 0, .ref q1, .ref q2, .ref q3, .ref q4, .ref q5, .ref q6, .ref q7])), (q1, .inl (G.2.1 1, 8, .inl (fun _ => 0))), (q2, .inl (G.2.1 1, 8, .inl (fun _ => 0))), (q3, .inl (G.2.1 1, 5, .inl (fun _ => 0))), (q4, .inl (G.2.1 1, 5, .inl (fun _ => 0))), (q5, .inl (G.2.1 1, 5, .inl (fun _ => 0))), (q6, .inl (G.2.1 1, 5, .inl (fun _ => 0))), (q7, .inl (G.2.1 1, 6, .inl (fun _ => 0))), (q8, .inr (3, [.int 0, .int 0, .int 0, .ref q9, .int 0, .int 0, .int 0, .int 0, .long 0, .int 0, .ref q10, .ref q18, .ref q19])), (q9, .inl (G.2.1 0, 900, .inl (fun _ => 0))), (q10, .inr (6, [.int 0, .int 0, .int 0, .int 0, .int 0, .int 0, .int 0, .int 0, .ref q11, .ref q12, .ref q13, .ref q14, .ref q15, .ref q16, .ref q17])), (q11, .inl (G.2.1 1, 8, .inl (fun _ => 0))), (q12, .inl (G.2.1 1, 8, .inl (fun _ => 0))), (q13, .inl (G.2.1 1, 5, .inl (fun _ => 0))), (q14, .inl (G.2.1 1, 5, .inl (fun _ => 0))), (q15, .inl (G.2.1 1, 5, .inl (fun _ => 0))), (q16, .inl (G.2.1 1, 5, .inl (fun _ => 0))), (q17, .inl (G.2.1 1, 6, .inl (fun _ => 0))), (q18, .inl (G.2.1 2, 8, .inr (.inl (fun _ => 0)))), (q19, .inl (G.2.1 2, 5, .inr (.inl (fun _ => 0)))), (q20, .inr (5, [.int 0, .ref q21, .ref q22])), (q21, .inl (G.2.1 1, 162, .inl (fun _ => 0))), (q22, .inl (G.2.1 1, 162, .inl (fun _ => 0)))]) (wc := [(q23, .inr (2, [.null, .null, .int 0, .int 0, .int 0, .int 0]))]) (w2 := []) (As := []) (rest := [.ref q23, .ref h]) hA (i_X4_init l G q23) ci_X4_init ni_RX10_32 ⟨(Nat.le_of_ble_eq_true rfl), (Nat.le_of_ble_eq_true rfl)⟩ ⟨(Nat.le_of_ble_eq_true rfl), (Nat.le_of_ble_eq_true rfl)⟩ rfl rfl (Nat.le_of_ble_eq_true rfl) dX10_init_42 (fun u hu => ?_)
  obtain ⟨q24, q25, rfl⟩ := hu
  refine ka_putF (q0 := 0) (fs := [.ref q8, .ref q20, .null, .null, .null, .null, .null, .ref q0, .int 0, .int 0]) (w' := [(h, .inr (8, [.ref q8, .ref q20, .ref q23, .null, .null, .null, .null, .ref q0, .int 0, .int 0])), (q0, .inr (6, [.int 0, .int 0, .int 0, .int 0, .int 0, .int 0, .int 0, .int 0, .ref q1, .ref q2, .ref q3, .ref q4, .ref q5, .ref q6, .ref q7])), (q1, .inl (G.2.1 1, 8, .inl (fun _ => 0))), (q2, .inl (G.2.1 1, 8, .inl (fun _ => 0))), (q3, .inl (G.2.1 1, 5, .inl (fun _ => 0))), (q4, .inl (G.2.1 1, 5, .inl (fun _ => 0))), (q5, .inl (G.2.1 1, 5, .inl (fun _ => 0))), (q6, .inl (G.2.1 1, 5, .inl (fun _ => 0))), (q7, .inl (G.2.1 1, 6, .inl (fun _ => 0))), (q8, .inr (3, [.int 0, .int 0, .int 0, .ref q9, .int 0, .int 0, .int 0, .int 0, .long 0, .int 0, .ref q10, .ref q18, .ref q19])), (q9, .inl (G.2.1 0, 900, .inl (fun _ => 0))), (q10, .inr (6, [.int 0, .int 0, .int 0, .int 0, .int 0, .int 0, .int 0, .int 0, .ref q11, .ref q12, .ref q13, .ref q14, .ref q15, .ref q16, .ref q17])), (q11, .inl (G.2.1 1, 8, .inl (fun _ => 0))), (q12, .inl (G.2.1 1, 8, .inl (fun _ => 0))), (q13, .inl (G.2.1 1, 5, .inl (fun _ => 0))), (q14, .inl (G.2.1 1, 5, .inl (fun _ => 0))), (q15, .inl (G.2.1 1, 5, .inl (fun _ => 0))), (q16, .inl (G.2.1 1, 5, .inl (fun _ => 0))), (q17, .inl (G.2.1 1, 6, .inl (fun _ => 0))), (q18, .inl (G.2.1 2, 8, .inr (.inl (fun _ => 0)))), (q19, .inl (G.2.1 2, 5, .inr (.inl (fun _ => 0)))), (q20, .inr (5, [.int 0, .ref q21, .ref q22])), (q21, .inl (G.2.1 1, 162, .inl (fun _ => 0))), (q22, .inl (G.2.1 1, 162, .inl (fun _ => 0))), (q23, .inr (2, [.ref q24, .ref q25, .int 0, .int 0, .int 0, .int 0])), (q24, .inl (G.2.1 1, 26, .inl (fun _ => 0))), (q25, .inl (G.2.1 1, 3, .inl (fun _ => 0)))]) hA k_in_X10 tyX10 tyX10_ok nmX10 rfl rfl 2 (by decide) wd_439 rfl hin rfl (v := .ref q23) rfl rfl (Nat.le_of_ble_eq_true rfl) rfl dX10_init_45 ?_
  refine ka_aload_n (i := 0) hA dX10_init_48 rfl 0 rfl ?_
  refine ka_new (ci := 7) (fs := [.int 0, .int 0, .null, .null, .null]) hA k_in_X9 tyX9 tyX9_ok wd_342 wd_343 wd_124 rfl (fun j hj => by rcases (show j = 0 ∨ j = 1 ∨ j = 2 ∨ j = 3 ∨ j = 4 by omega) with rfl | rfl | rfl | rfl | rfl <;> rfl) (Nat.le_of_ble_eq_true rfl) (Nat.le_of_ble_eq_true rfl) dX10_init_49 (fun q26 => ?_)
  refine ka_dup hA dX10_init_52 rfl ?_
  refine ka_callIN (R := rm_X10_init) (cells := 27) (slots := 1407) (w1 := [(h, .inr (8, [.ref q8, .ref q20, .ref q23, .null, .null, .null, .null, .ref q0, .int 0, .int 0])), (q0, .inr (6, [.int 0, .int 0, .int 0, .int 0, .int 0, .int 0, .int 0, .int 0, .ref q1, .ref q2, .ref q3, .ref q4, .ref q5, .ref q6, .ref q7])), (q1, .inl (G.2.1 1, 8, .inl (fun _ => 0))), (q2, .inl (G.2.1 1, 8, .inl (fun _ => 0))), (q3, .inl (G.2.1 1, 5, .inl (fun _ => 0))), (q4, .inl (G.2.1 1, 5, .inl (fun _ => 0))), (q5, .inl (G.2.1 1, 5, .inl (fun _ => 0))), (q6, .inl (G.2.1 1, 5, .inl (fun _ => 0))), (q7, .inl (G.2.1 1, 6, .inl (fun _ => 0))), (q8, .inr (3, [.int 0, .int 0, .int 0, .ref q9, .int 0, .int 0, .int 0, .int 0, .long 0, .int 0, .ref q10, .ref q18, .ref q19])), (q9, .inl (G.2.1 0, 900, .inl (fun _ => 0))), (q10, .inr (6, [.int 0, .int 0, .int 0, .int 0, .int 0, .int 0, .int 0, .int 0, .ref q11, .ref q12, .ref q13, .ref q14, .ref q15, .ref q16, .ref q17])), (q11, .inl (G.2.1 1, 8, .inl (fun _ => 0))), (q12, .inl (G.2.1 1, 8, .inl (fun _ => 0))), (q13, .inl (G.2.1 1, 5, .inl (fun _ => 0))), (q14, .inl (G.2.1 1, 5, .inl (fun _ => 0))), (q15, .inl (G.2.1 1, 5, .inl (fun _ => 0))), (q16, .inl (G.2.1 1, 5, .inl (fun _ => 0))), (q17, .inl (G.2.1 1, 6, .inl (fun _ => 0))), (q18, .inl (G.2.1 2, 8, .inr (.inl (fun _ => 0)))), (q19, .inl (G.2.1 2, 5, .inr (.inl (fun _ => 0)))), (q20, .inr (5, [.int 0, .ref q21, .ref q22])), (q21, .inl (G.2.1 1, 162, .inl (fun _ => 0))), (q22, .inl (G.2.1 1, 162, .inl (fun _ => 0))), (q23, .inr (2, [.ref q24, .ref q25, .int 0, .int 0, .int 0, .int 0])), (q24, .inl (G.2.1 1, 26, .inl (fun _ => 0))), (q25, .inl (G.2.1 1, 3, .inl (fun _ => 0)))]) (wc := [(q26, .inr (7, [.int 0, .int 0, .null, .null, .null]))]) (w2 := []) (As := []) (rest := [.ref q26, .ref h]) hA (i_X9_init l G q26) ci_X9_init ni_RX10_39 ⟨(Nat.le_of_ble_eq_true rfl), (Nat.le_of_ble_eq_true rfl)⟩ ⟨(Nat.le_of_ble_eq_true rfl), (Nat.le_of_ble_eq_true rfl)⟩ rfl rfl (Nat.le_of_ble_eq_true rfl) dX10_init_53 (fun u hu => ?_)
  obtain ⟨q27, q28, q29, rfl⟩ := hu
  refine ka_putF (q0 := 0) (fs := [.ref q8, .ref q20, .ref q23, .null, .null, .null, .null, .ref q0, .int 0, .int 0]) (w' := [(h, .inr (8, [.ref q8, .ref q20, .ref q23, .ref q26, .null, .null, .null, .ref q0, .int 0, .int 0])), (q0, .inr (6, [.int 0, .int 0, .int 0, .int 0, .int 0, .int 0, .int 0, .int 0, .ref q1, .ref q2, .ref q3, .ref q4, .ref q5, .ref q6, .ref q7])), (q1, .inl (G.2.1 1, 8, .inl (fun _ => 0))), (q2, .inl (G.2.1 1, 8, .inl (fun _ => 0))), (q3, .inl (G.2.1 1, 5, .inl (fun _ => 0))), (q4, .inl (G.2.1 1, 5, .inl (fun _ => 0))), (q5, .inl (G.2.1 1, 5, .inl (fun _ => 0))), (q6, .inl (G.2.1 1, 5, .inl (fun _ => 0))), (q7, .inl (G.2.1 1, 6, .inl (fun _ => 0))), (q8, .inr (3, [.int 0, .int 0, .int 0, .ref q9, .int 0, .int 0, .int 0, .int 0, .long 0, .int 0, .ref q10, .ref q18, .ref q19])), (q9, .inl (G.2.1 0, 900, .inl (fun _ => 0))), (q10, .inr (6, [.int 0, .int 0, .int 0, .int 0, .int 0, .int 0, .int 0, .int 0, .ref q11, .ref q12, .ref q13, .ref q14, .ref q15, .ref q16, .ref q17])), (q11, .inl (G.2.1 1, 8, .inl (fun _ => 0))), (q12, .inl (G.2.1 1, 8, .inl (fun _ => 0))), (q13, .inl (G.2.1 1, 5, .inl (fun _ => 0))), (q14, .inl (G.2.1 1, 5, .inl (fun _ => 0))), (q15, .inl (G.2.1 1, 5, .inl (fun _ => 0))), (q16, .inl (G.2.1 1, 5, .inl (fun _ => 0))), (q17, .inl (G.2.1 1, 6, .inl (fun _ => 0))), (q18, .inl (G.2.1 2, 8, .inr (.inl (fun _ => 0)))), (q19, .inl (G.2.1 2, 5, .inr (.inl (fun _ => 0)))), (q20, .inr (5, [.int 0, .ref q21, .ref q22])), (q21, .inl (G.2.1 1, 162, .inl (fun _ => 0))), (q22, .inl (G.2.1 1, 162, .inl (fun _ => 0))), (q23, .inr (2, [.ref q24, .ref q25, .int 0, .int 0, .int 0, .int 0])), (q24, .inl (G.2.1 1, 26, .inl (fun _ => 0))), (q25, .inl (G.2.1 1, 3, .inl (fun _ => 0))), (q26, .inr (7, [.int 0, .int 0, .ref q27, .ref q28, .ref q29])), (q27, .inl (G.2.1 1, 5, .inl (fun _ => 0))), (q28, .inl (G.2.1 1, 5, .inl (fun _ => 0))), (q29, .inl (G.2.1 1, 5, .inl (fun _ => 0)))]) hA k_in_X10 tyX10 tyX10_ok nmX10 rfl rfl 3 (by decide) wd_440 rfl hin rfl (v := .ref q26) rfl rfl (Nat.le_of_ble_eq_true rfl) rfl dX10_init_56 ?_
  refine ka_aload_n (i := 0) hA dX10_init_59 rfl 0 rfl ?_
  refine ka_new (ci := 4) (fs := [.int 0, .int 0, .int 0, .null]) hA k_in_X6 tyX6 tyX6_ok wd_368 wd_369 wd_125 rfl (fun j hj => by rcases (show j = 0 ∨ j = 1 ∨ j = 2 ∨ j = 3 by omega) with rfl | rfl | rfl | rfl <;> rfl) (Nat.le_of_ble_eq_true rfl) (Nat.le_of_ble_eq_true rfl) dX10_init_60 (fun q30 => ?_)
  refine ka_dup hA dX10_init_63 rfl ?_
  refine ka_callIN (R := rm_X10_init) (cells := 31) (slots := 1426) (w1 := [(h, .inr (8, [.ref q8, .ref q20, .ref q23, .ref q26, .null, .null, .null, .ref q0, .int 0, .int 0])), (q0, .inr (6, [.int 0, .int 0, .int 0, .int 0, .int 0, .int 0, .int 0, .int 0, .ref q1, .ref q2, .ref q3, .ref q4, .ref q5, .ref q6, .ref q7])), (q1, .inl (G.2.1 1, 8, .inl (fun _ => 0))), (q2, .inl (G.2.1 1, 8, .inl (fun _ => 0))), (q3, .inl (G.2.1 1, 5, .inl (fun _ => 0))), (q4, .inl (G.2.1 1, 5, .inl (fun _ => 0))), (q5, .inl (G.2.1 1, 5, .inl (fun _ => 0))), (q6, .inl (G.2.1 1, 5, .inl (fun _ => 0))), (q7, .inl (G.2.1 1, 6, .inl (fun _ => 0))), (q8, .inr (3, [.int 0, .int 0, .int 0, .ref q9, .int 0, .int 0, .int 0, .int 0, .long 0, .int 0, .ref q10, .ref q18, .ref q19])), (q9, .inl (G.2.1 0, 900, .inl (fun _ => 0))), (q10, .inr (6, [.int 0, .int 0, .int 0, .int 0, .int 0, .int 0, .int 0, .int 0, .ref q11, .ref q12, .ref q13, .ref q14, .ref q15, .ref q16, .ref q17])), (q11, .inl (G.2.1 1, 8, .inl (fun _ => 0))), (q12, .inl (G.2.1 1, 8, .inl (fun _ => 0))), (q13, .inl (G.2.1 1, 5, .inl (fun _ => 0))), (q14, .inl (G.2.1 1, 5, .inl (fun _ => 0))), (q15, .inl (G.2.1 1, 5, .inl (fun _ => 0))), (q16, .inl (G.2.1 1, 5, .inl (fun _ => 0))), (q17, .inl (G.2.1 1, 6, .inl (fun _ => 0))), (q18, .inl (G.2.1 2, 8, .inr (.inl (fun _ => 0)))), (q19, .inl (G.2.1 2, 5, .inr (.inl (fun _ => 0)))), (q20, .inr (5, [.int 0, .ref q21, .ref q22])), (q21, .inl (G.2.1 1, 162, .inl (fun _ => 0))), (q22, .inl (G.2.1 1, 162, .inl (fun _ => 0))), (q23, .inr (2, [.ref q24, .ref q25, .int 0, .int 0, .int 0, .int 0])), (q24, .inl (G.2.1 1, 26, .inl (fun _ => 0))), (q25, .inl (G.2.1 1, 3, .inl (fun _ => 0))), (q26, .inr (7, [.int 0, .int 0, .ref q27, .ref q28, .ref q29])), (q27, .inl (G.2.1 1, 5, .inl (fun _ => 0))), (q28, .inl (G.2.1 1, 5, .inl (fun _ => 0))), (q29, .inl (G.2.1 1, 5, .inl (fun _ => 0)))]) (wc := [(q30, .inr (4, [.int 0, .int 0, .int 0, .null]))]) (w2 := []) (As := []) (rest := [.ref q30, .ref h]) hA (i_X6_init l G q30) ci_X6_init ni_RX10_46 ⟨(Nat.le_of_ble_eq_true rfl), (Nat.le_of_ble_eq_true rfl)⟩ ⟨(Nat.le_of_ble_eq_true rfl), (Nat.le_of_ble_eq_true rfl)⟩ rfl rfl (Nat.le_of_ble_eq_true rfl) dX10_init_64 (fun u hu => ?_)
  obtain ⟨q31, rfl⟩ := hu
  refine ka_putF (q0 := 0) (fs := [.ref q8, .ref q20, .ref q23, .ref q26, .null, .null, .null, .ref q0, .int 0, .int 0]) (w' := [(h, .inr (8, [.ref q8, .ref q20, .ref q23, .ref q26, .ref q30, .null, .null, .ref q0, .int 0, .int 0])), (q0, .inr (6, [.int 0, .int 0, .int 0, .int 0, .int 0, .int 0, .int 0, .int 0, .ref q1, .ref q2, .ref q3, .ref q4, .ref q5, .ref q6, .ref q7])), (q1, .inl (G.2.1 1, 8, .inl (fun _ => 0))), (q2, .inl (G.2.1 1, 8, .inl (fun _ => 0))), (q3, .inl (G.2.1 1, 5, .inl (fun _ => 0))), (q4, .inl (G.2.1 1, 5, .inl (fun _ => 0))), (q5, .inl (G.2.1 1, 5, .inl (fun _ => 0))), (q6, .inl (G.2.1 1, 5, .inl (fun _ => 0))), (q7, .inl (G.2.1 1, 6, .inl (fun _ => 0))), (q8, .inr (3, [.int 0, .int 0, .int 0, .ref q9, .int 0, .int 0, .int 0, .int 0, .long 0, .int 0, .ref q10, .ref q18, .ref q19])), (q9, .inl (G.2.1 0, 900, .inl (fun _ => 0))), (q10, .inr (6, [.int 0, .int 0, .int 0, .int 0, .int 0, .int 0, .int 0, .int 0, .ref q11, .ref q12, .ref q13, .ref q14, .ref q15, .ref q16, .ref q17])), (q11, .inl (G.2.1 1, 8, .inl (fun _ => 0))), (q12, .inl (G.2.1 1, 8, .inl (fun _ => 0))), (q13, .inl (G.2.1 1, 5, .inl (fun _ => 0))), (q14, .inl (G.2.1 1, 5, .inl (fun _ => 0))), (q15, .inl (G.2.1 1, 5, .inl (fun _ => 0))), (q16, .inl (G.2.1 1, 5, .inl (fun _ => 0))), (q17, .inl (G.2.1 1, 6, .inl (fun _ => 0))), (q18, .inl (G.2.1 2, 8, .inr (.inl (fun _ => 0)))), (q19, .inl (G.2.1 2, 5, .inr (.inl (fun _ => 0)))), (q20, .inr (5, [.int 0, .ref q21, .ref q22])), (q21, .inl (G.2.1 1, 162, .inl (fun _ => 0))), (q22, .inl (G.2.1 1, 162, .inl (fun _ => 0))), (q23, .inr (2, [.ref q24, .ref q25, .int 0, .int 0, .int 0, .int 0])), (q24, .inl (G.2.1 1, 26, .inl (fun _ => 0))), (q25, .inl (G.2.1 1, 3, .inl (fun _ => 0))), (q26, .inr (7, [.int 0, .int 0, .ref q27, .ref q28, .ref q29])), (q27, .inl (G.2.1 1, 5, .inl (fun _ => 0))), (q28, .inl (G.2.1 1, 5, .inl (fun _ => 0))), (q29, .inl (G.2.1 1, 5, .inl (fun _ => 0))), (q30, .inr (4, [.int 0, .int 0, .int 0, .ref q31])), (q31, .inl (G.2.1 1, 9, .inl (fun _ => 0)))]) hA k_in_X10 tyX10 tyX10_ok nmX10 rfl rfl 4 (by decide) wd_441 rfl hin rfl (v := .ref q30) rfl rfl (Nat.le_of_ble_eq_true rfl) rfl dX10_init_67 ?_
  refine ka_aload_n (i := 0) hA dX10_init_70 rfl 0 rfl ?_
  refine ka_new (ci := 0) (fs := [.int 0, .int 0]) hA k_in_X1 tyX1 tyX1_ok wd_390 wd_391 wd_126 rfl (fun j hj => by rcases (show j = 0 ∨ j = 1 by omega) with rfl | rfl <;> rfl) (Nat.le_of_ble_eq_true rfl) (Nat.le_of_ble_eq_true rfl) dX10_init_71 (fun q32 => ?_)
  refine ka_dup hA dX10_init_74 rfl ?_
  refine ka_callIN (R := rm_X10_init) (cells := 33) (slots := 1437) (w1 := [(h, .inr (8, [.ref q8, .ref q20, .ref q23, .ref q26, .ref q30, .null, .null, .ref q0, .int 0, .int 0])), (q0, .inr (6, [.int 0, .int 0, .int 0, .int 0, .int 0, .int 0, .int 0, .int 0, .ref q1, .ref q2, .ref q3, .ref q4, .ref q5, .ref q6, .ref q7])), (q1, .inl (G.2.1 1, 8, .inl (fun _ => 0))), (q2, .inl (G.2.1 1, 8, .inl (fun _ => 0))), (q3, .inl (G.2.1 1, 5, .inl (fun _ => 0))), (q4, .inl (G.2.1 1, 5, .inl (fun _ => 0))), (q5, .inl (G.2.1 1, 5, .inl (fun _ => 0))), (q6, .inl (G.2.1 1, 5, .inl (fun _ => 0))), (q7, .inl (G.2.1 1, 6, .inl (fun _ => 0))), (q8, .inr (3, [.int 0, .int 0, .int 0, .ref q9, .int 0, .int 0, .int 0, .int 0, .long 0, .int 0, .ref q10, .ref q18, .ref q19])), (q9, .inl (G.2.1 0, 900, .inl (fun _ => 0))), (q10, .inr (6, [.int 0, .int 0, .int 0, .int 0, .int 0, .int 0, .int 0, .int 0, .ref q11, .ref q12, .ref q13, .ref q14, .ref q15, .ref q16, .ref q17])), (q11, .inl (G.2.1 1, 8, .inl (fun _ => 0))), (q12, .inl (G.2.1 1, 8, .inl (fun _ => 0))), (q13, .inl (G.2.1 1, 5, .inl (fun _ => 0))), (q14, .inl (G.2.1 1, 5, .inl (fun _ => 0))), (q15, .inl (G.2.1 1, 5, .inl (fun _ => 0))), (q16, .inl (G.2.1 1, 5, .inl (fun _ => 0))), (q17, .inl (G.2.1 1, 6, .inl (fun _ => 0))), (q18, .inl (G.2.1 2, 8, .inr (.inl (fun _ => 0)))), (q19, .inl (G.2.1 2, 5, .inr (.inl (fun _ => 0)))), (q20, .inr (5, [.int 0, .ref q21, .ref q22])), (q21, .inl (G.2.1 1, 162, .inl (fun _ => 0))), (q22, .inl (G.2.1 1, 162, .inl (fun _ => 0))), (q23, .inr (2, [.ref q24, .ref q25, .int 0, .int 0, .int 0, .int 0])), (q24, .inl (G.2.1 1, 26, .inl (fun _ => 0))), (q25, .inl (G.2.1 1, 3, .inl (fun _ => 0))), (q26, .inr (7, [.int 0, .int 0, .ref q27, .ref q28, .ref q29])), (q27, .inl (G.2.1 1, 5, .inl (fun _ => 0))), (q28, .inl (G.2.1 1, 5, .inl (fun _ => 0))), (q29, .inl (G.2.1 1, 5, .inl (fun _ => 0))), (q30, .inr (4, [.int 0, .int 0, .int 0, .ref q31])), (q31, .inl (G.2.1 1, 9, .inl (fun _ => 0)))]) (wc := [(q32, .inr (0, [.int 0, .int 0]))]) (w2 := []) (As := []) (rest := [.ref q32, .ref h]) hA (i_X1_init l G q32) ci_X1_init ni_RX10_53 ⟨(Nat.le_of_ble_eq_true rfl), (Nat.le_of_ble_eq_true rfl)⟩ ⟨(Nat.le_of_ble_eq_true rfl), (Nat.le_of_ble_eq_true rfl)⟩ rfl rfl (Nat.le_of_ble_eq_true rfl) dX10_init_75 (fun u hu => ?_)
  obtain ⟨rfl⟩ := hu
  refine ka_putF (q0 := 0) (fs := [.ref q8, .ref q20, .ref q23, .ref q26, .ref q30, .null, .null, .ref q0, .int 0, .int 0]) (w' := [(h, .inr (8, [.ref q8, .ref q20, .ref q23, .ref q26, .ref q30, .ref q32, .null, .ref q0, .int 0, .int 0])), (q0, .inr (6, [.int 0, .int 0, .int 0, .int 0, .int 0, .int 0, .int 0, .int 0, .ref q1, .ref q2, .ref q3, .ref q4, .ref q5, .ref q6, .ref q7])), (q1, .inl (G.2.1 1, 8, .inl (fun _ => 0))), (q2, .inl (G.2.1 1, 8, .inl (fun _ => 0))), (q3, .inl (G.2.1 1, 5, .inl (fun _ => 0))), (q4, .inl (G.2.1 1, 5, .inl (fun _ => 0))), (q5, .inl (G.2.1 1, 5, .inl (fun _ => 0))), (q6, .inl (G.2.1 1, 5, .inl (fun _ => 0))), (q7, .inl (G.2.1 1, 6, .inl (fun _ => 0))), (q8, .inr (3, [.int 0, .int 0, .int 0, .ref q9, .int 0, .int 0, .int 0, .int 0, .long 0, .int 0, .ref q10, .ref q18, .ref q19])), (q9, .inl (G.2.1 0, 900, .inl (fun _ => 0))), (q10, .inr (6, [.int 0, .int 0, .int 0, .int 0, .int 0, .int 0, .int 0, .int 0, .ref q11, .ref q12, .ref q13, .ref q14, .ref q15, .ref q16, .ref q17])), (q11, .inl (G.2.1 1, 8, .inl (fun _ => 0))), (q12, .inl (G.2.1 1, 8, .inl (fun _ => 0))), (q13, .inl (G.2.1 1, 5, .inl (fun _ => 0))), (q14, .inl (G.2.1 1, 5, .inl (fun _ => 0))), (q15, .inl (G.2.1 1, 5, .inl (fun _ => 0))), (q16, .inl (G.2.1 1, 5, .inl (fun _ => 0))), (q17, .inl (G.2.1 1, 6, .inl (fun _ => 0))), (q18, .inl (G.2.1 2, 8, .inr (.inl (fun _ => 0)))), (q19, .inl (G.2.1 2, 5, .inr (.inl (fun _ => 0)))), (q20, .inr (5, [.int 0, .ref q21, .ref q22])), (q21, .inl (G.2.1 1, 162, .inl (fun _ => 0))), (q22, .inl (G.2.1 1, 162, .inl (fun _ => 0))), (q23, .inr (2, [.ref q24, .ref q25, .int 0, .int 0, .int 0, .int 0])), (q24, .inl (G.2.1 1, 26, .inl (fun _ => 0))), (q25, .inl (G.2.1 1, 3, .inl (fun _ => 0))), (q26, .inr (7, [.int 0, .int 0, .ref q27, .ref q28, .ref q29])), (q27, .inl (G.2.1 1, 5, .inl (fun _ => 0))), (q28, .inl (G.2.1 1, 5, .inl (fun _ => 0))), (q29, .inl (G.2.1 1, 5, .inl (fun _ => 0))), (q30, .inr (4, [.int 0, .int 0, .int 0, .ref q31])), (q31, .inl (G.2.1 1, 9, .inl (fun _ => 0))), (q32, .inr (0, [.int 0, .int 0]))]) hA k_in_X10 tyX10 tyX10_ok nmX10 rfl rfl 5 (by decide) wd_442 rfl hin rfl (v := .ref q32) rfl rfl (Nat.le_of_ble_eq_true rfl) rfl dX10_init_78 ?_
  refine ka_aload_n (i := 0) hA dX10_init_81 rfl 0 rfl ?_
  refine ka_new (ci := 1) (fs := [.long 0, .int 0, .int 0, .int 0, .int 0, .null, .null]) hA k_in_X3 tyX3 tyX3_ok wd_405 wd_406 wd_127 rfl (fun j hj => by rcases (show j = 0 ∨ j = 1 ∨ j = 2 ∨ j = 3 ∨ j = 4 ∨ j = 5 ∨ j = 6 by omega) with rfl | rfl | rfl | rfl | rfl | rfl | rfl <;> rfl) (Nat.le_of_ble_eq_true rfl) (Nat.le_of_ble_eq_true rfl) dX10_init_82 (fun q33 => ?_)
  refine ka_dup hA dX10_init_85 rfl ?_
  refine ka_callIN (R := rm_X10_init) (cells := 34) (slots := 1444) (w1 := [(h, .inr (8, [.ref q8, .ref q20, .ref q23, .ref q26, .ref q30, .ref q32, .null, .ref q0, .int 0, .int 0])), (q0, .inr (6, [.int 0, .int 0, .int 0, .int 0, .int 0, .int 0, .int 0, .int 0, .ref q1, .ref q2, .ref q3, .ref q4, .ref q5, .ref q6, .ref q7])), (q1, .inl (G.2.1 1, 8, .inl (fun _ => 0))), (q2, .inl (G.2.1 1, 8, .inl (fun _ => 0))), (q3, .inl (G.2.1 1, 5, .inl (fun _ => 0))), (q4, .inl (G.2.1 1, 5, .inl (fun _ => 0))), (q5, .inl (G.2.1 1, 5, .inl (fun _ => 0))), (q6, .inl (G.2.1 1, 5, .inl (fun _ => 0))), (q7, .inl (G.2.1 1, 6, .inl (fun _ => 0))), (q8, .inr (3, [.int 0, .int 0, .int 0, .ref q9, .int 0, .int 0, .int 0, .int 0, .long 0, .int 0, .ref q10, .ref q18, .ref q19])), (q9, .inl (G.2.1 0, 900, .inl (fun _ => 0))), (q10, .inr (6, [.int 0, .int 0, .int 0, .int 0, .int 0, .int 0, .int 0, .int 0, .ref q11, .ref q12, .ref q13, .ref q14, .ref q15, .ref q16, .ref q17])), (q11, .inl (G.2.1 1, 8, .inl (fun _ => 0))), (q12, .inl (G.2.1 1, 8, .inl (fun _ => 0))), (q13, .inl (G.2.1 1, 5, .inl (fun _ => 0))), (q14, .inl (G.2.1 1, 5, .inl (fun _ => 0))), (q15, .inl (G.2.1 1, 5, .inl (fun _ => 0))), (q16, .inl (G.2.1 1, 5, .inl (fun _ => 0))), (q17, .inl (G.2.1 1, 6, .inl (fun _ => 0))), (q18, .inl (G.2.1 2, 8, .inr (.inl (fun _ => 0)))), (q19, .inl (G.2.1 2, 5, .inr (.inl (fun _ => 0)))), (q20, .inr (5, [.int 0, .ref q21, .ref q22])), (q21, .inl (G.2.1 1, 162, .inl (fun _ => 0))), (q22, .inl (G.2.1 1, 162, .inl (fun _ => 0))), (q23, .inr (2, [.ref q24, .ref q25, .int 0, .int 0, .int 0, .int 0])), (q24, .inl (G.2.1 1, 26, .inl (fun _ => 0))), (q25, .inl (G.2.1 1, 3, .inl (fun _ => 0))), (q26, .inr (7, [.int 0, .int 0, .ref q27, .ref q28, .ref q29])), (q27, .inl (G.2.1 1, 5, .inl (fun _ => 0))), (q28, .inl (G.2.1 1, 5, .inl (fun _ => 0))), (q29, .inl (G.2.1 1, 5, .inl (fun _ => 0))), (q30, .inr (4, [.int 0, .int 0, .int 0, .ref q31])), (q31, .inl (G.2.1 1, 9, .inl (fun _ => 0))), (q32, .inr (0, [.int 0, .int 0]))]) (wc := [(q33, .inr (1, [.long 0, .int 0, .int 0, .int 0, .int 0, .null, .null]))]) (w2 := []) (As := []) (rest := [.ref q33, .ref h]) hA (i_X3_init l G q33) ci_X3_init ni_RX10_60 ⟨(Nat.le_of_ble_eq_true rfl), (Nat.le_of_ble_eq_true rfl)⟩ ⟨(Nat.le_of_ble_eq_true rfl), (Nat.le_of_ble_eq_true rfl)⟩ rfl rfl (Nat.le_of_ble_eq_true rfl) dX10_init_86 (fun u hu => ?_)
  obtain ⟨q34, q35, rfl⟩ := hu
  refine ka_putF (q0 := 0) (fs := [.ref q8, .ref q20, .ref q23, .ref q26, .ref q30, .ref q32, .null, .ref q0, .int 0, .int 0]) (w' := [(h, .inr (8, [.ref q8, .ref q20, .ref q23, .ref q26, .ref q30, .ref q32, .ref q33, .ref q0, .int 0, .int 0])), (q0, .inr (6, [.int 0, .int 0, .int 0, .int 0, .int 0, .int 0, .int 0, .int 0, .ref q1, .ref q2, .ref q3, .ref q4, .ref q5, .ref q6, .ref q7])), (q1, .inl (G.2.1 1, 8, .inl (fun _ => 0))), (q2, .inl (G.2.1 1, 8, .inl (fun _ => 0))), (q3, .inl (G.2.1 1, 5, .inl (fun _ => 0))), (q4, .inl (G.2.1 1, 5, .inl (fun _ => 0))), (q5, .inl (G.2.1 1, 5, .inl (fun _ => 0))), (q6, .inl (G.2.1 1, 5, .inl (fun _ => 0))), (q7, .inl (G.2.1 1, 6, .inl (fun _ => 0))), (q8, .inr (3, [.int 0, .int 0, .int 0, .ref q9, .int 0, .int 0, .int 0, .int 0, .long 0, .int 0, .ref q10, .ref q18, .ref q19])), (q9, .inl (G.2.1 0, 900, .inl (fun _ => 0))), (q10, .inr (6, [.int 0, .int 0, .int 0, .int 0, .int 0, .int 0, .int 0, .int 0, .ref q11, .ref q12, .ref q13, .ref q14, .ref q15, .ref q16, .ref q17])), (q11, .inl (G.2.1 1, 8, .inl (fun _ => 0))), (q12, .inl (G.2.1 1, 8, .inl (fun _ => 0))), (q13, .inl (G.2.1 1, 5, .inl (fun _ => 0))), (q14, .inl (G.2.1 1, 5, .inl (fun _ => 0))), (q15, .inl (G.2.1 1, 5, .inl (fun _ => 0))), (q16, .inl (G.2.1 1, 5, .inl (fun _ => 0))), (q17, .inl (G.2.1 1, 6, .inl (fun _ => 0))), (q18, .inl (G.2.1 2, 8, .inr (.inl (fun _ => 0)))), (q19, .inl (G.2.1 2, 5, .inr (.inl (fun _ => 0)))), (q20, .inr (5, [.int 0, .ref q21, .ref q22])), (q21, .inl (G.2.1 1, 162, .inl (fun _ => 0))), (q22, .inl (G.2.1 1, 162, .inl (fun _ => 0))), (q23, .inr (2, [.ref q24, .ref q25, .int 0, .int 0, .int 0, .int 0])), (q24, .inl (G.2.1 1, 26, .inl (fun _ => 0))), (q25, .inl (G.2.1 1, 3, .inl (fun _ => 0))), (q26, .inr (7, [.int 0, .int 0, .ref q27, .ref q28, .ref q29])), (q27, .inl (G.2.1 1, 5, .inl (fun _ => 0))), (q28, .inl (G.2.1 1, 5, .inl (fun _ => 0))), (q29, .inl (G.2.1 1, 5, .inl (fun _ => 0))), (q30, .inr (4, [.int 0, .int 0, .int 0, .ref q31])), (q31, .inl (G.2.1 1, 9, .inl (fun _ => 0))), (q32, .inr (0, [.int 0, .int 0])), (q33, .inr (1, [.long 0, .int 0, .int 0, .int 0, .int 0, .ref q34, .ref q35])), (q34, .inl (G.2.1 2, 16, .inr (.inl (fun _ => 0)))), (q35, .inl (G.2.1 2, 3, .inr (.inl (fun _ => 0))))]) hA k_in_X10 tyX10 tyX10_ok nmX10 rfl rfl 6 (by decide) wd_443 rfl hin rfl (v := .ref q33) rfl rfl (Nat.le_of_ble_eq_true rfl) rfl dX10_init_89 ?_
  refine ka_perm (w' := [(h, .inr (8, [.ref q8, .ref q20, .ref q23, .ref q26, .ref q30, .ref q32, .ref q33, .ref q0, .int 0, .int 0])), (q9, .inl (G.2.1 0, 900, .inl (fun _ => 0))), (q0, .inr (6, [.int 0, .int 0, .int 0, .int 0, .int 0, .int 0, .int 0, .int 0, .ref q1, .ref q2, .ref q3, .ref q4, .ref q5, .ref q6, .ref q7])), (q1, .inl (G.2.1 1, 8, .inl (fun _ => 0))), (q2, .inl (G.2.1 1, 8, .inl (fun _ => 0))), (q3, .inl (G.2.1 1, 5, .inl (fun _ => 0))), (q4, .inl (G.2.1 1, 5, .inl (fun _ => 0))), (q5, .inl (G.2.1 1, 5, .inl (fun _ => 0))), (q6, .inl (G.2.1 1, 5, .inl (fun _ => 0))), (q7, .inl (G.2.1 1, 6, .inl (fun _ => 0))), (q10, .inr (6, [.int 0, .int 0, .int 0, .int 0, .int 0, .int 0, .int 0, .int 0, .ref q11, .ref q12, .ref q13, .ref q14, .ref q15, .ref q16, .ref q17])), (q11, .inl (G.2.1 1, 8, .inl (fun _ => 0))), (q12, .inl (G.2.1 1, 8, .inl (fun _ => 0))), (q13, .inl (G.2.1 1, 5, .inl (fun _ => 0))), (q14, .inl (G.2.1 1, 5, .inl (fun _ => 0))), (q15, .inl (G.2.1 1, 5, .inl (fun _ => 0))), (q16, .inl (G.2.1 1, 5, .inl (fun _ => 0))), (q17, .inl (G.2.1 1, 6, .inl (fun _ => 0))), (q8, .inr (3, [.int 0, .int 0, .int 0, .ref q9, .int 0, .int 0, .int 0, .int 0, .long 0, .int 0, .ref q10, .ref q18, .ref q19])), (q18, .inl (G.2.1 2, 8, .inr (.inl (fun _ => 0)))), (q19, .inl (G.2.1 2, 5, .inr (.inl (fun _ => 0)))), (q20, .inr (5, [.int 0, .ref q21, .ref q22])), (q21, .inl (G.2.1 1, 162, .inl (fun _ => 0))), (q22, .inl (G.2.1 1, 162, .inl (fun _ => 0))), (q23, .inr (2, [.ref q24, .ref q25, .int 0, .int 0, .int 0, .int 0])), (q24, .inl (G.2.1 1, 26, .inl (fun _ => 0))), (q25, .inl (G.2.1 1, 3, .inl (fun _ => 0))), (q26, .inr (7, [.int 0, .int 0, .ref q27, .ref q28, .ref q29])), (q27, .inl (G.2.1 1, 5, .inl (fun _ => 0))), (q28, .inl (G.2.1 1, 5, .inl (fun _ => 0))), (q29, .inl (G.2.1 1, 5, .inl (fun _ => 0))), (q30, .inr (4, [.int 0, .int 0, .int 0, .ref q31])), (q31, .inl (G.2.1 1, 9, .inl (fun _ => 0))), (q32, .inr (0, [.int 0, .int 0])), (q33, .inr (1, [.long 0, .int 0, .int 0, .int 0, .int 0, .ref q34, .ref q35])), (q34, .inl (G.2.1 2, 16, .inr (.inl (fun _ => 0)))), (q35, .inl (G.2.1 2, 3, .inr (.inl (fun _ => 0))))]) [0, 10, 1, 2, 3, 4, 5, 6, 7, 8, 11, 12, 13, 14, 15, 16, 17, 18, 9, 19, 20, 21, 22, 23, 24, 25, 26, 27, 28, 29, 30, 31, 32, 33, 34, 35, 36] (by decide) rfl rfl ?_
  exact ka_vret hA hr ⟨[h, q9, q0, q1, q2, q3, q4, q5, q6, q7, q10, q11, q12, q13, q14, q15, q16, q17, q8, q18, q19, q20, q21, q22, q23, q24, q25, q26, q27, q28, q29, q30, q31, q32, q33, q34, q35], rfl, rfl⟩ dX10_init_92
theorem dX12_init_0 : decode cX12_init 0 = .ok (.aload_n 0, 1) := by decide +kernel
theorem dX12_init_1 : decode cX12_init 1 = .ok (.invokespecial 3, 3) := by decide +kernel
theorem dX12_init_4 : decode cX12_init 4 = .ok (.aload_n 0, 1) := by decide +kernel
theorem dX12_init_5 : decode cX12_init 5 = .ok (.iconst (-1), 1) := by decide +kernel
theorem dX12_init_6 : decode cX12_init 6 = .ok (.putfield 9, 3) := by decide +kernel
theorem dX12_init_9 : decode cX12_init 9 = .ok (.aload_n 0, 1) := by decide +kernel
theorem dX12_init_10 : decode cX12_init 10 = .ok (.sipush 900, 3) := by decide +kernel
theorem dX12_init_13 : decode cX12_init 13 = .ok (.newarray .byte, 2) := by decide +kernel
theorem dX12_init_15 : decode cX12_init 15 = .ok (.putfield 13, 3) := by decide +kernel
theorem dX12_init_18 : decode cX12_init 18 = .ok (.aload_n 0, 1) := by decide +kernel
theorem dX12_init_19 : decode cX12_init 19 = .ok (.bipush 6, 2) := by decide +kernel
theorem dX12_init_21 : decode cX12_init 21 = .ok (.newarray .int, 2) := by decide +kernel
theorem dX12_init_23 : decode cX12_init 23 = .ok (.putfield 17, 3) := by decide +kernel
theorem dX12_init_26 : decode cX12_init 26 = .ok (.aload_n 0, 1) := by decide +kernel
theorem dX12_init_27 : decode cX12_init 27 = .ok (.bipush 6, 2) := by decide +kernel
theorem dX12_init_29 : decode cX12_init 29 = .ok (.newarray .int, 2) := by decide +kernel
theorem dX12_init_31 : decode cX12_init 31 = .ok (.putfield 21, 3) := by decide +kernel
theorem dX12_init_34 : decode cX12_init 34 = .ok (.aload_n 0, 1) := by decide +kernel
theorem dX12_init_35 : decode cX12_init 35 = .ok (.bipush 96, 2) := by decide +kernel
theorem dX12_init_37 : decode cX12_init 37 = .ok (.newarray .int, 2) := by decide +kernel
theorem dX12_init_39 : decode cX12_init 39 = .ok (.putfield 24, 3) := by decide +kernel
theorem dX12_init_42 : decode cX12_init 42 = .ok (.aload_n 0, 1) := by decide +kernel
theorem dX12_init_43 : decode cX12_init 43 = .ok (.bipush 18, 2) := by decide +kernel
theorem dX12_init_45 : decode cX12_init 45 = .ok (.newarray .int, 2) := by decide +kernel
theorem dX12_init_47 : decode cX12_init 47 = .ok (.putfield 27, 3) := by decide +kernel
theorem dX12_init_50 : decode cX12_init 50 = .ok (.aload_n 0, 1) := by decide +kernel
theorem dX12_init_51 : decode cX12_init 51 = .ok (.bipush 9, 2) := by decide +kernel
theorem dX12_init_53 : decode cX12_init 53 = .ok (.newarray .int, 2) := by decide +kernel
theorem dX12_init_55 : decode cX12_init 55 = .ok (.putfield 30, 3) := by decide +kernel
theorem dX12_init_58 : decode cX12_init 58 = .ok (.aload_n 0, 1) := by decide +kernel
theorem dX12_init_59 : decode cX12_init 59 = .ok (.bipush 8, 2) := by decide +kernel
theorem dX12_init_61 : decode cX12_init 61 = .ok (.newarray .int, 2) := by decide +kernel
theorem dX12_init_63 : decode cX12_init 63 = .ok (.putfield 33, 3) := by decide +kernel
theorem dX12_init_66 : decode cX12_init 66 = .ok (.aload_n 0, 1) := by decide +kernel
theorem dX12_init_67 : decode cX12_init 67 = .ok (.sipush 130, 3) := by decide +kernel
theorem dX12_init_70 : decode cX12_init 70 = .ok (.newarray .int, 2) := by decide +kernel
theorem dX12_init_72 : decode cX12_init 72 = .ok (.putfield 36, 3) := by decide +kernel
theorem dX12_init_75 : decode cX12_init 75 = .ok (.aload_n 0, 1) := by decide +kernel
theorem dX12_init_76 : decode cX12_init 76 = .ok (.iconst 5, 1) := by decide +kernel
theorem dX12_init_77 : decode cX12_init 77 = .ok (.newarray .int, 2) := by decide +kernel
theorem dX12_init_79 : decode cX12_init 79 = .ok (.putfield 39, 3) := by decide +kernel
theorem dX12_init_82 : decode cX12_init 82 = .ok (.aload_n 0, 1) := by decide +kernel
theorem dX12_init_83 : decode cX12_init 83 = .ok (.iconst 5, 1) := by decide +kernel
theorem dX12_init_84 : decode cX12_init 84 = .ok (.newarray .int, 2) := by decide +kernel
theorem dX12_init_86 : decode cX12_init 86 = .ok (.putfield 42, 3) := by decide +kernel
theorem dX12_init_89 : decode cX12_init 89 = .ok (.aload_n 0, 1) := by decide +kernel
theorem dX12_init_90 : decode cX12_init 90 = .ok (.iconst 5, 1) := by decide +kernel
theorem dX12_init_91 : decode cX12_init 91 = .ok (.newarray .int, 2) := by decide +kernel
theorem dX12_init_93 : decode cX12_init 93 = .ok (.putfield 45, 3) := by decide +kernel
theorem dX12_init_96 : decode cX12_init 96 = .ok (.aload_n 0, 1) := by decide +kernel
theorem dX12_init_97 : decode cX12_init 97 = .ok (.iconst 5, 1) := by decide +kernel
theorem dX12_init_98 : decode cX12_init 98 = .ok (.newarray .int, 2) := by decide +kernel
theorem dX12_init_100 : decode cX12_init 100 = .ok (.putfield 48, 3) := by decide +kernel
theorem dX12_init_103 : decode cX12_init 103 = .ok (.aload_n 0, 1) := by decide +kernel
theorem dX12_init_104 : decode cX12_init 104 = .ok (.iconst 5, 1) := by decide +kernel
theorem dX12_init_105 : decode cX12_init 105 = .ok (.newarray .int, 2) := by decide +kernel
theorem dX12_init_107 : decode cX12_init 107 = .ok (.putfield 51, 3) := by decide +kernel
theorem dX12_init_110 : decode cX12_init 110 = .ok (.aload_n 0, 1) := by decide +kernel
theorem dX12_init_111 : decode cX12_init 111 = .ok (.iconst 5, 1) := by decide +kernel
theorem dX12_init_112 : decode cX12_init 112 = .ok (.newarray .int, 2) := by decide +kernel
theorem dX12_init_114 : decode cX12_init 114 = .ok (.putfield 54, 3) := by decide +kernel
theorem dX12_init_117 : decode cX12_init 117 = .ok (.aload_n 0, 1) := by decide +kernel
theorem dX12_init_118 : decode cX12_init 118 = .ok (.iconst 5, 1) := by decide +kernel
theorem dX12_init_119 : decode cX12_init 119 = .ok (.newarray .int, 2) := by decide +kernel
theorem dX12_init_121 : decode cX12_init 121 = .ok (.putfield 57, 3) := by decide +kernel
theorem dX12_init_124 : decode cX12_init 124 = .ok (.aload_n 0, 1) := by decide +kernel
theorem dX12_init_125 : decode cX12_init 125 = .ok (.bipush 63, 2) := by decide +kernel
theorem dX12_init_127 : decode cX12_init 127 = .ok (.newarray .int, 2) := by decide +kernel
theorem dX12_init_129 : decode cX12_init 129 = .ok (.putfield 60, 3) := by decide +kernel
theorem dX12_init_132 : decode cX12_init 132 = .ok (.aload_n 0, 1) := by decide +kernel
theorem dX12_init_133 : decode cX12_init 133 = .ok (.bipush 8, 2) := by decide +kernel
theorem dX12_init_135 : decode cX12_init 135 = .ok (.newarray .int, 2) := by decide +kernel
theorem dX12_init_137 : decode cX12_init 137 = .ok (.putfield 63, 3) := by decide +kernel
theorem dX12_init_140 : decode cX12_init 140 = .ok (.return_, 1) := by decide +kernel
theorem wo_1247 : Cond.methodLink "TaleSharesModel" 3 objectInit ∈ k_TB := k_tb 1247 (by decide +kernel) rfl
def rm_X12_init : Room := { frames := 1, cells := 17, slots := 1279, locals := 52 }
theorem i_X12_init (l : Launch) (G : k_G) (h : Nat) : k_MV l G yX12_init cX12_init 1 rm_X12_init [(h, .inr (10, [.int 0, .int 0, .int 0, .null, .null, .null, .int 0, .int 0, .int 0, .int 0, .int 0, .int 0, .int 0, .int 0, .long 0, .null, .null, .null, .null, .int 0, .int 0, .null, .int 0, .int 0, .int 0, .int 0, .null, .null, .null, .null, .null, .int 0, .int 0, .null, .null, .null, .null, .int 0, .null, .null, .int 0, .int 0, .int 0]))] [.ref h] (fun u => ∃ l : List Nat, l.getD 0 0 = h ∧ u = k_WN G.2.1 (lsa l) .null tzM) 17 1279 := by
  refine k_startMV (lv := [(0, .ref h)]) (by decide +kernel) (Nat.le_of_ble_eq_true rfl) rfl ?_
  intro p e s m args below meth c hA hin hr
  have hA : k_Amb p s m args meth c cX12_init 1 "TaleSharesModel" G _ := hA
  have hin : meth.name = "<init>" := hin
  refine ka_aload_n (i := 0) hA dX12_init_0 rfl 0 rfl ?_
  refine ka_objInit hA wo_1247 wo_I wo_C (Nat.le_of_ble_eq_true rfl) (Nat.le_of_ble_eq_true rfl) dX12_init_1 ?_
  refine ka_aload_n (i := 0) hA dX12_init_4 rfl 0 rfl ?_
  refine ka_iconst hA dX12_init_5 kc_i_m1 ?_
  refine ka_put (q0 := 0) (fs := [.int 0, .int 0, .int 0, .null, .null, .null, .int 0, .int 0, .int 0, .int 0, .int 0, .int 0, .int 0, .int 0, .long 0, .null, .null, .null, .null, .int 0, .int 0, .null, .int 0, .int 0, .int 0, .int 0, .null, .null, .null, .null, .null, .int 0, .int 0, .null, .null, .null, .null, .int 0, .null, .null, .int 0, .int 0, .int 0]) (w' := [(h, .inr (10, [.int 0, .int 0, .int (-1), .null, .null, .null, .int 0, .int 0, .int 0, .int 0, .int 0, .int 0, .int 0, .int 0, .long 0, .null, .null, .null, .null, .int 0, .int 0, .null, .int 0, .int 0, .int 0, .int 0, .null, .null, .null, .null, .null, .int 0, .int 0, .null, .null, .null, .null, .int 0, .null, .null, .int 0, .int 0, .int 0]))]) hA k_in_X12 tyX12 tyX12_ok nmX12 rfl rfl 2 (by decide) wd_1250 rfl (v := .int (-1)) rfl rfl (Nat.le_of_ble_eq_true rfl) rfl dX12_init_6 ?_
  refine ka_aload_n (i := 0) hA dX12_init_9 rfl 0 rfl ?_
  refine ka_sipush hA dX12_init_10 kc_s_900 ?_
  refine ka_newB (N := 900) hA wd_297 (by decide) (by decide) (Nat.le_of_ble_eq_true rfl) (Nat.le_of_ble_eq_true rfl) (Nat.le_of_ble_eq_true rfl) dX12_init_13 (fun q0 => ?_)
  refine ka_putF (q0 := 0) (fs := [.int 0, .int 0, .int (-1), .null, .null, .null, .int 0, .int 0, .int 0, .int 0, .int 0, .int 0, .int 0, .int 0, .long 0, .null, .null, .null, .null, .int 0, .int 0, .null, .int 0, .int 0, .int 0, .int 0, .null, .null, .null, .null, .null, .int 0, .int 0, .null, .null, .null, .null, .int 0, .null, .null, .int 0, .int 0, .int 0]) (w' := [(h, .inr (10, [.int 0, .int 0, .int (-1), .null, .null, .ref q0, .int 0, .int 0, .int 0, .int 0, .int 0, .int 0, .int 0, .int 0, .long 0, .null, .null, .null, .null, .int 0, .int 0, .null, .int 0, .int 0, .int 0, .int 0, .null, .null, .null, .null, .null, .int 0, .int 0, .null, .null, .null, .null, .int 0, .null, .null, .int 0, .int 0, .int 0])), (q0, .inl (G.2.1 0, 900, .inl (fun _ => 0)))]) hA k_in_X12 tyX12 tyX12_ok nmX12 rfl rfl 5 (by decide) wd_1253 rfl hin rfl (v := .ref q0) rfl rfl (Nat.le_of_ble_eq_true rfl) rfl dX12_init_15 ?_
  refine ka_aload_n (i := 0) hA dX12_init_18 rfl 0 rfl ?_
  refine ka_bipush hA dX12_init_19 kc_b_6 ?_
  refine ka_newI (N := 6) hA wd_245 (by decide) (by decide) (Nat.le_of_ble_eq_true rfl) (Nat.le_of_ble_eq_true rfl) (Nat.le_of_ble_eq_true rfl) dX12_init_21 (fun q1 => ?_)
  refine ka_putF (q0 := 0) (fs := [.int 0, .int 0, .int (-1), .null, .null, .ref q0, .int 0, .int 0, .int 0, .int 0, .int 0, .int 0, .int 0, .int 0, .long 0, .null, .null, .null, .null, .int 0, .int 0, .null, .int 0, .int 0, .int 0, .int 0, .null, .null, .null, .null, .null, .int 0, .int 0, .null, .null, .null, .null, .int 0, .null, .null, .int 0, .int 0, .int 0]) (w' := [(h, .inr (10, [.int 0, .int 0, .int (-1), .null, .null, .ref q0, .int 0, .int 0, .int 0, .int 0, .int 0, .int 0, .int 0, .int 0, .long 0, .ref q1, .null, .null, .null, .int 0, .int 0, .null, .int 0, .int 0, .int 0, .int 0, .null, .null, .null, .null, .null, .int 0, .int 0, .null, .null, .null, .null, .int 0, .null, .null, .int 0, .int 0, .int 0])), (q0, .inl (G.2.1 0, 900, .inl (fun _ => 0))), (q1, .inl (G.2.1 1, 6, .inl (fun _ => 0)))]) hA k_in_X12 tyX12 tyX12_ok nmX12 rfl rfl 15 (by decide) wd_1263 rfl hin rfl (v := .ref q1) rfl rfl (Nat.le_of_ble_eq_true rfl) rfl dX12_init_23 ?_
  refine ka_aload_n (i := 0) hA dX12_init_26 rfl 0 rfl ?_
  refine ka_bipush hA dX12_init_27 kc_b_6 ?_
  refine ka_newI (N := 6) hA wd_245 (by decide) (by decide) (Nat.le_of_ble_eq_true rfl) (Nat.le_of_ble_eq_true rfl) (Nat.le_of_ble_eq_true rfl) dX12_init_29 (fun q2 => ?_)
  refine ka_putF (q0 := 0) (fs := [.int 0, .int 0, .int (-1), .null, .null, .ref q0, .int 0, .int 0, .int 0, .int 0, .int 0, .int 0, .int 0, .int 0, .long 0, .ref q1, .null, .null, .null, .int 0, .int 0, .null, .int 0, .int 0, .int 0, .int 0, .null, .null, .null, .null, .null, .int 0, .int 0, .null, .null, .null, .null, .int 0, .null, .null, .int 0, .int 0, .int 0]) (w' := [(h, .inr (10, [.int 0, .int 0, .int (-1), .null, .null, .ref q0, .int 0, .int 0, .int 0, .int 0, .int 0, .int 0, .int 0, .int 0, .long 0, .ref q1, .ref q2, .null, .null, .int 0, .int 0, .null, .int 0, .int 0, .int 0, .int 0, .null, .null, .null, .null, .null, .int 0, .int 0, .null, .null, .null, .null, .int 0, .null, .null, .int 0, .int 0, .int 0])), (q0, .inl (G.2.1 0, 900, .inl (fun _ => 0))), (q1, .inl (G.2.1 1, 6, .inl (fun _ => 0))), (q2, .inl (G.2.1 1, 6, .inl (fun _ => 0)))]) hA k_in_X12 tyX12 tyX12_ok nmX12 rfl rfl 16 (by decide) wd_1264 rfl hin rfl (v := .ref q2) rfl rfl (Nat.le_of_ble_eq_true rfl) rfl dX12_init_31 ?_
  refine ka_aload_n (i := 0) hA dX12_init_34 rfl 0 rfl ?_
  refine ka_bipush hA dX12_init_35 kc_b_96 ?_
  refine ka_newI (N := 96) hA wd_245 (by decide) (by decide) (Nat.le_of_ble_eq_true rfl) (Nat.le_of_ble_eq_true rfl) (Nat.le_of_ble_eq_true rfl) dX12_init_37 (fun q3 => ?_)
  refine ka_putF (q0 := 0) (fs := [.int 0, .int 0, .int (-1), .null, .null, .ref q0, .int 0, .int 0, .int 0, .int 0, .int 0, .int 0, .int 0, .int 0, .long 0, .ref q1, .ref q2, .null, .null, .int 0, .int 0, .null, .int 0, .int 0, .int 0, .int 0, .null, .null, .null, .null, .null, .int 0, .int 0, .null, .null, .null, .null, .int 0, .null, .null, .int 0, .int 0, .int 0]) (w' := [(h, .inr (10, [.int 0, .int 0, .int (-1), .null, .null, .ref q0, .int 0, .int 0, .int 0, .int 0, .int 0, .int 0, .int 0, .int 0, .long 0, .ref q1, .ref q2, .ref q3, .null, .int 0, .int 0, .null, .int 0, .int 0, .int 0, .int 0, .null, .null, .null, .null, .null, .int 0, .int 0, .null, .null, .null, .null, .int 0, .null, .null, .int 0, .int 0, .int 0])), (q0, .inl (G.2.1 0, 900, .inl (fun _ => 0))), (q1, .inl (G.2.1 1, 6, .inl (fun _ => 0))), (q2, .inl (G.2.1 1, 6, .inl (fun _ => 0))), (q3, .inl (G.2.1 1, 96, .inl (fun _ => 0)))]) hA k_in_X12 tyX12 tyX12_ok nmX12 rfl rfl 17 (by decide) wd_1265 rfl hin rfl (v := .ref q3) rfl rfl (Nat.le_of_ble_eq_true rfl) rfl dX12_init_39 ?_
  refine ka_aload_n (i := 0) hA dX12_init_42 rfl 0 rfl ?_
  refine ka_bipush hA dX12_init_43 kc_b_18 ?_
  refine ka_newI (N := 18) hA wd_245 (by decide) (by decide) (Nat.le_of_ble_eq_true rfl) (Nat.le_of_ble_eq_true rfl) (Nat.le_of_ble_eq_true rfl) dX12_init_45 (fun q4 => ?_)
  refine ka_putF (q0 := 0) (fs := [.int 0, .int 0, .int (-1), .null, .null, .ref q0, .int 0, .int 0, .int 0, .int 0, .int 0, .int 0, .int 0, .int 0, .long 0, .ref q1, .ref q2, .ref q3, .null, .int 0, .int 0, .null, .int 0, .int 0, .int 0, .int 0, .null, .null, .null, .null, .null, .int 0, .int 0, .null, .null, .null, .null, .int 0, .null, .null, .int 0, .int 0, .int 0]) (w' := [(h, .inr (10, [.int 0, .int 0, .int (-1), .null, .null, .ref q0, .int 0, .int 0, .int 0, .int 0, .int 0, .int 0, .int 0, .int 0, .long 0, .ref q1, .ref q2, .ref q3, .ref q4, .int 0, .int 0, .null, .int 0, .int 0, .int 0, .int 0, .null, .null, .null, .null, .null, .int 0, .int 0, .null, .null, .null, .null, .int 0, .null, .null, .int 0, .int 0, .int 0])), (q0, .inl (G.2.1 0, 900, .inl (fun _ => 0))), (q1, .inl (G.2.1 1, 6, .inl (fun _ => 0))), (q2, .inl (G.2.1 1, 6, .inl (fun _ => 0))), (q3, .inl (G.2.1 1, 96, .inl (fun _ => 0))), (q4, .inl (G.2.1 1, 18, .inl (fun _ => 0)))]) hA k_in_X12 tyX12 tyX12_ok nmX12 rfl rfl 18 (by decide) wd_1266 rfl hin rfl (v := .ref q4) rfl rfl (Nat.le_of_ble_eq_true rfl) rfl dX12_init_47 ?_
  refine ka_aload_n (i := 0) hA dX12_init_50 rfl 0 rfl ?_
  refine ka_bipush hA dX12_init_51 kc_b_9 ?_
  refine ka_newI (N := 9) hA wd_245 (by decide) (by decide) (Nat.le_of_ble_eq_true rfl) (Nat.le_of_ble_eq_true rfl) (Nat.le_of_ble_eq_true rfl) dX12_init_53 (fun q5 => ?_)
  refine ka_putF (q0 := 0) (fs := [.int 0, .int 0, .int (-1), .null, .null, .ref q0, .int 0, .int 0, .int 0, .int 0, .int 0, .int 0, .int 0, .int 0, .long 0, .ref q1, .ref q2, .ref q3, .ref q4, .int 0, .int 0, .null, .int 0, .int 0, .int 0, .int 0, .null, .null, .null, .null, .null, .int 0, .int 0, .null, .null, .null, .null, .int 0, .null, .null, .int 0, .int 0, .int 0]) (w' := [(h, .inr (10, [.int 0, .int 0, .int (-1), .null, .null, .ref q0, .int 0, .int 0, .int 0, .int 0, .int 0, .int 0, .int 0, .int 0, .long 0, .ref q1, .ref q2, .ref q3, .ref q4, .int 0, .int 0, .ref q5, .int 0, .int 0, .int 0, .int 0, .null, .null, .null, .null, .null, .int 0, .int 0, .null, .null, .null, .null, .int 0, .null, .null, .int 0, .int 0, .int 0])), (q0, .inl (G.2.1 0, 900, .inl (fun _ => 0))), (q1, .inl (G.2.1 1, 6, .inl (fun _ => 0))), (q2, .inl (G.2.1 1, 6, .inl (fun _ => 0))), (q3, .inl (G.2.1 1, 96, .inl (fun _ => 0))), (q4, .inl (G.2.1 1, 18, .inl (fun _ => 0))), (q5, .inl (G.2.1 1, 9, .inl (fun _ => 0)))]) hA k_in_X12 tyX12 tyX12_ok nmX12 rfl rfl 21 (by decide) wd_1269 rfl hin rfl (v := .ref q5) rfl rfl (Nat.le_of_ble_eq_true rfl) rfl dX12_init_55 ?_
  refine ka_aload_n (i := 0) hA dX12_init_58 rfl 0 rfl ?_
  refine ka_bipush hA dX12_init_59 kc_b_8 ?_
  refine ka_newI (N := 8) hA wd_245 (by decide) (by decide) (Nat.le_of_ble_eq_true rfl) (Nat.le_of_ble_eq_true rfl) (Nat.le_of_ble_eq_true rfl) dX12_init_61 (fun q6 => ?_)
  refine ka_putF (q0 := 0) (fs := [.int 0, .int 0, .int (-1), .null, .null, .ref q0, .int 0, .int 0, .int 0, .int 0, .int 0, .int 0, .int 0, .int 0, .long 0, .ref q1, .ref q2, .ref q3, .ref q4, .int 0, .int 0, .ref q5, .int 0, .int 0, .int 0, .int 0, .null, .null, .null, .null, .null, .int 0, .int 0, .null, .null, .null, .null, .int 0, .null, .null, .int 0, .int 0, .int 0]) (w' := [(h, .inr (10, [.int 0, .int 0, .int (-1), .null, .null, .ref q0, .int 0, .int 0, .int 0, .int 0, .int 0, .int 0, .int 0, .int 0, .long 0, .ref q1, .ref q2, .ref q3, .ref q4, .int 0, .int 0, .ref q5, .int 0, .int 0, .int 0, .int 0, .ref q6, .null, .null, .null, .null, .int 0, .int 0, .null, .null, .null, .null, .int 0, .null, .null, .int 0, .int 0, .int 0])), (q0, .inl (G.2.1 0, 900, .inl (fun _ => 0))), (q1, .inl (G.2.1 1, 6, .inl (fun _ => 0))), (q2, .inl (G.2.1 1, 6, .inl (fun _ => 0))), (q3, .inl (G.2.1 1, 96, .inl (fun _ => 0))), (q4, .inl (G.2.1 1, 18, .inl (fun _ => 0))), (q5, .inl (G.2.1 1, 9, .inl (fun _ => 0))), (q6, .inl (G.2.1 1, 8, .inl (fun _ => 0)))]) hA k_in_X12 tyX12 tyX12_ok nmX12 rfl rfl 26 (by decide) wd_1274 rfl hin rfl (v := .ref q6) rfl rfl (Nat.le_of_ble_eq_true rfl) rfl dX12_init_63 ?_
  refine ka_aload_n (i := 0) hA dX12_init_66 rfl 0 rfl ?_
  refine ka_sipush hA dX12_init_67 kc_s_130 ?_
  refine ka_newI (N := 130) hA wd_245 (by decide) (by decide) (Nat.le_of_ble_eq_true rfl) (Nat.le_of_ble_eq_true rfl) (Nat.le_of_ble_eq_true rfl) dX12_init_70 (fun q7 => ?_)
  refine ka_putF (q0 := 0) (fs := [.int 0, .int 0, .int (-1), .null, .null, .ref q0, .int 0, .int 0, .int 0, .int 0, .int 0, .int 0, .int 0, .int 0, .long 0, .ref q1, .ref q2, .ref q3, .ref q4, .int 0, .int 0, .ref q5, .int 0, .int 0, .int 0, .int 0, .ref q6, .null, .null, .null, .null, .int 0, .int 0, .null, .null, .null, .null, .int 0, .null, .null, .int 0, .int 0, .int 0]) (w' := [(h, .inr (10, [.int 0, .int 0, .int (-1), .null, .null, .ref q0, .int 0, .int 0, .int 0, .int 0, .int 0, .int 0, .int 0, .int 0, .long 0, .ref q1, .ref q2, .ref q3, .ref q4, .int 0, .int 0, .ref q5, .int 0, .int 0, .int 0, .int 0, .ref q6, .ref q7, .null, .null, .null, .int 0, .int 0, .null, .null, .null, .null, .int 0, .null, .null, .int 0, .int 0, .int 0])), (q0, .inl (G.2.1 0, 900, .inl (fun _ => 0))), (q1, .inl (G.2.1 1, 6, .inl (fun _ => 0))), (q2, .inl (G.2.1 1, 6, .inl (fun _ => 0))), (q3, .inl (G.2.1 1, 96, .inl (fun _ => 0))), (q4, .inl (G.2.1 1, 18, .inl (fun _ => 0))), (q5, .inl (G.2.1 1, 9, .inl (fun _ => 0))), (q6, .inl (G.2.1 1, 8, .inl (fun _ => 0))), (q7, .inl (G.2.1 1, 130, .inl (fun _ => 0)))]) hA k_in_X12 tyX12 tyX12_ok nmX12 rfl rfl 27 (by decide) wd_1275 rfl hin rfl (v := .ref q7) rfl rfl (Nat.le_of_ble_eq_true rfl) rfl dX12_init_72 ?_
  refine ka_aload_n (i := 0) hA dX12_init_75 rfl 0 rfl ?_
  refine ka_iconst hA dX12_init_76 kc_i_5 ?_
  refine ka_newI (N := 5) hA wd_245 (by decide) (by decide) (Nat.le_of_ble_eq_true rfl) (Nat.le_of_ble_eq_true rfl) (Nat.le_of_ble_eq_true rfl) dX12_init_77 (fun q8 => ?_)
  refine ka_putF (q0 := 0) (fs := [.int 0, .int 0, .int (-1), .null, .null, .ref q0, .int 0, .int 0, .int 0, .int 0, .int 0, .int 0, .int 0, .int 0, .long 0, .ref q1, .ref q2, .ref q3, .ref q4, .int 0, .int 0, .ref q5, .int 0, .int 0, .int 0, .int 0, .ref q6, .ref q7, .null, .null, .null, .int 0, .int 0, .null, .null, .null, .null, .int 0, .null, .null, .int 0, .int 0, .int 0]) (w' := [(h, .inr (10, [.int 0, .int 0, .int (-1), .null, .null, .ref q0, .int 0, .int 0, .int 0, .int 0, .int 0, .int 0, .int 0, .int 0, .long 0, .ref q1, .ref q2, .ref q3, .ref q4, .int 0, .int 0, .ref q5, .int 0, .int 0, .int 0, .int 0, .ref q6, .ref q7, .ref q8, .null, .null, .int 0, .int 0, .null, .null, .null, .null, .int 0, .null, .null, .int 0, .int 0, .int 0])), (q0, .inl (G.2.1 0, 900, .inl (fun _ => 0))), (q1, .inl (G.2.1 1, 6, .inl (fun _ => 0))), (q2, .inl (G.2.1 1, 6, .inl (fun _ => 0))), (q3, .inl (G.2.1 1, 96, .inl (fun _ => 0))), (q4, .inl (G.2.1 1, 18, .inl (fun _ => 0))), (q5, .inl (G.2.1 1, 9, .inl (fun _ => 0))), (q6, .inl (G.2.1 1, 8, .inl (fun _ => 0))), (q7, .inl (G.2.1 1, 130, .inl (fun _ => 0))), (q8, .inl (G.2.1 1, 5, .inl (fun _ => 0)))]) hA k_in_X12 tyX12 tyX12_ok nmX12 rfl rfl 28 (by decide) wd_1276 rfl hin rfl (v := .ref q8) rfl rfl (Nat.le_of_ble_eq_true rfl) rfl dX12_init_79 ?_
  refine ka_aload_n (i := 0) hA dX12_init_82 rfl 0 rfl ?_
  refine ka_iconst hA dX12_init_83 kc_i_5 ?_
  refine ka_newI (N := 5) hA wd_245 (by decide) (by decide) (Nat.le_of_ble_eq_true rfl) (Nat.le_of_ble_eq_true rfl) (Nat.le_of_ble_eq_true rfl) dX12_init_84 (fun q9 => ?_)
  refine ka_putF (q0 := 0) (fs := [.int 0, .int 0, .int (-1), .null, .null, .ref q0, .int 0, .int 0, .int 0, .int 0, .int 0, .int 0, .int 0, .int 0, .long 0, .ref q1, .ref q2, .ref q3, .ref q4, .int 0, .int 0, .ref q5, .int 0, .int 0, .int 0, .int 0, .ref q6, .ref q7, .ref q8, .null, .null, .int 0, .int 0, .null, .null, .null, .null, .int 0, .null, .null, .int 0, .int 0, .int 0]) (w' := [(h, .inr (10, [.int 0, .int 0, .int (-1), .null, .null, .ref q0, .int 0, .int 0, .int 0, .int 0, .int 0, .int 0, .int 0, .int 0, .long 0, .ref q1, .ref q2, .ref q3, .ref q4, .int 0, .int 0, .ref q5, .int 0, .int 0, .int 0, .int 0, .ref q6, .ref q7, .ref q8, .ref q9, .null, .int 0, .int 0, .null, .null, .null, .null, .int 0, .null, .null, .int 0, .int 0, .int 0])), (q0, .inl (G.2.1 0, 900, .inl (fun _ => 0))), (q1, .inl (G.2.1 1, 6, .inl (fun _ => 0))), (q2, .inl (G.2.1 1, 6, .inl (fun _ => 0))), (q3, .inl (G.2.1 1, 96, .inl (fun _ => 0))), (q4, .inl (G.2.1 1, 18, .inl (fun _ => 0))), (q5, .inl (G.2.1 1, 9, .inl (fun _ => 0))), (q6, .inl (G.2.1 1, 8, .inl (fun _ => 0))), (q7, .inl (G.2.1 1, 130, .inl (fun _ => 0))), (q8, .inl (G.2.1 1, 5, .inl (fun _ => 0))), (q9, .inl (G.2.1 1, 5, .inl (fun _ => 0)))]) hA k_in_X12 tyX12 tyX12_ok nmX12 rfl rfl 29 (by decide) wd_1277 rfl hin rfl (v := .ref q9) rfl rfl (Nat.le_of_ble_eq_true rfl) rfl dX12_init_86 ?_
  refine ka_aload_n (i := 0) hA dX12_init_89 rfl 0 rfl ?_
  refine ka_iconst hA dX12_init_90 kc_i_5 ?_
  refine ka_newI (N := 5) hA wd_245 (by decide) (by decide) (Nat.le_of_ble_eq_true rfl) (Nat.le_of_ble_eq_true rfl) (Nat.le_of_ble_eq_true rfl) dX12_init_91 (fun q10 => ?_)
  refine ka_putF (q0 := 0) (fs := [.int 0, .int 0, .int (-1), .null, .null, .ref q0, .int 0, .int 0, .int 0, .int 0, .int 0, .int 0, .int 0, .int 0, .long 0, .ref q1, .ref q2, .ref q3, .ref q4, .int 0, .int 0, .ref q5, .int 0, .int 0, .int 0, .int 0, .ref q6, .ref q7, .ref q8, .ref q9, .null, .int 0, .int 0, .null, .null, .null, .null, .int 0, .null, .null, .int 0, .int 0, .int 0]) (w' := [(h, .inr (10, [.int 0, .int 0, .int (-1), .null, .null, .ref q0, .int 0, .int 0, .int 0, .int 0, .int 0, .int 0, .int 0, .int 0, .long 0, .ref q1, .ref q2, .ref q3, .ref q4, .int 0, .int 0, .ref q5, .int 0, .int 0, .int 0, .int 0, .ref q6, .ref q7, .ref q8, .ref q9, .ref q10, .int 0, .int 0, .null, .null, .null, .null, .int 0, .null, .null, .int 0, .int 0, .int 0])), (q0, .inl (G.2.1 0, 900, .inl (fun _ => 0))), (q1, .inl (G.2.1 1, 6, .inl (fun _ => 0))), (q2, .inl (G.2.1 1, 6, .inl (fun _ => 0))), (q3, .inl (G.2.1 1, 96, .inl (fun _ => 0))), (q4, .inl (G.2.1 1, 18, .inl (fun _ => 0))), (q5, .inl (G.2.1 1, 9, .inl (fun _ => 0))), (q6, .inl (G.2.1 1, 8, .inl (fun _ => 0))), (q7, .inl (G.2.1 1, 130, .inl (fun _ => 0))), (q8, .inl (G.2.1 1, 5, .inl (fun _ => 0))), (q9, .inl (G.2.1 1, 5, .inl (fun _ => 0))), (q10, .inl (G.2.1 1, 5, .inl (fun _ => 0)))]) hA k_in_X12 tyX12 tyX12_ok nmX12 rfl rfl 30 (by decide) wd_1278 rfl hin rfl (v := .ref q10) rfl rfl (Nat.le_of_ble_eq_true rfl) rfl dX12_init_93 ?_
  refine ka_aload_n (i := 0) hA dX12_init_96 rfl 0 rfl ?_
  refine ka_iconst hA dX12_init_97 kc_i_5 ?_
  refine ka_newI (N := 5) hA wd_245 (by decide) (by decide) (Nat.le_of_ble_eq_true rfl) (Nat.le_of_ble_eq_true rfl) (Nat.le_of_ble_eq_true rfl) dX12_init_98 (fun q11 => ?_)
  refine ka_putF (q0 := 0) (fs := [.int 0, .int 0, .int (-1), .null, .null, .ref q0, .int 0, .int 0, .int 0, .int 0, .int 0, .int 0, .int 0, .int 0, .long 0, .ref q1, .ref q2, .ref q3, .ref q4, .int 0, .int 0, .ref q5, .int 0, .int 0, .int 0, .int 0, .ref q6, .ref q7, .ref q8, .ref q9, .ref q10, .int 0, .int 0, .null, .null, .null, .null, .int 0, .null, .null, .int 0, .int 0, .int 0]) (w' := [(h, .inr (10, [.int 0, .int 0, .int (-1), .null, .null, .ref q0, .int 0, .int 0, .int 0, .int 0, .int 0, .int 0, .int 0, .int 0, .long 0, .ref q1, .ref q2, .ref q3, .ref q4, .int 0, .int 0, .ref q5, .int 0, .int 0, .int 0, .int 0, .ref q6, .ref q7, .ref q8, .ref q9, .ref q10, .int 0, .int 0, .ref q11, .null, .null, .null, .int 0, .null, .null, .int 0, .int 0, .int 0])), (q0, .inl (G.2.1 0, 900, .inl (fun _ => 0))), (q1, .inl (G.2.1 1, 6, .inl (fun _ => 0))), (q2, .inl (G.2.1 1, 6, .inl (fun _ => 0))), (q3, .inl (G.2.1 1, 96, .inl (fun _ => 0))), (q4, .inl (G.2.1 1, 18, .inl (fun _ => 0))), (q5, .inl (G.2.1 1, 9, .inl (fun _ => 0))), (q6, .inl (G.2.1 1, 8, .inl (fun _ => 0))), (q7, .inl (G.2.1 1, 130, .inl (fun _ => 0))), (q8, .inl (G.2.1 1, 5, .inl (fun _ => 0))), (q9, .inl (G.2.1 1, 5, .inl (fun _ => 0))), (q10, .inl (G.2.1 1, 5, .inl (fun _ => 0))), (q11, .inl (G.2.1 1, 5, .inl (fun _ => 0)))]) hA k_in_X12 tyX12 tyX12_ok nmX12 rfl rfl 33 (by decide) wd_1281 rfl hin rfl (v := .ref q11) rfl rfl (Nat.le_of_ble_eq_true rfl) rfl dX12_init_100 ?_
  refine ka_aload_n (i := 0) hA dX12_init_103 rfl 0 rfl ?_
  refine ka_iconst hA dX12_init_104 kc_i_5 ?_
  refine ka_newI (N := 5) hA wd_245 (by decide) (by decide) (Nat.le_of_ble_eq_true rfl) (Nat.le_of_ble_eq_true rfl) (Nat.le_of_ble_eq_true rfl) dX12_init_105 (fun q12 => ?_)
  refine ka_putF (q0 := 0) (fs := [.int 0, .int 0, .int (-1), .null, .null, .ref q0, .int 0, .int 0, .int 0, .int 0, .int 0, .int 0, .int 0, .int 0, .long 0, .ref q1, .ref q2, .ref q3, .ref q4, .int 0, .int 0, .ref q5, .int 0, .int 0, .int 0, .int 0, .ref q6, .ref q7, .ref q8, .ref q9, .ref q10, .int 0, .int 0, .ref q11, .null, .null, .null, .int 0, .null, .null, .int 0, .int 0, .int 0]) (w' := [(h, .inr (10, [.int 0, .int 0, .int (-1), .null, .null, .ref q0, .int 0, .int 0, .int 0, .int 0, .int 0, .int 0, .int 0, .int 0, .long 0, .ref q1, .ref q2, .ref q3, .ref q4, .int 0, .int 0, .ref q5, .int 0, .int 0, .int 0, .int 0, .ref q6, .ref q7, .ref q8, .ref q9, .ref q10, .int 0, .int 0, .ref q11, .ref q12, .null, .null, .int 0, .null, .null, .int 0, .int 0, .int 0])), (q0, .inl (G.2.1 0, 900, .inl (fun _ => 0))), (q1, .inl (G.2.1 1, 6, .inl (fun _ => 0))), (q2, .inl (G.2.1 1, 6, .inl (fun _ => 0))), (q3, .inl (G.2.1 1, 96, .inl (fun _ => 0))), (q4, .inl (G.2.1 1, 18, .inl (fun _ => 0))), (q5, .inl (G.2.1 1, 9, .inl (fun _ => 0))), (q6, .inl (G.2.1 1, 8, .inl (fun _ => 0))), (q7, .inl (G.2.1 1, 130, .inl (fun _ => 0))), (q8, .inl (G.2.1 1, 5, .inl (fun _ => 0))), (q9, .inl (G.2.1 1, 5, .inl (fun _ => 0))), (q10, .inl (G.2.1 1, 5, .inl (fun _ => 0))), (q11, .inl (G.2.1 1, 5, .inl (fun _ => 0))), (q12, .inl (G.2.1 1, 5, .inl (fun _ => 0)))]) hA k_in_X12 tyX12 tyX12_ok nmX12 rfl rfl 34 (by decide) wd_1282 rfl hin rfl (v := .ref q12) rfl rfl (Nat.le_of_ble_eq_true rfl) rfl dX12_init_107 ?_
  refine ka_aload_n (i := 0) hA dX12_init_110 rfl 0 rfl ?_
  refine ka_iconst hA dX12_init_111 kc_i_5 ?_
  refine ka_newI (N := 5) hA wd_245 (by decide) (by decide) (Nat.le_of_ble_eq_true rfl) (Nat.le_of_ble_eq_true rfl) (Nat.le_of_ble_eq_true rfl) dX12_init_112 (fun q13 => ?_)
  refine ka_putF (q0 := 0) (fs := [.int 0, .int 0, .int (-1), .null, .null, .ref q0, .int 0, .int 0, .int 0, .int 0, .int 0, .int 0, .int 0, .int 0, .long 0, .ref q1, .ref q2, .ref q3, .ref q4, .int 0, .int 0, .ref q5, .int 0, .int 0, .int 0, .int 0, .ref q6, .ref q7, .ref q8, .ref q9, .ref q10, .int 0, .int 0, .ref q11, .ref q12, .null, .null, .int 0, .null, .null, .int 0, .int 0, .int 0]) (w' := [(h, .inr (10, [.int 0, .int 0, .int (-1), .null, .null, .ref q0, .int 0, .int 0, .int 0, .int 0, .int 0, .int 0, .int 0, .int 0, .long 0, .ref q1, .ref q2, .ref q3, .ref q4, .int 0, .int 0, .ref q5, .int 0, .int 0, .int 0, .int 0, .ref q6, .ref q7, .ref q8, .ref q9, .ref q10, .int 0, .int 0, .ref q11, .ref q12, .ref q13, .null, .int 0, .null, .null, .int 0, .int 0, .int 0])), (q0, .inl (G.2.1 0, 900, .inl (fun _ => 0))), (q1, .inl (G.2.1 1, 6, .inl (fun _ => 0))), (q2, .inl (G.2.1 1, 6, .inl (fun _ => 0))), (q3, .inl (G.2.1 1, 96, .inl (fun _ => 0))), (q4, .inl (G.2.1 1, 18, .inl (fun _ => 0))), (q5, .inl (G.2.1 1, 9, .inl (fun _ => 0))), (q6, .inl (G.2.1 1, 8, .inl (fun _ => 0))), (q7, .inl (G.2.1 1, 130, .inl (fun _ => 0))), (q8, .inl (G.2.1 1, 5, .inl (fun _ => 0))), (q9, .inl (G.2.1 1, 5, .inl (fun _ => 0))), (q10, .inl (G.2.1 1, 5, .inl (fun _ => 0))), (q11, .inl (G.2.1 1, 5, .inl (fun _ => 0))), (q12, .inl (G.2.1 1, 5, .inl (fun _ => 0))), (q13, .inl (G.2.1 1, 5, .inl (fun _ => 0)))]) hA k_in_X12 tyX12 tyX12_ok nmX12 rfl rfl 35 (by decide) wd_1283 rfl hin rfl (v := .ref q13) rfl rfl (Nat.le_of_ble_eq_true rfl) rfl dX12_init_114 ?_
  refine ka_aload_n (i := 0) hA dX12_init_117 rfl 0 rfl ?_
  refine ka_iconst hA dX12_init_118 kc_i_5 ?_
  refine ka_newI (N := 5) hA wd_245 (by decide) (by decide) (Nat.le_of_ble_eq_true rfl) (Nat.le_of_ble_eq_true rfl) (Nat.le_of_ble_eq_true rfl) dX12_init_119 (fun q14 => ?_)
  refine ka_putF (q0 := 0) (fs := [.int 0, .int 0, .int (-1), .null, .null, .ref q0, .int 0, .int 0, .int 0, .int 0, .int 0, .int 0, .int 0, .int 0, .long 0, .ref q1, .ref q2, .ref q3, .ref q4, .int 0, .int 0, .ref q5, .int 0, .int 0, .int 0, .int 0, .ref q6, .ref q7, .ref q8, .ref q9, .ref q10, .int 0, .int 0, .ref q11, .ref q12, .ref q13, .null, .int 0, .null, .null, .int 0, .int 0, .int 0]) (w' := [(h, .inr (10, [.int 0, .int 0, .int (-1), .null, .null, .ref q0, .int 0, .int 0, .int 0, .int 0, .int 0, .int 0, .int 0, .int 0, .long 0, .ref q1, .ref q2, .ref q3, .ref q4, .int 0, .int 0, .ref q5, .int 0, .int 0, .int 0, .int 0, .ref q6, .ref q7, .ref q8, .ref q9, .ref q10, .int 0, .int 0, .ref q11, .ref q12, .ref q13, .ref q14, .int 0, .null, .null, .int 0, .int 0, .int 0])), (q0, .inl (G.2.1 0, 900, .inl (fun _ => 0))), (q1, .inl (G.2.1 1, 6, .inl (fun _ => 0))), (q2, .inl (G.2.1 1, 6, .inl (fun _ => 0))), (q3, .inl (G.2.1 1, 96, .inl (fun _ => 0))), (q4, .inl (G.2.1 1, 18, .inl (fun _ => 0))), (q5, .inl (G.2.1 1, 9, .inl (fun _ => 0))), (q6, .inl (G.2.1 1, 8, .inl (fun _ => 0))), (q7, .inl (G.2.1 1, 130, .inl (fun _ => 0))), (q8, .inl (G.2.1 1, 5, .inl (fun _ => 0))), (q9, .inl (G.2.1 1, 5, .inl (fun _ => 0))), (q10, .inl (G.2.1 1, 5, .inl (fun _ => 0))), (q11, .inl (G.2.1 1, 5, .inl (fun _ => 0))), (q12, .inl (G.2.1 1, 5, .inl (fun _ => 0))), (q13, .inl (G.2.1 1, 5, .inl (fun _ => 0))), (q14, .inl (G.2.1 1, 5, .inl (fun _ => 0)))]) hA k_in_X12 tyX12 tyX12_ok nmX12 rfl rfl 36 (by decide) wd_1284 rfl hin rfl (v := .ref q14) rfl rfl (Nat.le_of_ble_eq_true rfl) rfl dX12_init_121 ?_
  refine ka_aload_n (i := 0) hA dX12_init_124 rfl 0 rfl ?_
  refine ka_bipush hA dX12_init_125 kc_b_63 ?_
  refine ka_newI (N := 63) hA wd_245 (by decide) (by decide) (Nat.le_of_ble_eq_true rfl) (Nat.le_of_ble_eq_true rfl) (Nat.le_of_ble_eq_true rfl) dX12_init_127 (fun q15 => ?_)
  refine ka_putF (q0 := 0) (fs := [.int 0, .int 0, .int (-1), .null, .null, .ref q0, .int 0, .int 0, .int 0, .int 0, .int 0, .int 0, .int 0, .int 0, .long 0, .ref q1, .ref q2, .ref q3, .ref q4, .int 0, .int 0, .ref q5, .int 0, .int 0, .int 0, .int 0, .ref q6, .ref q7, .ref q8, .ref q9, .ref q10, .int 0, .int 0, .ref q11, .ref q12, .ref q13, .ref q14, .int 0, .null, .null, .int 0, .int 0, .int 0]) (w' := [(h, .inr (10, [.int 0, .int 0, .int (-1), .null, .null, .ref q0, .int 0, .int 0, .int 0, .int 0, .int 0, .int 0, .int 0, .int 0, .long 0, .ref q1, .ref q2, .ref q3, .ref q4, .int 0, .int 0, .ref q5, .int 0, .int 0, .int 0, .int 0, .ref q6, .ref q7, .ref q8, .ref q9, .ref q10, .int 0, .int 0, .ref q11, .ref q12, .ref q13, .ref q14, .int 0, .ref q15, .null, .int 0, .int 0, .int 0])), (q0, .inl (G.2.1 0, 900, .inl (fun _ => 0))), (q1, .inl (G.2.1 1, 6, .inl (fun _ => 0))), (q2, .inl (G.2.1 1, 6, .inl (fun _ => 0))), (q3, .inl (G.2.1 1, 96, .inl (fun _ => 0))), (q4, .inl (G.2.1 1, 18, .inl (fun _ => 0))), (q5, .inl (G.2.1 1, 9, .inl (fun _ => 0))), (q6, .inl (G.2.1 1, 8, .inl (fun _ => 0))), (q7, .inl (G.2.1 1, 130, .inl (fun _ => 0))), (q8, .inl (G.2.1 1, 5, .inl (fun _ => 0))), (q9, .inl (G.2.1 1, 5, .inl (fun _ => 0))), (q10, .inl (G.2.1 1, 5, .inl (fun _ => 0))), (q11, .inl (G.2.1 1, 5, .inl (fun _ => 0))), (q12, .inl (G.2.1 1, 5, .inl (fun _ => 0))), (q13, .inl (G.2.1 1, 5, .inl (fun _ => 0))), (q14, .inl (G.2.1 1, 5, .inl (fun _ => 0))), (q15, .inl (G.2.1 1, 63, .inl (fun _ => 0)))]) hA k_in_X12 tyX12 tyX12_ok nmX12 rfl rfl 38 (by decide) wd_1286 rfl hin rfl (v := .ref q15) rfl rfl (Nat.le_of_ble_eq_true rfl) rfl dX12_init_129 ?_
  refine ka_aload_n (i := 0) hA dX12_init_132 rfl 0 rfl ?_
  refine ka_bipush hA dX12_init_133 kc_b_8 ?_
  refine ka_newI (N := 8) hA wd_245 (by decide) (by decide) (Nat.le_of_ble_eq_true rfl) (Nat.le_of_ble_eq_true rfl) (Nat.le_of_ble_eq_true rfl) dX12_init_135 (fun q16 => ?_)
  refine ka_putF (q0 := 0) (fs := [.int 0, .int 0, .int (-1), .null, .null, .ref q0, .int 0, .int 0, .int 0, .int 0, .int 0, .int 0, .int 0, .int 0, .long 0, .ref q1, .ref q2, .ref q3, .ref q4, .int 0, .int 0, .ref q5, .int 0, .int 0, .int 0, .int 0, .ref q6, .ref q7, .ref q8, .ref q9, .ref q10, .int 0, .int 0, .ref q11, .ref q12, .ref q13, .ref q14, .int 0, .ref q15, .null, .int 0, .int 0, .int 0]) (w' := [(h, .inr (10, [.int 0, .int 0, .int (-1), .null, .null, .ref q0, .int 0, .int 0, .int 0, .int 0, .int 0, .int 0, .int 0, .int 0, .long 0, .ref q1, .ref q2, .ref q3, .ref q4, .int 0, .int 0, .ref q5, .int 0, .int 0, .int 0, .int 0, .ref q6, .ref q7, .ref q8, .ref q9, .ref q10, .int 0, .int 0, .ref q11, .ref q12, .ref q13, .ref q14, .int 0, .ref q15, .ref q16, .int 0, .int 0, .int 0])), (q0, .inl (G.2.1 0, 900, .inl (fun _ => 0))), (q1, .inl (G.2.1 1, 6, .inl (fun _ => 0))), (q2, .inl (G.2.1 1, 6, .inl (fun _ => 0))), (q3, .inl (G.2.1 1, 96, .inl (fun _ => 0))), (q4, .inl (G.2.1 1, 18, .inl (fun _ => 0))), (q5, .inl (G.2.1 1, 9, .inl (fun _ => 0))), (q6, .inl (G.2.1 1, 8, .inl (fun _ => 0))), (q7, .inl (G.2.1 1, 130, .inl (fun _ => 0))), (q8, .inl (G.2.1 1, 5, .inl (fun _ => 0))), (q9, .inl (G.2.1 1, 5, .inl (fun _ => 0))), (q10, .inl (G.2.1 1, 5, .inl (fun _ => 0))), (q11, .inl (G.2.1 1, 5, .inl (fun _ => 0))), (q12, .inl (G.2.1 1, 5, .inl (fun _ => 0))), (q13, .inl (G.2.1 1, 5, .inl (fun _ => 0))), (q14, .inl (G.2.1 1, 5, .inl (fun _ => 0))), (q15, .inl (G.2.1 1, 63, .inl (fun _ => 0))), (q16, .inl (G.2.1 1, 8, .inl (fun _ => 0)))]) hA k_in_X12 tyX12 tyX12_ok nmX12 rfl rfl 39 (by decide) wd_1287 rfl hin rfl (v := .ref q16) rfl rfl (Nat.le_of_ble_eq_true rfl) rfl dX12_init_137 ?_
  exact ka_vret hA hr ⟨[h, q0, q1, q2, q3, q4, q5, q6, q7, q8, q9, q10, q11, q12, q13, q14, q15, q16], rfl, rfl⟩ dX12_init_140
