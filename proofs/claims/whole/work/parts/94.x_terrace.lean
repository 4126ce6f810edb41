/-! ===== TaleShares.terrace ===== -/
theorem dX10_terrace_0 : decode cX10_terrace 0 = .ok (.iload_n 1, 1) := by decide +kernel
theorem dX10_terrace_1 : decode cX10_terrace 1 = .ok (.ifCond .lt 11, 3) := by decide +kernel
theorem dX10_terrace_4 : decode cX10_terrace 4 = .ok (.iload_n 1, 1) := by decide +kernel
theorem dX10_terrace_5 : decode cX10_terrace 5 = .ok (.aload_n 0, 1) := by decide +kernel
theorem dX10_terrace_6 : decode cX10_terrace 6 = .ok (.getfield 74, 3) := by decide +kernel
theorem dX10_terrace_9 : decode cX10_terrace 9 = .ok (.if_icmp .le 9, 3) := by decide +kernel
theorem dX10_terrace_12 : decode cX10_terrace 12 = .ok (.aload_n 0, 1) := by decide +kernel
theorem dX10_terrace_13 : decode cX10_terrace 13 = .ok (.iconst 2, 1) := by decide +kernel
theorem dX10_terrace_14 : decode cX10_terrace 14 = .ok (.invokevirtual 82, 3) := by decide +kernel
theorem dX10_terrace_17 : decode cX10_terrace 17 = .ok (.ireturn, 1) := by decide +kernel
theorem dX10_terrace_18 : decode cX10_terrace 18 = .ok (.aload_n 0, 1) := by decide +kernel
theorem dX10_terrace_19 : decode cX10_terrace 19 = .ok (.getfield 28, 3) := by decide +kernel
theorem dX10_terrace_22 : decode cX10_terrace 22 = .ok (.iload_n 1, 1) := by decide +kernel
theorem dX10_terrace_23 : decode cX10_terrace 23 = .ok (.aload_n 0, 1) := by decide +kernel
theorem dX10_terrace_24 : decode cX10_terrace 24 = .ok (.getfield 20, 3) := by decide +kernel
theorem dX10_terrace_27 : decode cX10_terrace 27 = .ok (.invokevirtual 86, 3) := by decide +kernel
theorem dX10_terrace_30 : decode cX10_terrace 30 = .ok (.istore_n 2, 1) := by decide +kernel
theorem dX10_terrace_31 : decode cX10_terrace 31 = .ok (.aload_n 0, 1) := by decide +kernel
theorem dX10_terrace_32 : decode cX10_terrace 32 = .ok (.iconst 0, 1) := by decide +kernel
theorem dX10_terrace_33 : decode cX10_terrace 33 = .ok (.putfield 74, 3) := by decide +kernel
theorem dX10_terrace_36 : decode cX10_terrace 36 = .ok (.aload_n 0, 1) := by decide +kernel
theorem dX10_terrace_37 : decode cX10_terrace 37 = .ok (.aload_n 0, 1) := by decide +kernel
theorem dX10_terrace_38 : decode cX10_terrace 38 = .ok (.getfield 28, 3) := by decide +kernel
theorem dX10_terrace_41 : decode cX10_terrace 41 = .ok (.getfield 90, 3) := by decide +kernel
theorem dX10_terrace_44 : decode cX10_terrace 44 = .ok (.putfield 93, 3) := by decide +kernel
theorem dX10_terrace_47 : decode cX10_terrace 47 = .ok (.iload_n 2, 1) := by decide +kernel
theorem dX10_terrace_48 : decode cX10_terrace 48 = .ok (.ifCond .ne 20, 3) := by decide +kernel
theorem dX10_terrace_51 : decode cX10_terrace 51 = .ok (.aload_n 0, 1) := by decide +kernel
theorem dX10_terrace_52 : decode cX10_terrace 52 = .ok (.aload_n 0, 1) := by decide +kernel
theorem dX10_terrace_53 : decode cX10_terrace 53 = .ok (.getfield 28, 3) := by decide +kernel
theorem dX10_terrace_56 : decode cX10_terrace 56 = .ok (.getfield 94, 3) := by decide +kernel
theorem dX10_terrace_59 : decode cX10_terrace 59 = .ok (.putfield 97, 3) := by decide +kernel
theorem dX10_terrace_62 : decode cX10_terrace 62 = .ok (.aload_n 0, 1) := by decide +kernel
theorem dX10_terrace_63 : decode cX10_terrace 63 = .ok (.iconst 4, 1) := by decide +kernel
theorem dX10_terrace_64 : decode cX10_terrace 64 = .ok (.invokevirtual 82, 3) := by decide +kernel
theorem dX10_terrace_67 : decode cX10_terrace 67 = .ok (.ireturn, 1) := by decide +kernel
theorem dX10_terrace_68 : decode cX10_terrace 68 = .ok (.aload_n 0, 1) := by decide +kernel
theorem dX10_terrace_69 : decode cX10_terrace 69 = .ok (.getfield 16, 3) := by decide +kernel
theorem dX10_terrace_72 : decode cX10_terrace 72 = .ok (.astore_n 3, 1) := by decide +kernel
theorem dX10_terrace_73 : decode cX10_terrace 73 = .ok (.aload_n 0, 1) := by decide +kernel
theorem dX10_terrace_74 : decode cX10_terrace 74 = .ok (.aload_n 0, 1) := by decide +kernel
theorem dX10_terrace_75 : decode cX10_terrace 75 = .ok (.getfield 20, 3) := by decide +kernel
theorem dX10_terrace_78 : decode cX10_terrace 78 = .ok (.putfield 16, 3) := by decide +kernel
theorem dX10_terrace_81 : decode cX10_terrace 81 = .ok (.aload_n 0, 1) := by decide +kernel
theorem dX10_terrace_82 : decode cX10_terrace 82 = .ok (.aload_n 3, 1) := by decide +kernel
theorem dX10_terrace_83 : decode cX10_terrace 83 = .ok (.putfield 20, 3) := by decide +kernel
theorem dX10_terrace_86 : decode cX10_terrace 86 = .ok (.aload_n 0, 1) := by decide +kernel
theorem dX10_terrace_87 : decode cX10_terrace 87 = .ok (.iconst 1, 1) := by decide +kernel
theorem dX10_terrace_88 : decode cX10_terrace 88 = .ok (.putfield 100, 3) := by decide +kernel
theorem dX10_terrace_91 : decode cX10_terrace 91 = .ok (.aload_n 0, 1) := by decide +kernel
theorem dX10_terrace_92 : decode cX10_terrace 92 = .ok (.getfield 35, 3) := by decide +kernel
theorem dX10_terrace_95 : decode cX10_terrace 95 = .ok (.aload_n 0, 1) := by decide +kernel
theorem dX10_terrace_96 : decode cX10_terrace 96 = .ok (.getfield 16, 3) := by decide +kernel
theorem dX10_terrace_99 : decode cX10_terrace 99 = .ok (.invokevirtual 104, 3) := by decide +kernel
theorem dX10_terrace_102 : decode cX10_terrace 102 = .ok (.aload_n 0, 1) := by decide +kernel
theorem dX10_terrace_103 : decode cX10_terrace 103 = .ok (.getfield 42, 3) := by decide +kernel
theorem dX10_terrace_106 : decode cX10_terrace 106 = .ok (.aload_n 0, 1) := by decide +kernel
theorem dX10_terrace_107 : decode cX10_terrace 107 = .ok (.getfield 16, 3) := by decide +kernel
theorem dX10_terrace_110 : decode cX10_terrace 110 = .ok (.invokevirtual 108, 3) := by decide +kernel
theorem dX10_terrace_113 : decode cX10_terrace 113 = .ok (.aload_n 0, 1) := by decide +kernel
theorem dX10_terrace_114 : decode cX10_terrace 114 = .ok (.getfield 49, 3) := by decide +kernel
theorem dX10_terrace_117 : decode cX10_terrace 117 = .ok (.aload_n 0, 1) := by decide +kernel
theorem dX10_terrace_118 : decode cX10_terrace 118 = .ok (.getfield 16, 3) := by decide +kernel
theorem dX10_terrace_121 : decode cX10_terrace 121 = .ok (.invokevirtual 111, 3) := by decide +kernel
theorem dX10_terrace_124 : decode cX10_terrace 124 = .ok (.aload_n 0, 1) := by decide +kernel
theorem dX10_terrace_125 : decode cX10_terrace 125 = .ok (.getfield 56, 3) := by decide +kernel
theorem dX10_terrace_128 : decode cX10_terrace 128 = .ok (.aload_n 0, 1) := by decide +kernel
theorem dX10_terrace_129 : decode cX10_terrace 129 = .ok (.getfield 16, 3) := by decide +kernel
theorem dX10_terrace_132 : decode cX10_terrace 132 = .ok (.aload_n 0, 1) := by decide +kernel
theorem dX10_terrace_133 : decode cX10_terrace 133 = .ok (.getfield 35, 3) := by decide +kernel
theorem dX10_terrace_136 : decode cX10_terrace 136 = .ok (.invokevirtual 114, 3) := by decide +kernel
theorem dX10_terrace_139 : decode cX10_terrace 139 = .ok (.aload_n 0, 1) := by decide +kernel
theorem dX10_terrace_140 : decode cX10_terrace 140 = .ok (.getfield 70, 3) := by decide +kernel
theorem dX10_terrace_143 : decode cX10_terrace 143 = .ok (.aload_n 0, 1) := by decide +kernel
theorem dX10_terrace_144 : decode cX10_terrace 144 = .ok (.getfield 16, 3) := by decide +kernel
theorem dX10_terrace_147 : decode cX10_terrace 147 = .ok (.invokevirtual 118, 3) := by decide +kernel
theorem dX10_terrace_150 : decode cX10_terrace 150 = .ok (.aload_n 0, 1) := by decide +kernel
theorem dX10_terrace_151 : decode cX10_terrace 151 = .ok (.aload_n 0, 1) := by decide +kernel
theorem dX10_terrace_152 : decode cX10_terrace 152 = .ok (.getfield 16, 3) := by decide +kernel
theorem dX10_terrace_155 : decode cX10_terrace 155 = .ok (.getfield 121, 3) := by decide +kernel
theorem dX10_terrace_158 : decode cX10_terrace 158 = .ok (.invokevirtual 124, 3) := by decide +kernel
theorem dX10_terrace_161 : decode cX10_terrace 161 = .ok (.ireturn, 1) := by decide +kernel
theorem wd_668 : Cond.methodLink "TaleShares" 104 yX7_gather ∈ k_TB := k_tb 668 (by decide +kernel) rfl
theorem wd_687 : Cond.methodLink "TaleShares" 108 yX4_open ∈ k_TB := k_tb 687 (by decide +kernel) rfl
theorem wd_695 : Cond.methodLink "TaleShares" 111 yX9_make ∈ k_TB := k_tb 695 (by decide +kernel) rfl
theorem wd_713 : Cond.methodLink "TaleShares" 114 yX6_compare ∈ k_TB := k_tb 713 (by decide +kernel) rfl
theorem wd_731 : Cond.methodLink "TaleShares" 118 yX3_begin ∈ k_TB := k_tb 731 (by decide +kernel) rfl
theorem wd_433 : Cond.fieldLink "TaleShares" 28 "TaleShares" "reader" "LTaleShares$Reader;" ∈ k_TB := k_tb 433 (by decide +kernel) rfl
theorem wd_441 : Cond.fieldLink "TaleShares" 20 "TaleShares" "spare" "LTaleShares$Terrace;" ∈ k_TB := k_tb 441 (by decide +kernel) rfl
theorem wd_494 : Cond.methodLink "TaleShares" 86 yX5_reads ∈ k_TB := k_tb 494 (by decide +kernel) rfl
theorem wd_255 : Cond.fieldLink "TaleShares" 90 "TaleShares$Reader" "fault" "I" ∈ k_TB := k_tb 255 (by decide +kernel) rfl
theorem wd_257 : Cond.fieldLink "TaleShares" 94 "TaleShares$Reader" "place" "I" ∈ k_TB := k_tb 257 (by decide +kernel) rfl
theorem cd_X5_reads : k_cardV yX5_reads cX5_reads 4 (some .boolean) 2 := ⟨k_tb 497 (by decide +kernel) rfl, k_tb 495 (by decide +kernel) rfl, k_tb 496 (by decide +kernel) rfl, k_tb 122 (by decide +kernel) rfl, by decide +kernel, by decide +kernel, by decide +kernel, Nat.le_of_ble_eq_true rfl⟩
theorem cd_X7_gather : k_cardV yX7_gather cX7_gather 3 none 1 := ⟨k_tb 671 (by decide +kernel) rfl, k_tb 669 (by decide +kernel) rfl, k_tb 670 (by decide +kernel) rfl, k_tb 123 (by decide +kernel) rfl, by decide +kernel, by decide +kernel, by decide +kernel, Nat.le_of_ble_eq_true rfl⟩
theorem cd_X4_open : k_cardV yX4_open cX4_open 2 none 1 := ⟨k_tb 690 (by decide +kernel) rfl, k_tb 688 (by decide +kernel) rfl, k_tb 689 (by decide +kernel) rfl, k_tb 124 (by decide +kernel) rfl, by decide +kernel, by decide +kernel, by decide +kernel, Nat.le_of_ble_eq_true rfl⟩
theorem cd_X9_make : k_cardV yX9_make cX9_make 4 none 1 := ⟨k_tb 698 (by decide +kernel) rfl, k_tb 696 (by decide +kernel) rfl, k_tb 697 (by decide +kernel) rfl, k_tb 125 (by decide +kernel) rfl, by decide +kernel, by decide +kernel, by decide +kernel, Nat.le_of_ble_eq_true rfl⟩
theorem cd_X6_compare : k_cardV yX6_compare cX6_compare 5 none 2 := ⟨k_tb 716 (by decide +kernel) rfl, k_tb 714 (by decide +kernel) rfl, k_tb 715 (by decide +kernel) rfl, k_tb 126 (by decide +kernel) rfl, by decide +kernel, by decide +kernel, by decide +kernel, Nat.le_of_ble_eq_true rfl⟩
theorem cd_X3_begin : k_cardV yX3_begin cX3_begin 3 none 1 := ⟨k_tb 734 (by decide +kernel) rfl, k_tb 732 (by decide +kernel) rfl, k_tb 733 (by decide +kernel) rfl, k_tb 128 (by decide +kernel) rfl, by decide +kernel, by decide +kernel, by decide +kernel, Nat.le_of_ble_eq_true rfl⟩
theorem pt_X_0_10 {p : Program} {l : Launch} {e : Env} {R : Room} {s : State} {m : MethodId} {args : Array Value} {below : List Frame} {meth : Method} {c : Code} {Q : State → Prop} {cc : ByteArray} {nL : Nat} {own : String} {G : k_G} {A : Nat → Prop} {pc : Nat} {lv : List (Nat × Value)} {rest : List Value} {a : Nat → Nat} {index : Nat} {tl : Value} {t t2 : k_St} {x : Int32} (hA : k_Amb p s m args meth c cc nL own G A) (hlink : Cond.fieldLink own index "TaleShares" "standing" "Z" ∈ k_TB) (hz : x = 0 ∨ x = 1) (ht : t2 = k_sI t 0 10 x) (hd : decode cc pc = .ok (.putfield index, 3)) (kk : k_Go p l e R s m args below meth c Q nL G A (k_WX G.2.1 a tl t2) (pc + 3) lv rest) : k_Go p l e R s m args below meth c Q nL G A (k_WX G.2.1 a tl t) pc lv (.int x :: .ref (a 0) :: rest) := by
  subst ht
  exact k_put hA k_in_X10 tyX10 tyX10_ok nmX10 (hc_X_0 G.2.1 a tl t) rfl 10 (by decide) hlink rfl (v := .int x) (k_narZ hz) (k_fitB hz) (Nat.le_of_ble_eq_true rfl) rfl hd kk
theorem gt_X_0_1 {p : Program} {l : Launch} {e : Env} {R : Room} {s : State} {m : MethodId} {args : Array Value} {below : List Frame} {meth : Method} {c : Code} {Q : State → Prop} {cc : ByteArray} {nL : Nat} {own : String} {G : k_G} {A : Nat → Prop} {pc : Nat} {lv : List (Nat × Value)} {rest : List Value} {a : Nat → Nat} {index : Nat} {tl : Value} {t : k_St} (hA : k_Amb p s m args meth c cc nL own G A) (hlink : Cond.fieldLink own index "TaleShares" "reader" "LTaleShares$Reader;" ∈ k_TB) (hd : decode cc pc = .ok (.getfield index, 3)) (kk : k_Go p l e R s m args below meth c Q nL G A (k_WX G.2.1 a tl t) (pc + 3) lv (.ref (a 18) :: rest)) : k_Go p l e R s m args below meth c Q nL G A (k_WX G.2.1 a tl t) pc lv (.ref (a 0) :: rest) := k_get (ref := "") hA k_in_X10 (hc_X_0 G.2.1 a tl t) rfl 1 (by decide) hlink (v := .ref (a 18)) rfl hd kk
theorem gt_X_0_9 {p : Program} {l : Launch} {e : Env} {R : Room} {s : State} {m : MethodId} {args : Array Value} {below : List Frame} {meth : Method} {c : Code} {Q : State → Prop} {cc : ByteArray} {nL : Nat} {own : String} {G : k_G} {A : Nat → Prop} {pc : Nat} {lv : List (Nat × Value)} {rest : List Value} {a : Nat → Nat} {index : Nat} {tl : Value} {t : k_St} (hA : k_Amb p s m args meth c cc nL own G A) (hlink : Cond.fieldLink own index "TaleShares" "spare" "LTaleShares$Terrace;" ∈ k_TB) (hd : decode cc pc = .ok (.getfield index, 3)) (kk : k_Go p l e R s m args below meth c Q nL G A (k_WX G.2.1 a tl t) (pc + 3) lv (.ref (a 10) :: rest)) : k_Go p l e R s m args below meth c Q nL G A (k_WX G.2.1 a tl t) pc lv (.ref (a 0) :: rest) := k_get (ref := "") hA k_in_X10 (hc_X_0 G.2.1 a tl t) rfl 9 (by decide) hlink (v := .ref (a 10)) rfl hd kk
theorem gt_X_18_0 {p : Program} {l : Launch} {e : Env} {R : Room} {s : State} {m : MethodId} {args : Array Value} {below : List Frame} {meth : Method} {c : Code} {Q : State → Prop} {cc : ByteArray} {nL : Nat} {own : String} {G : k_G} {A : Nat → Prop} {pc : Nat} {lv : List (Nat × Value)} {rest : List Value} {a : Nat → Nat} {index : Nat} {tl : Value} {t : k_St} (hA : k_Amb p s m args meth c cc nL own G A) (hlink : Cond.fieldLink own index "TaleShares$Reader" "fault" "I" ∈ k_TB) (hd : decode cc pc = .ok (.getfield index, 3)) (kk : k_Go p l e R s m args below meth c Q nL G A (k_WX G.2.1 a tl t) (pc + 3) lv (.int (t.1 18 0) :: rest)) : k_Go p l e R s m args below meth c Q nL G A (k_WX G.2.1 a tl t) pc lv (.ref (a 18) :: rest) := k_get (ref := "") hA k_in_X5 (hc_X_18 G.2.1 a tl t) rfl 0 (by decide) hlink (v := .int (t.1 18 0)) rfl hd kk
theorem pt_X_0_13 {p : Program} {l : Launch} {e : Env} {R : Room} {s : State} {m : MethodId} {args : Array Value} {below : List Frame} {meth : Method} {c : Code} {Q : State → Prop} {cc : ByteArray} {nL : Nat} {own : String} {G : k_G} {A : Nat → Prop} {pc : Nat} {lv : List (Nat × Value)} {rest : List Value} {a : Nat → Nat} {index : Nat} {tl : Value} {t t2 : k_St} {x : Int32} (hA : k_Amb p s m args meth c cc nL own G A) (hlink : Cond.fieldLink own index "TaleShares" "fault" "I" ∈ k_TB) (ht : t2 = k_sI t 0 13 x) (hd : decode cc pc = .ok (.putfield index, 3)) (kk : k_Go p l e R s m args below meth c Q nL G A (k_WX G.2.1 a tl t2) (pc + 3) lv rest) : k_Go p l e R s m args below meth c Q nL G A (k_WX G.2.1 a tl t) pc lv (.int x :: .ref (a 0) :: rest) := by
  subst ht
  exact k_put hA k_in_X10 tyX10 tyX10_ok nmX10 (hc_X_0 G.2.1 a tl t) rfl 13 (by decide) hlink rfl (v := .int x) rfl rfl (Nat.le_of_ble_eq_true rfl) rfl hd kk
theorem pt_X_0_14 {p : Program} {l : Launch} {e : Env} {R : Room} {s : State} {m : MethodId} {args : Array Value} {below : List Frame} {meth : Method} {c : Code} {Q : State → Prop} {cc : ByteArray} {nL : Nat} {own : String} {G : k_G} {A : Nat → Prop} {pc : Nat} {lv : List (Nat × Value)} {rest : List Value} {a : Nat → Nat} {index : Nat} {tl : Value} {t t2 : k_St} {x : Int32} (hA : k_Amb p s m args meth c cc nL own G A) (hlink : Cond.fieldLink own index "TaleShares" "faultPlace" "I" ∈ k_TB) (ht : t2 = k_sI t 0 14 x) (hd : decode cc pc = .ok (.putfield index, 3)) (kk : k_Go p l e R s m args below meth c Q nL G A (k_WX G.2.1 a tl t2) (pc + 3) lv rest) : k_Go p l e R s m args below meth c Q nL G A (k_WX G.2.1 a tl t) pc lv (.int x :: .ref (a 0) :: rest) := by
  subst ht
  exact k_put hA k_in_X10 tyX10 tyX10_ok nmX10 (hc_X_0 G.2.1 a tl t) rfl 14 (by decide) hlink rfl (v := .int x) rfl rfl (Nat.le_of_ble_eq_true rfl) rfl hd kk
theorem m_X_terrace_86 {p : Program} (l : Launch) {e : Env} {s : State} {m : MethodId} {args : Array Value} {below : List Frame} {meth : Method} {c : Code} (G : k_G) (a : Nat → Nat) (tl : Value) (n : Nat) {w0 : va_W} (hA : k_Amb p s m args meth c cX10_terrace 4 "TaleShares" G (va_A w0 s.heap.size)) (hr : meth.sig.returnType = (some .int)) {t t3 t4 t5 t6 t7 : k_St} (h3 : f_Ta_gather n (k_sI t 0 10 1) = some t3) (h4 : f_Pa_open n t3 = some t4) (h5 : f_Ti_make n t4 = some t5) (h6 : f_Sl_compare n t5 = some t6) (h7 : f_No_begin n t6 = some t7) : k_Go p l e (k_rm 13) s m args below meth c (k_QI G w0 (t7.1 2 2) (k_WX G.2.1 a tl (k_sI t7 0 12 0)) args s below) 4 G (va_A w0 s.heap.size) (k_WX G.2.1 a tl t) 86 [(0, .ref (a 0))] [] := by
  refine k_aload_n (i := 0) hA dX10_terrace_86 rfl 0 rfl ?_
  refine k_iconst hA dX10_terrace_87 kc_i_1 ?_
  refine pt_X_0_10 hA wd_442 (Or.inr rfl) rfl dX10_terrace_88 ?_
  refine k_aload_n (i := 0) hA dX10_terrace_91 rfl 0 rfl ?_
  refine gt_X_0_2 hA wd_434 dX10_terrace_92 ?_
  refine k_aload_n (i := 0) hA dX10_terrace_95 rfl 0 rfl ?_
  refine gt_X_0_8 hA wd_440 dX10_terrace_96 ?_
  refine k_callVv (As := [.ref (a 2)]) (rest := []) hA (m_Ta_gather l G a tl n (k_sI t 0 10 1) h3) cd_X7_gather wd_668 (hc_X_21 G.2.1 a tl (k_sI t 0 10 1)) rfl rfl (Nat.le_of_ble_eq_true rfl) rfl rfl (Nat.le_of_ble_eq_true rfl) dX10_terrace_99 ?_
  refine k_aload_n (i := 0) hA dX10_terrace_102 rfl 0 rfl ?_
  refine gt_X_0_3 hA wd_435 dX10_terrace_103 ?_
  refine k_aload_n (i := 0) hA dX10_terrace_106 rfl 0 rfl ?_
  refine gt_X_0_8 hA wd_440 dX10_terrace_107 ?_
  refine k_callVv (As := [.ref (a 2)]) (rest := []) hA (m_Pa_open l G a tl n t3 h4) cd_X4_open wd_687 (hc_X_24 G.2.1 a tl t3) rfl rfl (Nat.le_of_ble_eq_true rfl) rfl rfl (Nat.le_of_ble_eq_true rfl) dX10_terrace_110 ?_
  refine k_aload_n (i := 0) hA dX10_terrace_113 rfl 0 rfl ?_
  refine gt_X_0_4 hA wd_436 dX10_terrace_114 ?_
  refine k_aload_n (i := 0) hA dX10_terrace_117 rfl 0 rfl ?_
  refine gt_X_0_8 hA wd_440 dX10_terrace_118 ?_
  refine k_callVv (As := [.ref (a 2)]) (rest := []) hA (m_Ti_make l G a tl n t4 h5) cd_X9_make wd_695 (hc_X_27 G.2.1 a tl t4) rfl rfl (Nat.le_of_ble_eq_true rfl) rfl rfl (Nat.le_of_ble_eq_true rfl) dX10_terrace_121 ?_
  refine k_aload_n (i := 0) hA dX10_terrace_124 rfl 0 rfl ?_
  refine gt_X_0_5 hA wd_437 dX10_terrace_125 ?_
  refine k_aload_n (i := 0) hA dX10_terrace_128 rfl 0 rfl ?_
  refine gt_X_0_8 hA wd_440 dX10_terrace_129 ?_
  refine k_aload_n (i := 0) hA dX10_terrace_132 rfl 0 rfl ?_
  refine gt_X_0_2 hA wd_434 dX10_terrace_133 ?_
  refine k_callVv (As := [.ref (a 2), .ref (a 21)]) (rest := []) hA (m_Sl_compare l G a tl n t5 h6) cd_X6_compare wd_713 (hc_X_31 G.2.1 a tl t5) rfl rfl (Nat.le_of_ble_eq_true rfl) rfl rfl (Nat.le_of_ble_eq_true rfl) dX10_terrace_136 ?_
  refine k_aload_n (i := 0) hA dX10_terrace_139 rfl 0 rfl ?_
  refine gt_X_0_7 hA wd_439 dX10_terrace_140 ?_
  refine k_aload_n (i := 0) hA dX10_terrace_143 rfl 0 rfl ?_
  refine gt_X_0_8 hA wd_440 dX10_terrace_144 ?_
  refine k_callVv (As := [.ref (a 2)]) (rest := []) hA (m_No_begin l G a tl n t6 h7) cd_X3_begin wd_731 (hc_X_34 G.2.1 a tl t6) rfl rfl (Nat.le_of_ble_eq_true rfl) rfl rfl (Nat.le_of_ble_eq_true rfl) dX10_terrace_147 ?_
  refine k_aload_n (i := 0) hA dX10_terrace_150 rfl 0 rfl ?_
  refine k_aload_n (i := 0) hA dX10_terrace_151 rfl 0 rfl ?_
  refine gt_X_0_8 hA wd_440 dX10_terrace_152 ?_
  refine gt_X_2_2 hA wd_169 dX10_terrace_155 ?_
  refine k_callVi (As := [.int (t7.1 2 2)]) (rest := []) hA (m_X_answer l G a tl (t7.1 2 2) t7 rfl) cd_X10_answer wd_738 (hc_X_0 G.2.1 a tl t7) rfl rfl (Nat.le_of_ble_eq_true rfl) rfl rfl (Nat.le_of_ble_eq_true rfl) dX10_terrace_158 ?_
  exact k_iret hA hr rfl dX10_terrace_161
theorem k_perm {p : Program} {l : Launch} {e : Env} {R : Room} {s : State} {m : MethodId} {args : Array Value} {below : List Frame} {meth : Method} {c : Code} {Q : State → Prop} {nL : Nat} {G : k_G} {A : Nat → Prop} {w w' : va_W} {pc : Nat} {lv : List (Nat × Value)} {st : List Value} (is : List Nat) (hn : va_nd is = true) (h1 : is.filterMap (fun i => w[i]?) = w') (h2 : is.map (fun i => w[i]?) = w'.map some) (k : k_Go p l e R s m args below meth c Q nL G A w' pc lv st) : k_Go p l e R s m args below meth c Q nL G A w pc lv st := fun H locs ls hP hD hS hl => k H locs ls (hP.sub is h1) (hD.sub is hn h2) hS hl
def sg (i : Nat) : Nat := if 2 ≤ i ∧ i ≤ 9 then i + 8 else if 10 ≤ i ∧ i ≤ 17 then i - 8 else i
def asg (a : Nat → Nat) (i : Nat) : Nat := a (sg i)
def swp (t : k_St) : k_St := (fun o => t.1 (sg o), fun o => t.2 (sg o))
def k_WS (cy : Nat → ClassId) (a : Nat → Nat) (tl : Value) (t : k_St) (v8 v9 : Value) : va_W := (k_WX cy a tl t).set 0 (a 0, .inr (8, ((k_fX0 a tl t).set 8 v8).set 9 v9))
theorem k_swap1 (cy : Nat → ClassId) (a : Nat → Nat) (tl : Value) (t : k_St) : ([0, 1, 10, 11, 12, 13, 14, 15, 16, 17, 2, 3, 4, 5, 6, 7, 8, 9, 18, 19, 20, 21, 22, 23, 24, 25, 26, 27, 28, 29, 30, 31, 32, 33, 34, 35, 36] : List Nat).filterMap (fun i => (k_WS cy a tl t (.ref (a 10)) (.ref (a 2)))[i]?) = k_WX cy (asg a) tl (swp t) := rfl
theorem k_swap2 (cy : Nat → ClassId) (a : Nat → Nat) (tl : Value) (t : k_St) : ([0, 1, 10, 11, 12, 13, 14, 15, 16, 17, 2, 3, 4, 5, 6, 7, 8, 9, 18, 19, 20, 21, 22, 23, 24, 25, 26, 27, 28, 29, 30, 31, 32, 33, 34, 35, 36] : List Nat).map (fun i => (k_WS cy a tl t (.ref (a 10)) (.ref (a 2)))[i]?) = (k_WX cy (asg a) tl (swp t)).map some := rfl
theorem m_X_terrace_no (l : Launch) (G : k_G) (a : Nat → Nat) (tl : Value) (n : Nat) (x1 : Int32) (t : k_St) (h : x1 < 0 ∨ t.1 0 11 < x1) : k_CI l G yX10_terrace cX10_terrace 4 (some .int) 13 (k_WX G.2.1 a tl t) [.ref (a 0), .int x1] (-1) (k_WX G.2.1 a tl (k_sI t 0 12 2)) := by
  refine k_startI (lv := [(0, .ref (a 0)), (1, .int x1)]) (by decide +kernel) (Nat.le_of_ble_eq_true rfl) rfl ?_
  intro p e s m args below meth c hA hr
  have hA : k_Amb p s m args meth c cX10_terrace 4 "TaleShares" G _ := hA
  have bad : k_Go p l e (k_rm 13) s m args below meth c (k_QI G (k_WX G.2.1 a tl t) (-1) (k_WX G.2.1 a tl (k_sI t 0 12 2)) args s below) 4 G (va_A (k_WX G.2.1 a tl t) s.heap.size) (k_WX G.2.1 a tl t) 12 [(0, .ref (a 0)), (1, .int x1)] [] := by
    refine k_aload_n (i := 0) hA dX10_terrace_12 rfl 0 rfl ?_
    refine k_iconst hA dX10_terrace_13 kc_i_2 ?_
    refine k_callVi (As := [.int (2 : Int32)]) (rest := []) hA (m_X_refuse l G a tl (2 : Int32) t rfl) cd_X10_refuse wd_490 (hc_X_0 G.2.1 a tl t) rfl rfl (Nat.le_of_ble_eq_true rfl) rfl rfl (Nat.le_of_ble_eq_true rfl) dX10_terrace_14 ?_
    exact k_iret hA hr rfl dX10_terrace_17
  refine k_iload_n (i := 1) hA dX10_terrace_0 rfl 1 rfl ?_
  refine k_if_lt (tgt := 12) hA dX10_terrace_1 rfl (fun hc => bad) (fun hc => ?_)
  refine k_iload_n (i := 1) hA dX10_terrace_4 rfl 1 rfl ?_
  refine k_aload_n (i := 0) hA dX10_terrace_5 rfl 0 rfl ?_
  refine gt_X_0_11 hA wd_443 dX10_terrace_6 ?_
  refine k_icmp_le (tgt := 18) hA dX10_terrace_9 rfl (fun hc2 => ?_) (fun hc2 => bad)
  exfalso
  rcases h with h | h
  · exact hc h
  · exact absurd h (Int32.not_lt.mpr hc2)
def tf1 (t1 : k_St) : k_St := k_sI (k_sI t1 0 11 0) 0 13 ((k_sI t1 0 11 0).1 18 0)
theorem m_X_terrace_bad (l : Launch) (G : k_G) (a : Nat → Nat) (tl : Value) (n : Nat) (x1 : Int32) (t : k_St) (h1 : ¬ x1 < 0) (h2 : ¬ t.1 0 11 < x1) {t1 : k_St} (hf : f_Re_reads n x1 t = some (false, t1)) : k_CI l G yX10_terrace cX10_terrace 4 (some .int) 13 (k_WX G.2.1 a tl t) [.ref (a 0), .int x1] (-1) (k_WX G.2.1 a (.ref (a 10)) (k_sI (k_sI (tf1 t1) 0 14 ((tf1 t1).1 18 1)) 0 12 4)) := by
  refine k_startI (lv := [(0, .ref (a 0)), (1, .int x1)]) (by decide +kernel) (Nat.le_of_ble_eq_true rfl) rfl ?_
  intro p e s m args below meth c hA hr
  have hA : k_Amb p s m args meth c cX10_terrace 4 "TaleShares" G _ := hA
  refine k_iload_n (i := 1) hA dX10_terrace_0 rfl 1 rfl ?_
  refine k_if_lt (tgt := 12) hA dX10_terrace_1 rfl (fun hc => absurd hc h1) (fun hc => ?_)
  refine k_iload_n (i := 1) hA dX10_terrace_4 rfl 1 rfl ?_
  refine k_aload_n (i := 0) hA dX10_terrace_5 rfl 0 rfl ?_
  refine gt_X_0_11 hA wd_443 dX10_terrace_6 ?_
  refine k_icmp_le (tgt := 18) hA dX10_terrace_9 rfl (fun hc2 => ?_) (fun hc2 => absurd (Int32.not_lt.mp h2) hc2)
  refine k_aload_n (i := 0) hA dX10_terrace_18 rfl 0 rfl ?_
  refine gt_X_0_1 hA wd_433 dX10_terrace_19 ?_
  refine k_iload_n (i := 1) hA dX10_terrace_22 rfl 1 rfl ?_
  refine k_aload_n (i := 0) hA dX10_terrace_23 rfl 0 rfl ?_
  refine gt_X_0_9 hA wd_441 dX10_terrace_24 ?_
  refine k_callVi (As := [.int x1, .ref (a 10)]) (rest := []) hA (m_Re_reads l G a tl n x1 t hf) cd_X5_reads wd_494 (hc_X_18 G.2.1 a tl t) rfl rfl (Nat.le_of_ble_eq_true rfl) rfl rfl (Nat.le_of_ble_eq_true rfl) dX10_terrace_27 ?_
  refine k_istore_n (i := 2) (lv' := [(2, .int (k_b false)), (0, .ref (a 0)), (1, .int x1)]) hA dX10_terrace_30 rfl rfl (Nat.le_of_ble_eq_true rfl) rfl ?_
  refine k_aload_n (i := 0) hA dX10_terrace_31 rfl 1 rfl ?_
  refine k_iconst hA dX10_terrace_32 kc_i_0 ?_
  refine pt_X_0_11 hA wd_443 rfl dX10_terrace_33 ?_
  refine k_aload_n (i := 0) hA dX10_terrace_36 rfl 1 rfl ?_
  refine k_aload_n (i := 0) hA dX10_terrace_37 rfl 1 rfl ?_
  refine gt_X_0_1 hA wd_433 dX10_terrace_38 ?_
  refine gt_X_18_0 hA wd_255 dX10_terrace_41 ?_
  refine pt_X_0_13 hA wd_445 (t2 := tf1 t1) rfl dX10_terrace_44 ?_
  refine k_iload_n (i := 2) hA dX10_terrace_47 rfl 0 rfl ?_
  refine k_if_ne (tgt := 68) hA dX10_terrace_48 rfl (fun hc => absurd rfl hc) (fun hc => ?_)
  refine k_aload_n (i := 0) hA dX10_terrace_51 rfl 1 rfl ?_
  refine k_aload_n (i := 0) hA dX10_terrace_52 rfl 1 rfl ?_
  refine gt_X_0_1 hA wd_433 dX10_terrace_53 ?_
  refine gt_X_18_1 hA wd_257 dX10_terrace_56 ?_
  refine pt_X_0_14 hA wd_446 rfl dX10_terrace_59 ?_
  refine k_aload_n (i := 0) hA dX10_terrace_62 rfl 1 rfl ?_
  refine k_iconst hA dX10_terrace_63 kc_i_4 ?_
  refine k_callVi (As := [.int (4 : Int32)]) (rest := []) hA (m_X_refuse l G a (.ref (a 10)) (4 : Int32) (k_sI (tf1 t1) 0 14 ((tf1 t1).1 18 1)) rfl) cd_X10_refuse wd_490 (hc_X_0 G.2.1 a (.ref (a 10)) (k_sI (tf1 t1) 0 14 ((tf1 t1).1 18 1))) rfl rfl (Nat.le_of_ble_eq_true rfl) rfl rfl (Nat.le_of_ble_eq_true rfl) dX10_terrace_64 ?_
  exact k_iret hA hr rfl dX10_terrace_67
theorem m_X_terrace_ok (l : Launch) (G : k_G) (a : Nat → Nat) (tl : Value) (n : Nat) (x1 : Int32) (t : k_St) (h1 : ¬ x1 < 0) (h2 : ¬ t.1 0 11 < x1) {t1 : k_St} {t3 t4 t5 t6 t7 : k_St} (hf : f_Re_reads n x1 t = some (true, t1)) (h3 : f_Ta_gather n (k_sI (swp (tf1 t1)) 0 10 1) = some t3) (h4 : f_Pa_open n t3 = some t4) (h5 : f_Ti_make n t4 = some t5) (h6 : f_Sl_compare n t5 = some t6) (h7 : f_No_begin n t6 = some t7) : k_CI l G yX10_terrace cX10_terrace 4 (some .int) 13 (k_WX G.2.1 a tl t) [.ref (a 0), .int x1] (t7.1 2 2) (k_WX G.2.1 (asg a) (.ref (a 10)) (k_sI t7 0 12 0)) := by
  refine k_startI (lv := [(0, .ref (a 0)), (1, .int x1)]) (by decide +kernel) (Nat.le_of_ble_eq_true rfl) rfl ?_
  intro p e s m args below meth c hA hr
  have hA : k_Amb p s m args meth c cX10_terrace 4 "TaleShares" G _ := hA
  refine k_iload_n (i := 1) hA dX10_terrace_0 rfl 1 rfl ?_
  refine k_if_lt (tgt := 12) hA dX10_terrace_1 rfl (fun hc => absurd hc h1) (fun hc => ?_)
  refine k_iload_n (i := 1) hA dX10_terrace_4 rfl 1 rfl ?_
  refine k_aload_n (i := 0) hA dX10_terrace_5 rfl 0 rfl ?_
  refine gt_X_0_11 hA wd_443 dX10_terrace_6 ?_
  refine k_icmp_le (tgt := 18) hA dX10_terrace_9 rfl (fun hc2 => ?_) (fun hc2 => absurd (Int32.not_lt.mp h2) hc2)
  refine k_aload_n (i := 0) hA dX10_terrace_18 rfl 0 rfl ?_
  refine gt_X_0_1 hA wd_433 dX10_terrace_19 ?_
  refine k_iload_n (i := 1) hA dX10_terrace_22 rfl 1 rfl ?_
  refine k_aload_n (i := 0) hA dX10_terrace_23 rfl 0 rfl ?_
  refine gt_X_0_9 hA wd_441 dX10_terrace_24 ?_
  refine k_callVi (As := [.int x1, .ref (a 10)]) (rest := []) hA (m_Re_reads l G a tl n x1 t hf) cd_X5_reads wd_494 (hc_X_18 G.2.1 a tl t) rfl rfl (Nat.le_of_ble_eq_true rfl) rfl rfl (Nat.le_of_ble_eq_true rfl) dX10_terrace_27 ?_
  refine k_istore_n (i := 2) (lv' := [(2, .int (k_b true)), (0, .ref (a 0)), (1, .int x1)]) hA dX10_terrace_30 rfl rfl (Nat.le_of_ble_eq_true rfl) rfl ?_
  refine k_aload_n (i := 0) hA dX10_terrace_31 rfl 1 rfl ?_
  refine k_iconst hA dX10_terrace_32 kc_i_0 ?_
  refine pt_X_0_11 hA wd_443 rfl dX10_terrace_33 ?_
  refine k_aload_n (i := 0) hA dX10_terrace_36 rfl 1 rfl ?_
  refine k_aload_n (i := 0) hA dX10_terrace_37 rfl 1 rfl ?_
  refine gt_X_0_1 hA wd_433 dX10_terrace_38 ?_
  refine gt_X_18_0 hA wd_255 dX10_terrace_41 ?_
  refine pt_X_0_13 hA wd_445 (t2 := tf1 t1) rfl dX10_terrace_44 ?_
  refine k_iload_n (i := 2) hA dX10_terrace_47 rfl 0 rfl ?_
  refine k_if_ne (tgt := 68) hA dX10_terrace_48 rfl (fun hc => ?_) (fun hc => absurd hc (by decide))
  refine k_aload_n (i := 0) hA dX10_terrace_68 rfl 1 rfl ?_
  refine gt_X_0_8 hA wd_440 dX10_terrace_69 ?_
  refine k_astore_n (i := 3) (lv' := [(3, .ref (a 2)), (2, .int (k_b true)), (0, .ref (a 0)), (1, .int x1)]) hA dX10_terrace_72 rfl (Nat.le_of_ble_eq_true rfl) rfl ?_
  refine k_aload_n (i := 0) hA dX10_terrace_73 rfl 2 rfl ?_
  refine k_aload_n (i := 0) hA dX10_terrace_74 rfl 2 rfl ?_
  refine gt_X_0_9 hA wd_441 dX10_terrace_75 ?_
  refine k_put hA k_in_X10 tyX10 tyX10_ok nmX10 (hc_X_0 G.2.1 a (.ref (a 10)) (tf1 t1)) rfl 8 (by decide) wd_440 rfl (v := .ref (a 10)) rfl rfl (Nat.le_of_ble_eq_true rfl) (w' := (k_WX G.2.1 a (.ref (a 10)) (tf1 t1)).set 0 (a 0, .inr (8, (k_fX0 a (.ref (a 10)) (tf1 t1)).set 8 (.ref (a 10))))) rfl dX10_terrace_78 ?_
  refine k_aload_n (i := 0) hA dX10_terrace_81 rfl 2 rfl ?_
  refine k_aload_n (i := 3) hA dX10_terrace_82 rfl 0 rfl ?_
  refine k_put (q0 := 0) (fs := (k_fX0 a (.ref (a 10)) (tf1 t1)).set 8 (.ref (a 10))) hA k_in_X10 tyX10 tyX10_ok nmX10 rfl rfl 9 (by decide) wd_441 rfl (v := .ref (a 2)) rfl rfl (Nat.le_of_ble_eq_true rfl) (w' := k_WS G.2.1 a (.ref (a 10)) (tf1 t1) (.ref (a 10)) (.ref (a 2))) rfl dX10_terrace_83 ?_
  refine k_perm [0, 1, 10, 11, 12, 13, 14, 15, 16, 17, 2, 3, 4, 5, 6, 7, 8, 9, 18, 19, 20, 21, 22, 23, 24, 25, 26, 27, 28, 29, 30, 31, 32, 33, 34, 35, 36] (by decide) (k_swap1 G.2.1 a (.ref (a 10)) (tf1 t1)) (k_swap2 G.2.1 a (.ref (a 10)) (tf1 t1)) ?_
  refine k_pick (lv' := [(0, .ref (a 0))]) [2] rfl ?_
  exact m_X_terrace_86 l G (asg a) (.ref (a 10)) n hA hr h3 h4 h5 h6 h7
