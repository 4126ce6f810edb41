/-! ===== TaleShares.terrace ===== -/
theorem dX5_changeFor_0 : decode cX5_changeFor 0 = .ok (.aload_n 0, 1) := by decide +kernel
theorem dX5_changeFor_1 : decode cX5_changeFor 1 = .ok (.getfield 18, 3) := by decide +kernel
theorem dX5_changeFor_4 : decode cX5_changeFor 4 = .ok (.astore_n 2, 1) := by decide +kernel
theorem dX5_changeFor_5 : decode cX5_changeFor 5 = .ok (.aload_n 0, 1) := by decide +kernel
theorem dX5_changeFor_6 : decode cX5_changeFor 6 = .ok (.aload_n 1, 1) := by decide +kernel
theorem dX5_changeFor_7 : decode cX5_changeFor 7 = .ok (.putfield 18, 3) := by decide +kernel
theorem dX5_changeFor_10 : decode cX5_changeFor 10 = .ok (.aload_n 2, 1) := by decide +kernel
theorem dX5_changeFor_11 : decode cX5_changeFor 11 = .ok (.areturn, 1) := by decide +kernel
theorem dX10_terrace_0 : decode cX10_terrace 0 = .ok (.iload_n 1, 1) := by decide +kernel
theorem dX10_terrace_1 : decode cX10_terrace 1 = .ok (.ifCond .lt 14, 3) := by decide +kernel
theorem dX10_terrace_4 : decode cX10_terrace 4 = .ok (.iload_n 1, 1) := by decide +kernel
theorem dX10_terrace_5 : decode cX10_terrace 5 = .ok (.aload_n 0, 1) := by decide +kernel
theorem dX10_terrace_6 : decode cX10_terrace 6 = .ok (.getfield 19, 3) := by decide +kernel
theorem dX10_terrace_9 : decode cX10_terrace 9 = .ok (.getfield 65, 3) := by decide +kernel
theorem dX10_terrace_12 : decode cX10_terrace 12 = .ok (.if_icmp .le 9, 3) := by decide +kernel
theorem dX10_terrace_15 : decode cX10_terrace 15 = .ok (.aload_n 0, 1) := by decide +kernel
theorem dX10_terrace_16 : decode cX10_terrace 16 = .ok (.iconst 2, 1) := by decide +kernel
theorem dX10_terrace_17 : decode cX10_terrace 17 = .ok (.invokevirtual 73, 3) := by decide +kernel
theorem dX10_terrace_20 : decode cX10_terrace 20 = .ok (.ireturn, 1) := by decide +kernel
theorem dX10_terrace_21 : decode cX10_terrace 21 = .ok (.aload_n 0, 1) := by decide +kernel
theorem dX10_terrace_22 : decode cX10_terrace 22 = .ok (.getfield 19, 3) := by decide +kernel
theorem dX10_terrace_25 : decode cX10_terrace 25 = .ok (.iload_n 1, 1) := by decide +kernel
theorem dX10_terrace_26 : decode cX10_terrace 26 = .ok (.invokevirtual 77, 3) := by decide +kernel
theorem dX10_terrace_29 : decode cX10_terrace 29 = .ok (.ifCond .ne 9, 3) := by decide +kernel
theorem dX10_terrace_32 : decode cX10_terrace 32 = .ok (.aload_n 0, 1) := by decide +kernel
theorem dX10_terrace_33 : decode cX10_terrace 33 = .ok (.iconst 4, 1) := by decide +kernel
theorem dX10_terrace_34 : decode cX10_terrace 34 = .ok (.invokevirtual 73, 3) := by decide +kernel
theorem dX10_terrace_37 : decode cX10_terrace 37 = .ok (.ireturn, 1) := by decide +kernel
theorem dX10_terrace_38 : decode cX10_terrace 38 = .ok (.aload_n 0, 1) := by decide +kernel
theorem dX10_terrace_39 : decode cX10_terrace 39 = .ok (.aload_n 0, 1) := by decide +kernel
theorem dX10_terrace_40 : decode cX10_terrace 40 = .ok (.getfield 19, 3) := by decide +kernel
theorem dX10_terrace_43 : decode cX10_terrace 43 = .ok (.aload_n 0, 1) := by decide +kernel
theorem dX10_terrace_44 : decode cX10_terrace 44 = .ok (.getfield 10, 3) := by decide +kernel
theorem dX10_terrace_47 : decode cX10_terrace 47 = .ok (.invokevirtual 81, 3) := by decide +kernel
theorem dX10_terrace_50 : decode cX10_terrace 50 = .ok (.putfield 10, 3) := by decide +kernel
theorem dX10_terrace_53 : decode cX10_terrace 53 = .ok (.aload_n 0, 1) := by decide +kernel
theorem dX10_terrace_54 : decode cX10_terrace 54 = .ok (.iconst 1, 1) := by decide +kernel
theorem dX10_terrace_55 : decode cX10_terrace 55 = .ok (.putfield 85, 3) := by decide +kernel
theorem dX10_terrace_58 : decode cX10_terrace 58 = .ok (.aload_n 0, 1) := by decide +kernel
theorem dX10_terrace_59 : decode cX10_terrace 59 = .ok (.getfield 26, 3) := by decide +kernel
theorem dX10_terrace_62 : decode cX10_terrace 62 = .ok (.aload_n 0, 1) := by decide +kernel
theorem dX10_terrace_63 : decode cX10_terrace 63 = .ok (.getfield 10, 3) := by decide +kernel
theorem dX10_terrace_66 : decode cX10_terrace 66 = .ok (.invokevirtual 89, 3) := by decide +kernel
theorem dX10_terrace_69 : decode cX10_terrace 69 = .ok (.aload_n 0, 1) := by decide +kernel
theorem dX10_terrace_70 : decode cX10_terrace 70 = .ok (.getfield 33, 3) := by decide +kernel
theorem dX10_terrace_73 : decode cX10_terrace 73 = .ok (.aload_n 0, 1) := by decide +kernel
theorem dX10_terrace_74 : decode cX10_terrace 74 = .ok (.getfield 10, 3) := by decide +kernel
theorem dX10_terrace_77 : decode cX10_terrace 77 = .ok (.invokevirtual 93, 3) := by decide +kernel
theorem dX10_terrace_80 : decode cX10_terrace 80 = .ok (.aload_n 0, 1) := by decide +kernel
theorem dX10_terrace_81 : decode cX10_terrace 81 = .ok (.getfield 40, 3) := by decide +kernel
theorem dX10_terrace_84 : decode cX10_terrace 84 = .ok (.aload_n 0, 1) := by decide +kernel
theorem dX10_terrace_85 : decode cX10_terrace 85 = .ok (.getfield 10, 3) := by decide +kernel
theorem dX10_terrace_88 : decode cX10_terrace 88 = .ok (.invokevirtual 96, 3) := by decide +kernel
theorem dX10_terrace_91 : decode cX10_terrace 91 = .ok (.aload_n 0, 1) := by decide +kernel
theorem dX10_terrace_92 : decode cX10_terrace 92 = .ok (.getfield 47, 3) := by decide +kernel
theorem dX10_terrace_95 : decode cX10_terrace 95 = .ok (.aload_n 0, 1) := by decide +kernel
theorem dX10_terrace_96 : decode cX10_terrace 96 = .ok (.getfield 10, 3) := by decide +kernel
theorem dX10_terrace_99 : decode cX10_terrace 99 = .ok (.aload_n 0, 1) := by decide +kernel
theorem dX10_terrace_100 : decode cX10_terrace 100 = .ok (.getfield 26, 3) := by decide +kernel
theorem dX10_terrace_103 : decode cX10_terrace 103 = .ok (.invokevirtual 99, 3) := by decide +kernel
theorem dX10_terrace_106 : decode cX10_terrace 106 = .ok (.aload_n 0, 1) := by decide +kernel
theorem dX10_terrace_107 : decode cX10_terrace 107 = .ok (.getfield 61, 3) := by decide +kernel
theorem dX10_terrace_110 : decode cX10_terrace 110 = .ok (.aload_n 0, 1) := by decide +kernel
theorem dX10_terrace_111 : decode cX10_terrace 111 = .ok (.getfield 10, 3) := by decide +kernel
theorem dX10_terrace_114 : decode cX10_terrace 114 = .ok (.invokevirtual 103, 3) := by decide +kernel
theorem dX10_terrace_117 : decode cX10_terrace 117 = .ok (.aload_n 0, 1) := by decide +kernel
theorem dX10_terrace_118 : decode cX10_terrace 118 = .ok (.aload_n 0, 1) := by decide +kernel
theorem dX10_terrace_119 : decode cX10_terrace 119 = .ok (.getfield 10, 3) := by decide +kernel
theorem dX10_terrace_122 : decode cX10_terrace 122 = .ok (.getfield 106, 3) := by decide +kernel
theorem dX10_terrace_125 : decode cX10_terrace 125 = .ok (.invokevirtual 109, 3) := by decide +kernel
theorem dX10_terrace_128 : decode cX10_terrace 128 = .ok (.ireturn, 1) := by decide +kernel
theorem wd_662 : Cond.methodLink "TaleShares" 89 yX7_gather ∈ k_TB := k_tb 662 (by decide +kernel) rfl
theorem wd_681 : Cond.methodLink "TaleShares" 93 yX4_open ∈ k_TB := k_tb 681 (by decide +kernel) rfl
theorem wd_689 : Cond.methodLink "TaleShares" 96 yX9_make ∈ k_TB := k_tb 689 (by decide +kernel) rfl
theorem wd_707 : Cond.methodLink "TaleShares" 99 yX6_compare ∈ k_TB := k_tb 707 (by decide +kernel) rfl
theorem wd_725 : Cond.methodLink "TaleShares" 103 yX3_begin ∈ k_TB := k_tb 725 (by decide +kernel) rfl
theorem wd_484 : Cond.methodLink "TaleShares" 77 yX5_reads ∈ k_TB := k_tb 484 (by decide +kernel) rfl
theorem wd_658 : Cond.methodLink "TaleShares" 81 yX5_changeFor ∈ k_TB := k_tb 658 (by decide +kernel) rfl
theorem cd_X5_changeFor : k_cardV yX5_changeFor cX5_changeFor 3 (some (.object "TaleShares$Terrace")) 1 := ⟨k_tb 661 (by decide +kernel) rfl, k_tb 659 (by decide +kernel) rfl, k_tb 660 (by decide +kernel) rfl, k_tb 121 (by decide +kernel) rfl, by decide +kernel, by decide +kernel, by decide +kernel, Nat.le_of_ble_eq_true rfl⟩
theorem cd_X5_reads : k_cardV yX5_reads cX5_reads 3 (some .boolean) 1 := ⟨k_tb 487 (by decide +kernel) rfl, k_tb 485 (by decide +kernel) rfl, k_tb 486 (by decide +kernel) rfl, k_tb 121 (by decide +kernel) rfl, by decide +kernel, by decide +kernel, by decide +kernel, Nat.le_of_ble_eq_true rfl⟩
theorem cd_X7_gather : k_cardV yX7_gather cX7_gather 3 none 1 := ⟨k_tb 665 (by decide +kernel) rfl, k_tb 663 (by decide +kernel) rfl, k_tb 664 (by decide +kernel) rfl, k_tb 122 (by decide +kernel) rfl, by decide +kernel, by decide +kernel, by decide +kernel, Nat.le_of_ble_eq_true rfl⟩
theorem cd_X4_open : k_cardV yX4_open cX4_open 2 none 1 := ⟨k_tb 684 (by decide +kernel) rfl, k_tb 682 (by decide +kernel) rfl, k_tb 683 (by decide +kernel) rfl, k_tb 123 (by decide +kernel) rfl, by decide +kernel, by decide +kernel, by decide +kernel, Nat.le_of_ble_eq_true rfl⟩
theorem cd_X9_make : k_cardV yX9_make cX9_make 4 none 1 := ⟨k_tb 692 (by decide +kernel) rfl, k_tb 690 (by decide +kernel) rfl, k_tb 691 (by decide +kernel) rfl, k_tb 124 (by decide +kernel) rfl, by decide +kernel, by decide +kernel, by decide +kernel, Nat.le_of_ble_eq_true rfl⟩
theorem cd_X6_compare : k_cardV yX6_compare cX6_compare 5 none 2 := ⟨k_tb 710 (by decide +kernel) rfl, k_tb 708 (by decide +kernel) rfl, k_tb 709 (by decide +kernel) rfl, k_tb 125 (by decide +kernel) rfl, by decide +kernel, by decide +kernel, by decide +kernel, Nat.le_of_ble_eq_true rfl⟩
theorem cd_X3_begin : k_cardV yX3_begin cX3_begin 3 none 1 := ⟨k_tb 728 (by decide +kernel) rfl, k_tb 726 (by decide +kernel) rfl, k_tb 727 (by decide +kernel) rfl, k_tb 127 (by decide +kernel) rfl, by decide +kernel, by decide +kernel, by decide +kernel, Nat.le_of_ble_eq_true rfl⟩
theorem pt_X_0_8 {p : Program} {l : Launch} {e : Env} {R : Room} {s : State} {m : MethodId} {args : Array Value} {below : List Frame} {meth : Method} {c : Code} {Q : State → Prop} {cc : ByteArray} {nL : Nat} {own : String} {G : k_G} {A : Nat → Prop} {pc : Nat} {lv : List (Nat × Value)} {rest : List Value} {a : Nat → Nat} {index : Nat} {tl : Value} {t t2 : k_St} {x : Int32} (hA : k_Amb p s m args meth c cc nL own G A) (hlink : Cond.fieldLink own index "TaleShares" "standing" "Z" ∈ k_TB) (hz : x = 0 ∨ x = 1) (ht : t2 = k_sI t 0 10 x) (hd : decode cc pc = .ok (.putfield index, 3)) (kk : k_Go p l e R s m args below meth c Q nL G A (k_WX G.2.1 a tl t2) (pc + 3) lv rest) : k_Go p l e R s m args below meth c Q nL G A (k_WX G.2.1 a tl t) pc lv (.int x :: .ref (a 0) :: rest) := by
  subst ht
  exact k_put hA k_in_X10 tyX10 tyX10_ok nmX10 (hc_X_0 G.2.1 a tl t) rfl 8 (by decide) hlink rfl (v := .int x) (k_narZ hz) (k_fitB hz) (Nat.le_of_ble_eq_true rfl) rfl hd kk
def k_CA (l : Launch) (G : k_G) (y : MethodName) (cc : ByteArray) (nL : Nat) (ret : Option FieldType) (L : Nat) (w : va_W) (vals : List Value) (x : Nat) (w' : va_W) : Prop := ∀ sz : Nat, Met l y (.code y cc nL ret :: k_TB) (k_rm L) (k_Pc G w vals sz) (va_Qr (fun (_ : Unit) => True) (fun u b t => b = x ∧ k_B G w w' sz u t) (va_A w sz)) 0 0 (va_A w sz)
def k_QA (G : k_G) (w : va_W) (x : Nat) (w' : va_W) (args : Array Value) (s : State) (below : List Frame) : State → Prop := MQ below (va_Qr (fun (_ : Unit) => True) (fun u b t => b = x ∧ k_B G w w' s.heap.size u t) (va_A w s.heap.size)) args s 0 0 (va_A w s.heap.size)
section KCA
variable {p : Program} {l : Launch} {e : Env} {s : State} {m : MethodId} {args : Array Value} {below : List Frame} {meth : Method} {c : Code} {Q : State → Prop} {cc cc2 : ByteArray} {nL nL2 n L Lc index b q0 ci N : Nat} {own : String} {G : k_G} {A : Nat → Prop} {w w' : va_W} {pc : Nat} {lv : List (Nat × Value)} {rest st As fs : List Value} {y : MethodName} {ret : Option FieldType} {T : u_T}
theorem k_startA {x : Nat} {vals : List Value} (hy : plainName y.cls = true) (hlen : (lg_sl vals).length ≤ nL) (hlv : lv_args 0 vals = lv) (body : ∀ (p : Program) (e : Env) (s : State) (m : MethodId) (args : Array Value) (below : List Frame) (meth : Method) (c : Code), k_Amb p s m args meth c cc nL y.cls G (va_A w s.heap.size) → meth.sig.returnType = ret → k_Go p l e (k_rm L) s m args below meth c (k_QA G w x w' args s below) nL G (va_A w s.heap.size) w 0 lv []) : k_CA l G y cc nL ret L w vals x w' := by
  intro sz
  refine Met.ofW (cc := cc) (maxL := nL) (ret := ret) hy rfl ?_
  intro p e s m args below meth c s₁ B hml hv
  obtain ⟨rfl, hsz, hP, hD0, hE⟩ := hv
  subst hsz
  have hts := atoms_spec (ws := .code y cc nL ret :: k_TB) B.pre
  have hl := lv_entry vals (n := nL) hlen
  rw [lg_entry_eq]
  rw [hlv] at hl
  exact body p e s m _ below meth c ⟨⟨B.exec, B.bytes, hml, findClass_of_methodNamed B.named, fun w hw => hts w (List.mem_cons_of_mem _ hw)⟩, hE, fun q h => Or.inr h, B.notSynchronized⟩ B.returns s.heap [] _ hP hD0.self va_S.rf hl
theorem k_aret {rt : FieldType} {x : Nat} {R : Room} {w0 : va_W} (hA : k_Amb p s m args meth c cc nL own G (va_A w0 s.heap.size)) (hr : meth.sig.returnType = some rt) (hrt : (∃ n, rt = .object n) ∨ ∃ t, rt = .array t) (hd : decode cc pc = .ok (.areturn, 1)) : k_Go p l e R s m args below meth c (k_QA G w0 x w args s below) nL G (va_A w0 s.heap.size) w pc lv [.ref x] := fun H locs ls hP hD hS hl =>
  W.aret hA.1.1 hA.1.2.1 hr hrt (Or.inr ⟨x, rfl⟩) (fun t ht hW => ⟨⟨(), x, rfl, trivial, rfl, by rw [ht]; exact hP, hD⟩, hS.F ht⟩) (fun q hq => hS.2.2 q hq) hd hA.2.2.2
theorem k_callVa {x : Nat} (hA : k_Amb p s m args meth c cc nL own G A) (hM : k_CA l G y cc2 nL2 ret Lc w (.ref b :: As) x w') (hcard : k_cardV y cc2 nL2 ret n) (hlink : Cond.methodLink own index y ∈ k_TB) {C : String} (hq : w[q0]? = some (b, .inr (ci, fs))) (hc : vwCl[ci]? = some (C, T, N)) (hC : C = y.cls) (hL : Lc + 1 ≤ L) (hn : As.length = n) (hst : st = As.reverse ++ .ref b :: rest) (hr : (rest.map fun v => v.category).sum ≤ 8) (hd : decode cc pc = .ok (.invokevirtual index, 3)) (k : k_Go p l e (k_rm L) s m args below meth c Q nL G A w' (pc + 3) lv (.ref x :: rest)) : k_Go p l e (k_rm L) s m args below meth c Q nL G A w pc lv st := fun H locs ls hP hD hS hl =>
  va_callr (va_runV (As := As) (rest := rest) hA.1 (hM H.size) (k_cbV hA hcard hlink hL) ⟨k_blind, k_recv hA hP hq hc hC, (k_pre hA hP hD hS).2⟩ rfl hn hl.1 hst (lv_room hr) hd ⟨Nat.le_refl _, Nat.le_refl _⟩) hS (fun q _ h => k_sub hD hS hA.2.2.1 _ h) (k_sub hD hS hA.2.2.1) (fun u ra t H1 locs1 ht hvm hw hB hz1 hk1 hS1 => by
    obtain ⟨h0, h9, h10⟩ := hB
    rw [h0]
    exact k H1 locs1 ls (by rw [ht] at h9; exact h9) (h10.weaken (fun _ _ _ h => k_sub hD hS hA.2.2.1 _ h)) hS1 hl)
end KCA
theorem m_Re_changeFor (l : Launch) (G : k_G) (a : Nat → Nat) (t : k_St) : k_CA l G yX5_changeFor cX5_changeFor 3 (some (.object "TaleShares$Terrace")) 1 (k_WX G.2.1 a (.ref (a 10)) t) [.ref (a 18), .ref (a 2)] (a 10) (k_WX G.2.1 a (.ref (a 2)) t) := by
  refine k_startA (lv := [(0, .ref (a 18)), (1, .ref (a 2))]) (by decide +kernel) (Nat.le_of_ble_eq_true rfl) rfl ?_
  intro p e s m args below meth c hA hr
  have hA : k_Amb p s m args meth c cX5_changeFor 3 "TaleShares$Reader" G _ := hA
  refine k_aload_n (i := 0) hA dX5_changeFor_0 rfl 0 rfl ?_
  refine gt_X_18_10 hA wd_267 dX5_changeFor_1 ?_
  refine k_astore_n (i := 2) (lv' := [(2, .ref (a 10)), (0, .ref (a 18)), (1, .ref (a 2))]) hA dX5_changeFor_4 rfl (Nat.le_of_ble_eq_true rfl) rfl ?_
  refine k_aload_n (i := 0) hA dX5_changeFor_5 rfl 1 rfl ?_
  refine k_aload_n (i := 1) hA dX5_changeFor_6 rfl 2 rfl ?_
  refine k_put hA k_in_X5 tyX5 tyX5_ok nmX5 (hc_X_18 G.2.1 a (.ref (a 10)) t) rfl 10 (by decide) wd_267 rfl (v := .ref (a 2)) rfl rfl (Nat.le_of_ble_eq_true rfl) (w' := k_WX G.2.1 a (.ref (a 2)) t) rfl dX5_changeFor_7 ?_
  refine k_aload_n (i := 2) hA dX5_changeFor_10 rfl 0 rfl ?_
  exact k_aret hA hr (Or.inl ⟨_, rfl⟩) dX5_changeFor_11
theorem m_X_terrace_53 {p : Program} (l : Launch) {e : Env} {s : State} {m : MethodId} {args : Array Value} {below : List Frame} {meth : Method} {c : Code} (G : k_G) (a : Nat → Nat) (tl : Value) (n : Nat) {w0 : va_W} (hA : k_Amb p s m args meth c cX10_terrace 2 "TaleShares" G (va_A w0 s.heap.size)) (hr : meth.sig.returnType = (some .int)) {t t3 t4 t5 t6 t7 : k_St} (h3 : f_Ta_gather n (k_sI t 0 10 1) = some t3) (h4 : f_Pa_open n t3 = some t4) (h5 : f_Ti_make n t4 = some t5) (h6 : f_Sl_compare n t5 = some t6) (h7 : f_No_begin n t6 = some t7) : k_Go p l e (k_rm 13) s m args below meth c (k_QI G w0 (t7.1 2 2) (k_WX G.2.1 a tl (k_sI t7 0 12 0)) args s below) 2 G (va_A w0 s.heap.size) (k_WX G.2.1 a tl t) 53 [(0, .ref (a 0))] [] := by
  refine k_aload_n (i := 0) hA dX10_terrace_53 rfl 0 rfl ?_
  refine k_iconst hA dX10_terrace_54 kc_i_1 ?_
  refine pt_X_0_8 hA wd_445 (Or.inr rfl) rfl dX10_terrace_55 ?_
  refine k_aload_n (i := 0) hA dX10_terrace_58 rfl 0 rfl ?_
  refine gt_X_0_1 hA wd_438 dX10_terrace_59 ?_
  refine k_aload_n (i := 0) hA dX10_terrace_62 rfl 0 rfl ?_
  refine gt_X_0_7 hA wd_444 dX10_terrace_63 ?_
  refine k_callVv (As := [.ref (a 2)]) (rest := []) hA (m_Ta_gather l G a tl n (k_sI t 0 10 1) h3) cd_X7_gather wd_662 (hc_X_21 G.2.1 a tl (k_sI t 0 10 1)) rfl rfl (Nat.le_of_ble_eq_true rfl) rfl rfl (Nat.le_of_ble_eq_true rfl) dX10_terrace_66 ?_
  refine k_aload_n (i := 0) hA dX10_terrace_69 rfl 0 rfl ?_
  refine gt_X_0_2 hA wd_439 dX10_terrace_70 ?_
  refine k_aload_n (i := 0) hA dX10_terrace_73 rfl 0 rfl ?_
  refine gt_X_0_7 hA wd_444 dX10_terrace_74 ?_
  refine k_callVv (As := [.ref (a 2)]) (rest := []) hA (m_Pa_open l G a tl n t3 h4) cd_X4_open wd_681 (hc_X_24 G.2.1 a tl t3) rfl rfl (Nat.le_of_ble_eq_true rfl) rfl rfl (Nat.le_of_ble_eq_true rfl) dX10_terrace_77 ?_
  refine k_aload_n (i := 0) hA dX10_terrace_80 rfl 0 rfl ?_
  refine gt_X_0_3 hA wd_440 dX10_terrace_81 ?_
  refine k_aload_n (i := 0) hA dX10_terrace_84 rfl 0 rfl ?_
  refine gt_X_0_7 hA wd_444 dX10_terrace_85 ?_
  refine k_callVv (As := [.ref (a 2)]) (rest := []) hA (m_Ti_make l G a tl n t4 h5) cd_X9_make wd_689 (hc_X_27 G.2.1 a tl t4) rfl rfl (Nat.le_of_ble_eq_true rfl) rfl rfl (Nat.le_of_ble_eq_true rfl) dX10_terrace_88 ?_
  refine k_aload_n (i := 0) hA dX10_terrace_91 rfl 0 rfl ?_
  refine gt_X_0_4 hA wd_441 dX10_terrace_92 ?_
  refine k_aload_n (i := 0) hA dX10_terrace_95 rfl 0 rfl ?_
  refine gt_X_0_7 hA wd_444 dX10_terrace_96 ?_
  refine k_aload_n (i := 0) hA dX10_terrace_99 rfl 0 rfl ?_
  refine gt_X_0_1 hA wd_438 dX10_terrace_100 ?_
  refine k_callVv (As := [.ref (a 2), .ref (a 21)]) (rest := []) hA (m_Sl_compare l G a tl n t5 h6) cd_X6_compare wd_707 (hc_X_31 G.2.1 a tl t5) rfl rfl (Nat.le_of_ble_eq_true rfl) rfl rfl (Nat.le_of_ble_eq_true rfl) dX10_terrace_103 ?_
  refine k_aload_n (i := 0) hA dX10_terrace_106 rfl 0 rfl ?_
  refine gt_X_0_6 hA wd_443 dX10_terrace_107 ?_
  refine k_aload_n (i := 0) hA dX10_terrace_110 rfl 0 rfl ?_
  refine gt_X_0_7 hA wd_444 dX10_terrace_111 ?_
  refine k_callVv (As := [.ref (a 2)]) (rest := []) hA (m_No_begin l G a tl n t6 h7) cd_X3_begin wd_725 (hc_X_34 G.2.1 a tl t6) rfl rfl (Nat.le_of_ble_eq_true rfl) rfl rfl (Nat.le_of_ble_eq_true rfl) dX10_terrace_114 ?_
  refine k_aload_n (i := 0) hA dX10_terrace_117 rfl 0 rfl ?_
  refine k_aload_n (i := 0) hA dX10_terrace_118 rfl 0 rfl ?_
  refine gt_X_0_7 hA wd_444 dX10_terrace_119 ?_
  refine gt_X_2_2 hA wd_167 dX10_terrace_122 ?_
  refine k_callVi (As := [.int (t7.1 2 2)]) (rest := []) hA (m_X_answer l G a tl (t7.1 2 2) t7 rfl) cd_X10_answer wd_732 (hc_X_0 G.2.1 a tl t7) rfl rfl (Nat.le_of_ble_eq_true rfl) rfl rfl (Nat.le_of_ble_eq_true rfl) dX10_terrace_125 ?_
  exact k_iret hA hr rfl dX10_terrace_128
theorem k_perm {p : Program} {l : Launch} {e : Env} {R : Room} {s : State} {m : MethodId} {args : Array Value} {below : List Frame} {meth : Method} {c : Code} {Q : State → Prop} {nL : Nat} {G : k_G} {A : Nat → Prop} {w w' : va_W} {pc : Nat} {lv : List (Nat × Value)} {st : List Value} (is : List Nat) (hn : va_nd is = true) (h1 : is.filterMap (fun i => w[i]?) = w') (h2 : is.map (fun i => w[i]?) = w'.map some) (k : k_Go p l e R s m args below meth c Q nL G A w' pc lv st) : k_Go p l e R s m args below meth c Q nL G A w pc lv st := fun H locs ls hP hD hS hl => k H locs ls (hP.sub is h1) (hD.sub is hn h2) hS hl
def sg (i : Nat) : Nat := if 2 ≤ i ∧ i ≤ 9 then i + 8 else if 10 ≤ i ∧ i ≤ 17 then i - 8 else i
def asg (a : Nat → Nat) (i : Nat) : Nat := a (sg i)
def swp (t : k_St) : k_St := (fun o => t.1 (sg o), fun o => t.2 (sg o))
def k_WS (cy : Nat → ClassId) (a : Nat → Nat) (tl : Value) (t : k_St) (v : Value) : va_W := (k_WX cy a tl t).set 0 (a 0, .inr (8, (k_fX0 a tl t).set 7 v))
theorem k_swap1 (cy : Nat → ClassId) (a : Nat → Nat) (tl : Value) (t : k_St) : ([0, 1, 10, 11, 12, 13, 14, 15, 16, 17, 2, 3, 4, 5, 6, 7, 8, 9, 18, 19, 20, 21, 22, 23, 24, 25, 26, 27, 28, 29, 30, 31, 32, 33, 34, 35, 36] : List Nat).filterMap (fun i => (k_WS cy a tl t (.ref (a 10)))[i]?) = k_WX cy (asg a) tl (swp t) := rfl
theorem k_swap2 (cy : Nat → ClassId) (a : Nat → Nat) (tl : Value) (t : k_St) : ([0, 1, 10, 11, 12, 13, 14, 15, 16, 17, 2, 3, 4, 5, 6, 7, 8, 9, 18, 19, 20, 21, 22, 23, 24, 25, 26, 27, 28, 29, 30, 31, 32, 33, 34, 35, 36] : List Nat).map (fun i => (k_WS cy a tl t (.ref (a 10)))[i]?) = (k_WX cy (asg a) tl (swp t)).map some := rfl
theorem m_X_terrace_no (l : Launch) (G : k_G) (a : Nat → Nat) (tl : Value) (n : Nat) (x1 : Int32) (t : k_St) (h : x1 < 0 ∨ t.1 0 11 < x1) : k_CI l G yX10_terrace cX10_terrace 2 (some .int) 13 (k_WX G.2.1 a tl t) [.ref (a 0), .int x1] (-1) (k_WX G.2.1 a tl (k_sI t 0 12 2)) := by
  refine k_startI (lv := [(0, .ref (a 0)), (1, .int x1)]) (by decide +kernel) (Nat.le_of_ble_eq_true rfl) rfl ?_
  intro p e s m args below meth c hA hr
  have hA : k_Amb p s m args meth c cX10_terrace 2 "TaleShares" G _ := hA
  have bad : k_Go p l e (k_rm 13) s m args below meth c (k_QI G (k_WX G.2.1 a tl t) (-1) (k_WX G.2.1 a tl (k_sI t 0 12 2)) args s below) 2 G (va_A (k_WX G.2.1 a tl t) s.heap.size) (k_WX G.2.1 a tl t) 15 [(0, .ref (a 0)), (1, .int x1)] [] := by
    refine k_aload_n (i := 0) hA dX10_terrace_15 rfl 0 rfl ?_
    refine k_iconst hA dX10_terrace_16 kc_i_2 ?_
    refine k_callVi (As := [.int (2 : Int32)]) (rest := []) hA (m_X_refuse l G a tl (2 : Int32) t rfl) cd_X10_refuse wd_480 (hc_X_0 G.2.1 a tl t) rfl rfl (Nat.le_of_ble_eq_true rfl) rfl rfl (Nat.le_of_ble_eq_true rfl) dX10_terrace_17 ?_
    exact k_iret hA hr rfl dX10_terrace_20
  refine k_iload_n (i := 1) hA dX10_terrace_0 rfl 1 rfl ?_
  refine k_if_lt (tgt := 15) hA dX10_terrace_1 rfl (fun hc => bad) (fun hc => ?_)
  refine k_iload_n (i := 1) hA dX10_terrace_4 rfl 1 rfl ?_
  refine k_aload_n (i := 0) hA dX10_terrace_5 rfl 0 rfl ?_
  refine gt_X_0_0 hA wd_437 dX10_terrace_6 ?_
  refine gt_X_18_2 hA wd_258 dX10_terrace_9 ?_
  refine k_icmp_le (tgt := 21) hA dX10_terrace_12 rfl (fun hc2 => ?_) (fun hc2 => bad)
  exfalso
  rcases h with h | h
  · exact hc h
  · exact absurd h (Int32.not_lt.mpr hc2)
theorem m_X_terrace_bad (l : Launch) (G : k_G) (a : Nat → Nat) (n : Nat) (x1 : Int32) (t : k_St) (h1 : ¬ x1 < 0) (h2 : ¬ t.1 0 11 < x1) {t1 : k_St} (hf : f_Re_reads n x1 t = some (false, t1)) : k_CI l G yX10_terrace cX10_terrace 2 (some .int) 13 (k_WX G.2.1 a (.ref (a 10)) t) [.ref (a 0), .int x1] (-1) (k_WX G.2.1 a (.ref (a 10)) (k_sI t1 0 12 4)) := by
  refine k_startI (lv := [(0, .ref (a 0)), (1, .int x1)]) (by decide +kernel) (Nat.le_of_ble_eq_true rfl) rfl ?_
  intro p e s m args below meth c hA hr
  have hA : k_Amb p s m args meth c cX10_terrace 2 "TaleShares" G _ := hA
  refine k_iload_n (i := 1) hA dX10_terrace_0 rfl 1 rfl ?_
  refine k_if_lt (tgt := 15) hA dX10_terrace_1 rfl (fun hc => absurd hc h1) (fun hc => ?_)
  refine k_iload_n (i := 1) hA dX10_terrace_4 rfl 1 rfl ?_
  refine k_aload_n (i := 0) hA dX10_terrace_5 rfl 0 rfl ?_
  refine gt_X_0_0 hA wd_437 dX10_terrace_6 ?_
  refine gt_X_18_2 hA wd_258 dX10_terrace_9 ?_
  refine k_icmp_le (tgt := 21) hA dX10_terrace_12 rfl (fun hc2 => ?_) (fun hc2 => absurd (Int32.not_lt.mp h2) hc2)
  refine k_aload_n (i := 0) hA dX10_terrace_21 rfl 0 rfl ?_
  refine gt_X_0_0 hA wd_437 dX10_terrace_22 ?_
  refine k_iload_n (i := 1) hA dX10_terrace_25 rfl 1 rfl ?_
  refine k_callVi (As := [.int x1]) (rest := []) hA (m_Re_reads l G a n x1 t hf) cd_X5_reads wd_484 (hc_X_18 G.2.1 a (.ref (a 10)) t) rfl rfl (Nat.le_of_ble_eq_true rfl) rfl rfl (Nat.le_of_ble_eq_true rfl) dX10_terrace_26 ?_
  refine k_if_ne (tgt := 38) hA dX10_terrace_29 rfl (fun hc => absurd rfl hc) (fun hc => ?_)
  refine k_aload_n (i := 0) hA dX10_terrace_32 rfl 0 rfl ?_
  refine k_iconst hA dX10_terrace_33 kc_i_4 ?_
  refine k_callVi (As := [.int (4 : Int32)]) (rest := []) hA (m_X_refuse l G a (.ref (a 10)) (4 : Int32) t1 rfl) cd_X10_refuse wd_480 (hc_X_0 G.2.1 a (.ref (a 10)) t1) rfl rfl (Nat.le_of_ble_eq_true rfl) rfl rfl (Nat.le_of_ble_eq_true rfl) dX10_terrace_34 ?_
  exact k_iret hA hr rfl dX10_terrace_37
theorem m_X_terrace_ok (l : Launch) (G : k_G) (a : Nat → Nat) (n : Nat) (x1 : Int32) (t : k_St) (h1 : ¬ x1 < 0) (h2 : ¬ t.1 0 11 < x1) {t1 : k_St} {t3 t4 t5 t6 t7 : k_St} (hf : f_Re_reads n x1 t = some (true, t1)) (h3 : f_Ta_gather n (k_sI (swp t1) 0 10 1) = some t3) (h4 : f_Pa_open n t3 = some t4) (h5 : f_Ti_make n t4 = some t5) (h6 : f_Sl_compare n t5 = some t6) (h7 : f_No_begin n t6 = some t7) : k_CI l G yX10_terrace cX10_terrace 2 (some .int) 13 (k_WX G.2.1 a (.ref (a 10)) t) [.ref (a 0), .int x1] (t7.1 2 2) (k_WX G.2.1 (asg a) (.ref (a 2)) (k_sI t7 0 12 0)) := by
  refine k_startI (lv := [(0, .ref (a 0)), (1, .int x1)]) (by decide +kernel) (Nat.le_of_ble_eq_true rfl) rfl ?_
  intro p e s m args below meth c hA hr
  have hA : k_Amb p s m args meth c cX10_terrace 2 "TaleShares" G _ := hA
  refine k_iload_n (i := 1) hA dX10_terrace_0 rfl 1 rfl ?_
  refine k_if_lt (tgt := 15) hA dX10_terrace_1 rfl (fun hc => absurd hc h1) (fun hc => ?_)
  refine k_iload_n (i := 1) hA dX10_terrace_4 rfl 1 rfl ?_
  refine k_aload_n (i := 0) hA dX10_terrace_5 rfl 0 rfl ?_
  refine gt_X_0_0 hA wd_437 dX10_terrace_6 ?_
  refine gt_X_18_2 hA wd_258 dX10_terrace_9 ?_
  refine k_icmp_le (tgt := 21) hA dX10_terrace_12 rfl (fun hc2 => ?_) (fun hc2 => absurd (Int32.not_lt.mp h2) hc2)
  refine k_aload_n (i := 0) hA dX10_terrace_21 rfl 0 rfl ?_
  refine gt_X_0_0 hA wd_437 dX10_terrace_22 ?_
  refine k_iload_n (i := 1) hA dX10_terrace_25 rfl 1 rfl ?_
  refine k_callVi (As := [.int x1]) (rest := []) hA (m_Re_reads l G a n x1 t hf) cd_X5_reads wd_484 (hc_X_18 G.2.1 a (.ref (a 10)) t) rfl rfl (Nat.le_of_ble_eq_true rfl) rfl rfl (Nat.le_of_ble_eq_true rfl) dX10_terrace_26 ?_
  refine k_if_ne (tgt := 38) hA dX10_terrace_29 rfl (fun hc => ?_) (fun hc => absurd hc (by decide))
  refine k_aload_n (i := 0) hA dX10_terrace_38 rfl 0 rfl ?_
  refine k_aload_n (i := 0) hA dX10_terrace_39 rfl 0 rfl ?_
  refine gt_X_0_0 hA wd_437 dX10_terrace_40 ?_
  refine k_aload_n (i := 0) hA dX10_terrace_43 rfl 0 rfl ?_
  refine gt_X_0_7 hA wd_444 dX10_terrace_44 ?_
  refine k_callVa (As := [.ref (a 2)]) (rest := [.ref (a 0)]) hA (m_Re_changeFor l G a t1) cd_X5_changeFor wd_658 (hc_X_18 G.2.1 a (.ref (a 10)) t1) rfl rfl (Nat.le_of_ble_eq_true rfl) rfl rfl (Nat.le_of_ble_eq_true rfl) dX10_terrace_47 ?_
  refine k_put hA k_in_X10 tyX10 tyX10_ok nmX10 (hc_X_0 G.2.1 a (.ref (a 2)) t1) rfl 7 (by decide) wd_444 rfl (v := .ref (a 10)) rfl rfl (Nat.le_of_ble_eq_true rfl) (w' := k_WS G.2.1 a (.ref (a 2)) t1 (.ref (a 10))) rfl dX10_terrace_50 ?_
  refine k_perm [0, 1, 10, 11, 12, 13, 14, 15, 16, 17, 2, 3, 4, 5, 6, 7, 8, 9, 18, 19, 20, 21, 22, 23, 24, 25, 26, 27, 28, 29, 30, 31, 32, 33, 34, 35, 36] (by decide) (k_swap1 G.2.1 a (.ref (a 2)) t1) (k_swap2 G.2.1 a (.ref (a 2)) t1) ?_
  refine k_pick (lv' := [(0, .ref (a 0))]) [0] rfl ?_
  exact m_X_terrace_53 l G (asg a) (.ref (a 2)) n hA hr h3 h4 h5 h6 h7
