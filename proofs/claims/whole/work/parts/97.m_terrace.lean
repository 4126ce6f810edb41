/-! ===== TaleSharesModel.terrace ===== -/
def k_fMB0 (a : Nat → Nat) (tv rv : Value) (t : k_St) : List Value := [.int (t.1 0 0), .int (t.1 0 1), .int (t.1 0 2), tv, rv, .ref (a 1), .int (t.1 0 6), .int (t.1 0 7), .int (t.1 0 8), .int (t.1 0 9), .int (t.1 0 10), .int (t.1 0 11), .int (t.1 0 12), .int (t.1 0 13), .long (t.2 0 14), .ref (a 2), .ref (a 3), .ref (a 4), .ref (a 5), .int (t.1 0 19), .int (t.1 0 20), .ref (a 6), .int (t.1 0 22), .int (t.1 0 23), .int (t.1 0 24), .int (t.1 0 25), .ref (a 7), .ref (a 8), .ref (a 9), .ref (a 10), .ref (a 11), .int (t.1 0 31), .int (t.1 0 32), .ref (a 12), .ref (a 13), .ref (a 14), .ref (a 15), .int (t.1 0 37), .ref (a 16), .ref (a 17), .int (t.1 0 40), .int (t.1 0 41), .int (t.1 0 42)]
def k_WB (cy : Nat → ClassId) (a : Nat → Nat) (tv rv : Value) (t : k_St) : va_W := [(a 0, .inr (10, k_fMB0 a tv rv t)), (a 1, .inl (cy 0, 900, .inl (t.1 1))), (a 2, .inl (cy 1, 6, .inl (t.1 2))), (a 3, .inl (cy 1, 6, .inl (t.1 3))), (a 4, .inl (cy 1, 96, .inl (t.1 4))), (a 5, .inl (cy 1, 18, .inl (t.1 5))), (a 6, .inl (cy 1, 9, .inl (t.1 6))), (a 7, .inl (cy 1, 8, .inl (t.1 7))), (a 8, .inl (cy 1, 130, .inl (t.1 8))), (a 9, .inl (cy 1, 5, .inl (t.1 9))), (a 10, .inl (cy 1, 5, .inl (t.1 10))), (a 11, .inl (cy 1, 5, .inl (t.1 11))), (a 12, .inl (cy 1, 5, .inl (t.1 12))), (a 13, .inl (cy 1, 5, .inl (t.1 13))), (a 14, .inl (cy 1, 5, .inl (t.1 14))), (a 15, .inl (cy 1, 5, .inl (t.1 15))), (a 16, .inl (cy 1, 63, .inl (t.1 16))), (a 17, .inl (cy 1, 8, .inl (t.1 17)))]
def k_WO (cy : Nat → ClassId) (a : Nat → Nat) (t : k_St) : va_W := [(a 18, .inr (9, k_fMT18 a .null t)), (a 19, .inl (cy 1, 8, .inl (t.1 19))), (a 20, .inl (cy 1, 8, .inl (t.1 20))), (a 21, .inl (cy 1, 5, .inl (t.1 21))), (a 22, .inl (cy 1, 5, .inl (t.1 22))), (a 23, .inl (cy 1, 5, .inl (t.1 23))), (a 24, .inl (cy 1, 5, .inl (t.1 24))), (a 25, .inl (cy 1, 6, .inl (t.1 25))), (a 26, .inl (cy 2, 13, .inr (.inl (t.2 26)))), (a 27, .inl (cy 1, 13, .inl (t.1 27))), (a 28, .inl (cy 1, 13, .inl (t.1 28)))]
theorem k_WN_B (cy : Nat → ClassId) (a : Nat → Nat) (rv : Value) (t : k_St) : k_WN cy a rv t = k_WB cy a .null rv t := rfl
theorem k_WT_B (cy : Nat → ClassId) (a : Nat → Nat) (rv : Value) (t : k_St) : k_WT cy a rv t = k_WB cy a (.ref (a 18)) rv t ++ k_WO cy a t := rfl
theorem k_WR_B (cy : Nat → ClassId) (a : Nat → Nat) (tv : Value) (t : k_St) : k_WR cy a tv t = k_WB cy a tv (.ref (a 18)) t ++ k_WO cy a t := rfl
def frs (t : k_St) : k_St := (fun o k => if 18 ≤ o then (if o = 18 ∧ k = 0 then -1 else 0) else t.1 o k, fun o k => if 18 ≤ o then 0 else t.2 o k)
def ext (a : Nat → Nat) (l : List Nat) : Nat → Nat := fun i => if i < 18 then a i else l.getD (i - 18) 0
section KC0
variable {cells slots : Nat} {p : Program} {l : Launch} {e : Env} {R rm : Room} {s : State} {m : MethodId} {args : Array Value} {below : List Frame} {meth : Method} {c : Code} {Q : State → Prop} {cc : ByteArray} {nL : Nat} {own : String} {G : k_G} {A : Nat → Prop} {wc wc' : va_W} {pc : Nat} {lv lv' : List (Nat × Value)} {rest st : List Value}
variable {y : MethodName} {cc2 : ByteArray} {nL2 index n Lc b q0 ci N : Nat} {ret : Option FieldType} {As fs : List Value} {T : u_T}
theorem ka_callVi0 {r : Int32} (hA : k_Amb p s m args meth c cc nL own G A) (hM : k_CI l G y cc2 nL2 ret Lc wc (.ref b :: As) r wc') (hcard : k_cardV y cc2 nL2 ret n) (hlink : Cond.methodLink own index y ∈ k_TB) {C : String} (hq : wc[q0]? = some (b, .inr (ci, fs))) (hc : vwCl[ci]? = some (C, T, N)) (hC : C = y.cls) (hL : k_fit nL2 (k_rm Lc) R) (hcs : cells ≤ R.cells ∧ slots ≤ R.slots) (hn : As.length = n) (hst : st = As.reverse ++ .ref b :: rest) (hr : (rest.map fun v => v.category).sum ≤ 8) (hd : decode cc pc = .ok (.invokevirtual index, 3)) (k : k_GoA p l e R s m args below meth c Q nL G A cells slots wc' (pc + 3) lv (.int r :: rest)) : k_GoA p l e R s m args below meth c Q nL G A cells slots wc pc lv st := by
  have h := ka_callVi (w1 := []) (w2 := []) hA hM hcard hlink hq hc hC hL hcs hn hst hr hd (by rw [List.nil_append, List.append_nil]; exact k)
  rw [List.nil_append, List.append_nil] at h
  exact h
theorem ka_callVv0 (hA : k_Amb p s m args meth c cc nL own G A) (hM : k_CV l G y cc2 nL2 ret Lc wc (.ref b :: As) wc') (hcard : k_cardV y cc2 nL2 ret n) (hlink : Cond.methodLink own index y ∈ k_TB) {C : String} (hq : wc[q0]? = some (b, .inr (ci, fs))) (hc : vwCl[ci]? = some (C, T, N)) (hC : C = y.cls) (hL : k_fit nL2 (k_rm Lc) R) (hcs : cells ≤ R.cells ∧ slots ≤ R.slots) (hn : As.length = n) (hst : st = As.reverse ++ .ref b :: rest) (hr : (rest.map fun v => v.category).sum ≤ 8) (hd : decode cc pc = .ok (.invokevirtual index, 3)) (k : k_GoA p l e R s m args below meth c Q nL G A cells slots wc' (pc + 3) lv rest) : k_GoA p l e R s m args below meth c Q nL G A cells slots wc pc lv st := by
  have h := ka_callVv (w1 := []) (w2 := []) hA hM hcard hlink hq hc hC hL hcs hn hst hr hd (by rw [List.nil_append, List.append_nil]; exact k)
  rw [List.nil_append, List.append_nil] at h
  exact h
end KC0
theorem dX12_terrace_0 : decode cX12_terrace 0 = .ok (.aload_n 0, 1) := by decide +kernel
theorem dX12_terrace_1 : decode cX12_terrace 1 = .ok (.iconst 0, 1) := by decide +kernel
theorem dX12_terrace_2 : decode cX12_terrace 2 = .ok (.putfield 66, 3) := by decide +kernel
theorem dX12_terrace_5 : decode cX12_terrace 5 = .ok (.iload_n 1, 1) := by decide +kernel
theorem dX12_terrace_6 : decode cX12_terrace 6 = .ok (.ifCond .lt 11, 3) := by decide +kernel
theorem dX12_terrace_9 : decode cX12_terrace 9 = .ok (.iload_n 1, 1) := by decide +kernel
theorem dX12_terrace_10 : decode cX12_terrace 10 = .ok (.aload_n 0, 1) := by decide +kernel
theorem dX12_terrace_11 : decode cX12_terrace 11 = .ok (.getfield 304, 3) := by decide +kernel
theorem dX12_terrace_14 : decode cX12_terrace 14 = .ok (.if_icmp .le 9, 3) := by decide +kernel
theorem dX12_terrace_17 : decode cX12_terrace 17 = .ok (.aload_n 0, 1) := by decide +kernel
theorem dX12_terrace_18 : decode cX12_terrace 18 = .ok (.iconst 2, 1) := by decide +kernel
theorem dX12_terrace_19 : decode cX12_terrace 19 = .ok (.invokevirtual 72, 3) := by decide +kernel
theorem dX12_terrace_22 : decode cX12_terrace 22 = .ok (.ireturn, 1) := by decide +kernel
theorem dX12_terrace_23 : decode cX12_terrace 23 = .ok (.aload_n 0, 1) := by decide +kernel
theorem dX12_terrace_24 : decode cX12_terrace 24 = .ok (.iload_n 1, 1) := by decide +kernel
theorem dX12_terrace_25 : decode cX12_terrace 25 = .ok (.putfield 83, 3) := by decide +kernel
theorem dX12_terrace_28 : decode cX12_terrace 28 = .ok (.aload_n 0, 1) := by decide +kernel
theorem dX12_terrace_29 : decode cX12_terrace 29 = .ok (.iconst 0, 1) := by decide +kernel
theorem dX12_terrace_30 : decode cX12_terrace 30 = .ok (.putfield 304, 3) := by decide +kernel
theorem dX12_terrace_33 : decode cX12_terrace 33 = .ok (.aload_n 0, 1) := by decide +kernel
theorem dX12_terrace_34 : decode cX12_terrace 34 = .ok (.iconst 0, 1) := by decide +kernel
theorem dX12_terrace_35 : decode cX12_terrace 35 = .ok (.putfield 101, 3) := by decide +kernel
theorem dX12_terrace_38 : decode cX12_terrace 38 = .ok (.aload_n 0, 1) := by decide +kernel
theorem dX12_terrace_39 : decode cX12_terrace 39 = .ok (.iconst 0, 1) := by decide +kernel
theorem dX12_terrace_40 : decode cX12_terrace 40 = .ok (.putfield 124, 3) := by decide +kernel
theorem dX12_terrace_43 : decode cX12_terrace 43 = .ok (.aload_n 0, 1) := by decide +kernel
theorem dX12_terrace_44 : decode cX12_terrace 44 = .ok (.new 176, 3) := by decide +kernel
theorem dX12_terrace_47 : decode cX12_terrace 47 = .ok (.dup, 1) := by decide +kernel
theorem dX12_terrace_48 : decode cX12_terrace 48 = .ok (.invokespecial 307, 3) := by decide +kernel
theorem dX12_terrace_51 : decode cX12_terrace 51 = .ok (.putfield 171, 3) := by decide +kernel
theorem dX12_terrace_54 : decode cX12_terrace 54 = .ok (.aload_n 0, 1) := by decide +kernel
theorem dX12_terrace_55 : decode cX12_terrace 55 = .ok (.iconst 0, 1) := by decide +kernel
theorem dX12_terrace_56 : decode cX12_terrace 56 = .ok (.putfield 98, 3) := by decide +kernel
theorem dX12_terrace_59 : decode cX12_terrace 59 = .ok (.aload_n 0, 1) := by decide +kernel
theorem dX12_terrace_60 : decode cX12_terrace 60 = .ok (.invokevirtual 134, 3) := by decide +kernel
theorem dX12_terrace_63 : decode cX12_terrace 63 = .ok (.aload_n 0, 1) := by decide +kernel
theorem dX12_terrace_64 : decode cX12_terrace 64 = .ok (.invokevirtual 308, 3) := by decide +kernel
theorem dX12_terrace_67 : decode cX12_terrace 67 = .ok (.aload_n 0, 1) := by decide +kernel
theorem dX12_terrace_68 : decode cX12_terrace 68 = .ok (.getfield 124, 3) := by decide +kernel
theorem dX12_terrace_71 : decode cX12_terrace 71 = .ok (.ifCond .le 18, 3) := by decide +kernel
theorem dX12_terrace_74 : decode cX12_terrace 74 = .ok (.aload_n 0, 1) := by decide +kernel
theorem dX12_terrace_75 : decode cX12_terrace 75 = .ok (.iconst 4, 1) := by decide +kernel
theorem dX12_terrace_76 : decode cX12_terrace 76 = .ok (.putfield 69, 3) := by decide +kernel
theorem dX12_terrace_79 : decode cX12_terrace 79 = .ok (.aload_n 0, 1) := by decide +kernel
theorem dX12_terrace_80 : decode cX12_terrace 80 = .ok (.aload_n 0, 1) := by decide +kernel
theorem dX12_terrace_81 : decode cX12_terrace 81 = .ok (.getfield 127, 3) := by decide +kernel
theorem dX12_terrace_84 : decode cX12_terrace 84 = .ok (.putfield 9, 3) := by decide +kernel
theorem dX12_terrace_87 : decode cX12_terrace 87 = .ok (.iconst (-1), 1) := by decide +kernel
theorem dX12_terrace_88 : decode cX12_terrace 88 = .ok (.ireturn, 1) := by decide +kernel
theorem dX12_terrace_89 : decode cX12_terrace 89 = .ok (.aload_n 0, 1) := by decide +kernel
theorem dX12_terrace_90 : decode cX12_terrace 90 = .ok (.aload_n 0, 1) := by decide +kernel
theorem dX12_terrace_91 : decode cX12_terrace 91 = .ok (.getfield 171, 3) := by decide +kernel
theorem dX12_terrace_94 : decode cX12_terrace 94 = .ok (.putfield 311, 3) := by decide +kernel
theorem dX12_terrace_97 : decode cX12_terrace 97 = .ok (.iconst 0, 1) := by decide +kernel
theorem dX12_terrace_98 : decode cX12_terrace 98 = .ok (.istore_n 2, 1) := by decide +kernel
theorem dX12_terrace_99 : decode cX12_terrace 99 = .ok (.iload_n 2, 1) := by decide +kernel
theorem dX12_terrace_100 : decode cX12_terrace 100 = .ok (.bipush 6, 2) := by decide +kernel
theorem dX12_terrace_102 : decode cX12_terrace 102 = .ok (.if_icmp .ge 16, 3) := by decide +kernel
theorem dX12_terrace_105 : decode cX12_terrace 105 = .ok (.aload_n 0, 1) := by decide +kernel
theorem dX12_terrace_106 : decode cX12_terrace 106 = .ok (.getfield 17, 3) := by decide +kernel
theorem dX12_terrace_109 : decode cX12_terrace 109 = .ok (.iload_n 2, 1) := by decide +kernel
theorem dX12_terrace_110 : decode cX12_terrace 110 = .ok (.iconst 0, 1) := by decide +kernel
theorem dX12_terrace_111 : decode cX12_terrace 111 = .ok (.iastore, 1) := by decide +kernel
theorem dX12_terrace_112 : decode cX12_terrace 112 = .ok (.iinc 2 1, 3) := by decide +kernel
theorem dX12_terrace_115 : decode cX12_terrace 115 = .ok (.goto (-16), 3) := by decide +kernel
theorem dX12_terrace_118 : decode cX12_terrace 118 = .ok (.iconst 0, 1) := by decide +kernel
theorem dX12_terrace_119 : decode cX12_terrace 119 = .ok (.istore_n 2, 1) := by decide +kernel
theorem dX12_terrace_120 : decode cX12_terrace 120 = .ok (.iload_n 2, 1) := by decide +kernel
theorem dX12_terrace_121 : decode cX12_terrace 121 = .ok (.aload_n 0, 1) := by decide +kernel
theorem dX12_terrace_122 : decode cX12_terrace 122 = .ok (.getfield 311, 3) := by decide +kernel
theorem dX12_terrace_125 : decode cX12_terrace 125 = .ok (.getfield 277, 3) := by decide +kernel
theorem dX12_terrace_128 : decode cX12_terrace 128 = .ok (.if_icmp .ge 24, 3) := by decide +kernel
theorem dX12_terrace_131 : decode cX12_terrace 131 = .ok (.aload_n 0, 1) := by decide +kernel
theorem dX12_terrace_132 : decode cX12_terrace 132 = .ok (.getfield 17, 3) := by decide +kernel
theorem dX12_terrace_135 : decode cX12_terrace 135 = .ok (.iload_n 2, 1) := by decide +kernel
theorem dX12_terrace_136 : decode cX12_terrace 136 = .ok (.aload_n 0, 1) := by decide +kernel
theorem dX12_terrace_137 : decode cX12_terrace 137 = .ok (.getfield 311, 3) := by decide +kernel
theorem dX12_terrace_140 : decode cX12_terrace 140 = .ok (.getfield 294, 3) := by decide +kernel
theorem dX12_terrace_143 : decode cX12_terrace 143 = .ok (.iload_n 2, 1) := by decide +kernel
theorem dX12_terrace_144 : decode cX12_terrace 144 = .ok (.iaload, 1) := by decide +kernel
theorem dX12_terrace_145 : decode cX12_terrace 145 = .ok (.iastore, 1) := by decide +kernel
theorem dX12_terrace_146 : decode cX12_terrace 146 = .ok (.iinc 2 1, 3) := by decide +kernel
theorem dX12_terrace_149 : decode cX12_terrace 149 = .ok (.goto (-29), 3) := by decide +kernel
theorem dX12_terrace_152 : decode cX12_terrace 152 = .ok (.aload_n 0, 1) := by decide +kernel
theorem dX12_terrace_153 : decode cX12_terrace 153 = .ok (.iconst 0, 1) := by decide +kernel
theorem dX12_terrace_154 : decode cX12_terrace 154 = .ok (.putfield 314, 3) := by decide +kernel
theorem dX12_terrace_157 : decode cX12_terrace 157 = .ok (.aload_n 0, 1) := by decide +kernel
theorem dX12_terrace_158 : decode cX12_terrace 158 = .ok (.iconst 0, 1) := by decide +kernel
theorem dX12_terrace_159 : decode cX12_terrace 159 = .ok (.putfield 317, 3) := by decide +kernel
theorem dX12_terrace_162 : decode cX12_terrace 162 = .ok (.aload_n 0, 1) := by decide +kernel
theorem dX12_terrace_163 : decode cX12_terrace 163 = .ok (.aload_n 0, 1) := by decide +kernel
theorem dX12_terrace_164 : decode cX12_terrace 164 = .ok (.getfield 311, 3) := by decide +kernel
theorem dX12_terrace_167 : decode cX12_terrace 167 = .ok (.getfield 210, 3) := by decide +kernel
theorem dX12_terrace_170 : decode cX12_terrace 170 = .ok (.invokevirtual 76, 3) := by decide +kernel
theorem dX12_terrace_173 : decode cX12_terrace 173 = .ok (.ireturn, 1) := by decide +kernel
theorem wd_1394 : Cond.classLink "TaleSharesModel" 176 "TaleSharesModel$Terrace" ∈ k_TB := k_tb 1394 (by decide +kernel) rfl
theorem wd_1395 : Cond.instantiable "TaleSharesModel$Terrace" 19 ∈ k_TB := k_tb 1395 (by decide +kernel) rfl
theorem wd_135 : Cond.initialized "TaleSharesModel$Terrace" ∈ k_TB := k_tb 135 (by decide +kernel) rfl
theorem wd_1486 : Cond.methodLink "TaleSharesModel" 308 yX12_readAll ∈ k_TB := k_tb 1486 (by decide +kernel) rfl
theorem cd_X12_readAll : k_cardV yX12_readAll cX12_readAll 2 none 0 := ⟨k_tb 1489 (by decide +kernel) rfl, k_tb 1488 (by decide +kernel) rfl, k_tb 55 (by decide +kernel) rfl, k_tb 128 (by decide +kernel) rfl, by decide +kernel, by decide +kernel, by decide +kernel, Nat.le_of_ble_eq_true rfl⟩
theorem nm_RX12_307 : ("TaleSharesModel", 307, yX11_init, "TaleSharesModel") ∈ k_nM := by decide
theorem hc_MB_0 (cy : Nat → ClassId) (a : Nat → Nat) (tv rv : Value) (t : k_St) : (k_WB cy a tv rv t)[0]? = some (a 0, .inr (10, k_fMB0 a tv rv t)) := rfl
theorem pt_MB_0_1 {p : Program} {l : Launch} {e : Env} {R : Room} {s : State} {m : MethodId} {args : Array Value} {below : List Frame} {meth : Method} {c : Code} {Q : State → Prop} {cc : ByteArray} {nL : Nat} {own : String} {G : k_G} {A : Nat → Prop} {pc : Nat} {lv : List (Nat × Value)} {rest : List Value} {a : Nat → Nat} {index : Nat} {tv rv : Value} {t t2 : k_St} {x : Int32} (hA : k_Amb p s m args meth c cc nL own G A) (hlink : Cond.fieldLink own index "TaleSharesModel" "trouble" "I" ∈ k_TB) (ht : t2 = k_sI t 0 1 x) (hd : decode cc pc = .ok (.putfield index, 3)) (kk : k_Go p l e R s m args below meth c Q nL G A (k_WB G.2.1 a tv rv t2) (pc + 3) lv rest) : k_Go p l e R s m args below meth c Q nL G A (k_WB G.2.1 a tv rv t) pc lv (.int x :: .ref (a 0) :: rest) := by
  subst ht
  exact k_put hA k_in_X12 tyX12 tyX12_ok nmX12 (hc_MB_0 G.2.1 a tv rv t) rfl 1 (by decide) hlink rfl (v := .int x) rfl rfl (Nat.le_of_ble_eq_true rfl) rfl hd kk
theorem pt_MB_0_2 {p : Program} {l : Launch} {e : Env} {R : Room} {s : State} {m : MethodId} {args : Array Value} {below : List Frame} {meth : Method} {c : Code} {Q : State → Prop} {cc : ByteArray} {nL : Nat} {own : String} {G : k_G} {A : Nat → Prop} {pc : Nat} {lv : List (Nat × Value)} {rest : List Value} {a : Nat → Nat} {index : Nat} {tv rv : Value} {t t2 : k_St} {x : Int32} (hA : k_Amb p s m args meth c cc nL own G A) (hlink : Cond.fieldLink own index "TaleSharesModel" "where" "I" ∈ k_TB) (ht : t2 = k_sI t 0 2 x) (hd : decode cc pc = .ok (.putfield index, 3)) (kk : k_Go p l e R s m args below meth c Q nL G A (k_WB G.2.1 a tv rv t2) (pc + 3) lv rest) : k_Go p l e R s m args below meth c Q nL G A (k_WB G.2.1 a tv rv t) pc lv (.int x :: .ref (a 0) :: rest) := by
  subst ht
  exact k_put hA k_in_X12 tyX12 tyX12_ok nmX12 (hc_MB_0 G.2.1 a tv rv t) rfl 2 (by decide) hlink rfl (v := .int x) rfl rfl (Nat.le_of_ble_eq_true rfl) rfl hd kk
theorem gt_MT_18_14N {p : Program} {l : Launch} {e : Env} {R : Room} {s : State} {m : MethodId} {args : Array Value} {below : List Frame} {meth : Method} {c : Code} {Q : State → Prop} {cc : ByteArray} {nL : Nat} {own : String} {G : k_G} {A : Nat → Prop} {pc : Nat} {lv : List (Nat × Value)} {rest : List Value} {a : Nat → Nat} {index : Nat} {rv : Value} {t : k_St} (hA : k_Amb p s m args meth c cc nL own G A) (hown : own = "TaleSharesModel") (hlink : (index, "hears", "[I") ∈ k_nF) (hd : decode cc pc = .ok (.getfield index, 3)) (kk : k_Go p l e R s m args below meth c Q nL G A (k_WT G.2.1 a rv t) (pc + 3) lv (.ref (a 24) :: rest)) : k_Go p l e R s m args below meth c Q nL G A (k_WT G.2.1 a rv t) pc lv (.ref (a 18) :: rest) := k_getN hA k_in_X11 (hc_MT_18 G.2.1 a rv t) rfl 14 (by decide) ⟨hown, rfl⟩ hlink (v := .ref (a 24)) rfl hd kk
theorem hc_MT_24 (cy : Nat → ClassId) (a : Nat → Nat) (rv : Value) (t : k_St) : (k_WT cy a rv t)[24]? = some (a 24, .inl (cy 1, 5, .inl (t.1 24))) := rfl
theorem ld_MT_24 {p : Program} {l : Launch} {e : Env} {R : Room} {s : State} {m : MethodId} {args : Array Value} {below : List Frame} {meth : Method} {c : Code} {Q : State → Prop} {cc : ByteArray} {nL : Nat} {own : String} {G : k_G} {A : Nat → Prop} {pc : Nat} {lv : List (Nat × Value)} {rest : List Value} {a : Nat → Nat} {rv : Value} {t : k_St} {i : Int32} (hA : k_Amb p s m args meth c cc nL own G A) (hin : k_in i 5) (hd : decode cc pc = .ok (.iaload, 1)) (kk : k_Go p l e R s m args below meth c Q nL G A (k_WT G.2.1 a rv t) (pc + 1) lv (.int (t.1 24 i.toNatClampNeg) :: rest)) : k_Go p l e R s m args below meth c Q nL G A (k_WT G.2.1 a rv t) pc lv (.int i :: .ref (a 24) :: rest) := k_iald hA (hc_MT_24 G.2.1 a rv t) hin hd kk
theorem pt_MB_0_0 {p : Program} {l : Launch} {e : Env} {R : Room} {s : State} {m : MethodId} {args : Array Value} {below : List Frame} {meth : Method} {c : Code} {Q : State → Prop} {cc : ByteArray} {nL : Nat} {own : String} {G : k_G} {A : Nat → Prop} {pc : Nat} {lv : List (Nat × Value)} {rest : List Value} {a : Nat → Nat} {index : Nat} {tv rv : Value} {t t2 : k_St} {x : Int32} (hA : k_Amb p s m args meth c cc nL own G A) (hlink : Cond.fieldLink own index "TaleSharesModel" "thrown" "I" ∈ k_TB) (ht : t2 = k_sI t 0 0 x) (hd : decode cc pc = .ok (.putfield index, 3)) (kk : k_Go p l e R s m args below meth c Q nL G A (k_WB G.2.1 a tv rv t2) (pc + 3) lv rest) : k_Go p l e R s m args below meth c Q nL G A (k_WB G.2.1 a tv rv t) pc lv (.int x :: .ref (a 0) :: rest) := by
  subst ht
  exact k_put hA k_in_X12 tyX12 tyX12_ok nmX12 (hc_MB_0 G.2.1 a tv rv t) rfl 0 (by decide) hlink rfl (v := .int x) rfl rfl (Nat.le_of_ble_eq_true rfl) rfl hd kk
theorem gt_MB_0_6 {p : Program} {l : Launch} {e : Env} {R : Room} {s : State} {m : MethodId} {args : Array Value} {below : List Frame} {meth : Method} {c : Code} {Q : State → Prop} {cc : ByteArray} {nL : Nat} {own : String} {G : k_G} {A : Nat → Prop} {pc : Nat} {lv : List (Nat × Value)} {rest : List Value} {a : Nat → Nat} {index : Nat} {tv rv : Value} {t : k_St} (hA : k_Amb p s m args meth c cc nL own G A) (hlink : Cond.fieldLink own index "TaleSharesModel" "taped" "I" ∈ k_TB) (hd : decode cc pc = .ok (.getfield index, 3)) (kk : k_Go p l e R s m args below meth c Q nL G A (k_WB G.2.1 a tv rv t) (pc + 3) lv (.int (t.1 0 6) :: rest)) : k_Go p l e R s m args below meth c Q nL G A (k_WB G.2.1 a tv rv t) pc lv (.ref (a 0) :: rest) := k_get (ref := "") hA k_in_X12 (hc_MB_0 G.2.1 a tv rv t) rfl 6 (by decide) hlink (v := .int (t.1 0 6)) rfl hd kk
theorem pt_MB_0_7 {p : Program} {l : Launch} {e : Env} {R : Room} {s : State} {m : MethodId} {args : Array Value} {below : List Frame} {meth : Method} {c : Code} {Q : State → Prop} {cc : ByteArray} {nL : Nat} {own : String} {G : k_G} {A : Nat → Prop} {pc : Nat} {lv : List (Nat × Value)} {rest : List Value} {a : Nat → Nat} {index : Nat} {tv rv : Value} {t t2 : k_St} {x : Int32} (hA : k_Amb p s m args meth c cc nL own G A) (hlink : Cond.fieldLink own index "TaleSharesModel" "size" "I" ∈ k_TB) (ht : t2 = k_sI t 0 7 x) (hd : decode cc pc = .ok (.putfield index, 3)) (kk : k_Go p l e R s m args below meth c Q nL G A (k_WB G.2.1 a tv rv t2) (pc + 3) lv rest) : k_Go p l e R s m args below meth c Q nL G A (k_WB G.2.1 a tv rv t) pc lv (.int x :: .ref (a 0) :: rest) := by
  subst ht
  exact k_put hA k_in_X12 tyX12 tyX12_ok nmX12 (hc_MB_0 G.2.1 a tv rv t) rfl 7 (by decide) hlink rfl (v := .int x) rfl rfl (Nat.le_of_ble_eq_true rfl) rfl hd kk
theorem pt_MB_0_6 {p : Program} {l : Launch} {e : Env} {R : Room} {s : State} {m : MethodId} {args : Array Value} {below : List Frame} {meth : Method} {c : Code} {Q : State → Prop} {cc : ByteArray} {nL : Nat} {own : String} {G : k_G} {A : Nat → Prop} {pc : Nat} {lv : List (Nat × Value)} {rest : List Value} {a : Nat → Nat} {index : Nat} {tv rv : Value} {t t2 : k_St} {x : Int32} (hA : k_Amb p s m args meth c cc nL own G A) (hlink : Cond.fieldLink own index "TaleSharesModel" "taped" "I" ∈ k_TB) (ht : t2 = k_sI t 0 6 x) (hd : decode cc pc = .ok (.putfield index, 3)) (kk : k_Go p l e R s m args below meth c Q nL G A (k_WB G.2.1 a tv rv t2) (pc + 3) lv rest) : k_Go p l e R s m args below meth c Q nL G A (k_WB G.2.1 a tv rv t) pc lv (.int x :: .ref (a 0) :: rest) := by
  subst ht
  exact k_put hA k_in_X12 tyX12 tyX12_ok nmX12 (hc_MB_0 G.2.1 a tv rv t) rfl 6 (by decide) hlink rfl (v := .int x) rfl rfl (Nat.le_of_ble_eq_true rfl) rfl hd kk
theorem pt_MB_0_8 {p : Program} {l : Launch} {e : Env} {R : Room} {s : State} {m : MethodId} {args : Array Value} {below : List Frame} {meth : Method} {c : Code} {Q : State → Prop} {cc : ByteArray} {nL : Nat} {own : String} {G : k_G} {A : Nat → Prop} {pc : Nat} {lv : List (Nat × Value)} {rest : List Value} {a : Nat → Nat} {index : Nat} {tv rv : Value} {t t2 : k_St} {x : Int32} (hA : k_Amb p s m args meth c cc nL own G A) (hlink : Cond.fieldLink own index "TaleSharesModel" "spot" "I" ∈ k_TB) (ht : t2 = k_sI t 0 8 x) (hd : decode cc pc = .ok (.putfield index, 3)) (kk : k_Go p l e R s m args below meth c Q nL G A (k_WB G.2.1 a tv rv t2) (pc + 3) lv rest) : k_Go p l e R s m args below meth c Q nL G A (k_WB G.2.1 a tv rv t) pc lv (.int x :: .ref (a 0) :: rest) := by
  subst ht
  exact k_put hA k_in_X12 tyX12 tyX12_ok nmX12 (hc_MB_0 G.2.1 a tv rv t) rfl 8 (by decide) hlink rfl (v := .int x) rfl rfl (Nat.le_of_ble_eq_true rfl) rfl hd kk
theorem pt_MB_0_12 {p : Program} {l : Launch} {e : Env} {R : Room} {s : State} {m : MethodId} {args : Array Value} {below : List Frame} {meth : Method} {c : Code} {Q : State → Prop} {cc : ByteArray} {nL : Nat} {own : String} {G : k_G} {A : Nat → Prop} {pc : Nat} {lv : List (Nat × Value)} {rest : List Value} {a : Nat → Nat} {index : Nat} {tv rv : Value} {t t2 : k_St} {x : Int32} (hA : k_Amb p s m args meth c cc nL own G A) (hlink : Cond.fieldLink own index "TaleSharesModel" "fault" "I" ∈ k_TB) (ht : t2 = k_sI t 0 12 x) (hd : decode cc pc = .ok (.putfield index, 3)) (kk : k_Go p l e R s m args below meth c Q nL G A (k_WB G.2.1 a tv rv t2) (pc + 3) lv rest) : k_Go p l e R s m args below meth c Q nL G A (k_WB G.2.1 a tv rv t) pc lv (.int x :: .ref (a 0) :: rest) := by
  subst ht
  exact k_put hA k_in_X12 tyX12 tyX12_ok nmX12 (hc_MB_0 G.2.1 a tv rv t) rfl 12 (by decide) hlink rfl (v := .int x) rfl rfl (Nat.le_of_ble_eq_true rfl) rfl hd kk
theorem gt_MR_0_12 {p : Program} {l : Launch} {e : Env} {R : Room} {s : State} {m : MethodId} {args : Array Value} {below : List Frame} {meth : Method} {c : Code} {Q : State → Prop} {cc : ByteArray} {nL : Nat} {own : String} {G : k_G} {A : Nat → Prop} {pc : Nat} {lv : List (Nat × Value)} {rest : List Value} {a : Nat → Nat} {index : Nat} {tv : Value} {t : k_St} (hA : k_Amb p s m args meth c cc nL own G A) (hlink : Cond.fieldLink own index "TaleSharesModel" "fault" "I" ∈ k_TB) (hd : decode cc pc = .ok (.getfield index, 3)) (kk : k_Go p l e R s m args below meth c Q nL G A (k_WR G.2.1 a tv t) (pc + 3) lv (.int (t.1 0 12) :: rest)) : k_Go p l e R s m args below meth c Q nL G A (k_WR G.2.1 a tv t) pc lv (.ref (a 0) :: rest) := k_get (ref := "") hA k_in_X12 (hc_MR_0 G.2.1 a tv t) rfl 12 (by decide) hlink (v := .int (t.1 0 12)) rfl hd kk
theorem pt_MR_0_1 {p : Program} {l : Launch} {e : Env} {R : Room} {s : State} {m : MethodId} {args : Array Value} {below : List Frame} {meth : Method} {c : Code} {Q : State → Prop} {cc : ByteArray} {nL : Nat} {own : String} {G : k_G} {A : Nat → Prop} {pc : Nat} {lv : List (Nat × Value)} {rest : List Value} {a : Nat → Nat} {index : Nat} {tv : Value} {t t2 : k_St} {x : Int32} (hA : k_Amb p s m args meth c cc nL own G A) (hlink : Cond.fieldLink own index "TaleSharesModel" "trouble" "I" ∈ k_TB) (ht : t2 = k_sI t 0 1 x) (hd : decode cc pc = .ok (.putfield index, 3)) (kk : k_Go p l e R s m args below meth c Q nL G A (k_WR G.2.1 a tv t2) (pc + 3) lv rest) : k_Go p l e R s m args below meth c Q nL G A (k_WR G.2.1 a tv t) pc lv (.int x :: .ref (a 0) :: rest) := by
  subst ht
  exact k_put hA k_in_X12 tyX12 tyX12_ok nmX12 (hc_MR_0 G.2.1 a tv t) rfl 1 (by decide) hlink rfl (v := .int x) rfl rfl (Nat.le_of_ble_eq_true rfl) rfl hd kk
theorem gt_MR_0_13 {p : Program} {l : Launch} {e : Env} {R : Room} {s : State} {m : MethodId} {args : Array Value} {below : List Frame} {meth : Method} {c : Code} {Q : State → Prop} {cc : ByteArray} {nL : Nat} {own : String} {G : k_G} {A : Nat → Prop} {pc : Nat} {lv : List (Nat × Value)} {rest : List Value} {a : Nat → Nat} {index : Nat} {tv : Value} {t : k_St} (hA : k_Amb p s m args meth c cc nL own G A) (hlink : Cond.fieldLink own index "TaleSharesModel" "wrongAt" "I" ∈ k_TB) (hd : decode cc pc = .ok (.getfield index, 3)) (kk : k_Go p l e R s m args below meth c Q nL G A (k_WR G.2.1 a tv t) (pc + 3) lv (.int (t.1 0 13) :: rest)) : k_Go p l e R s m args below meth c Q nL G A (k_WR G.2.1 a tv t) pc lv (.ref (a 0) :: rest) := k_get (ref := "") hA k_in_X12 (hc_MR_0 G.2.1 a tv t) rfl 13 (by decide) hlink (v := .int (t.1 0 13)) rfl hd kk
theorem pt_MR_0_2 {p : Program} {l : Launch} {e : Env} {R : Room} {s : State} {m : MethodId} {args : Array Value} {below : List Frame} {meth : Method} {c : Code} {Q : State → Prop} {cc : ByteArray} {nL : Nat} {own : String} {G : k_G} {A : Nat → Prop} {pc : Nat} {lv : List (Nat × Value)} {rest : List Value} {a : Nat → Nat} {index : Nat} {tv : Value} {t t2 : k_St} {x : Int32} (hA : k_Amb p s m args meth c cc nL own G A) (hlink : Cond.fieldLink own index "TaleSharesModel" "where" "I" ∈ k_TB) (ht : t2 = k_sI t 0 2 x) (hd : decode cc pc = .ok (.putfield index, 3)) (kk : k_Go p l e R s m args below meth c Q nL G A (k_WR G.2.1 a tv t2) (pc + 3) lv rest) : k_Go p l e R s m args below meth c Q nL G A (k_WR G.2.1 a tv t) pc lv (.int x :: .ref (a 0) :: rest) := by
  subst ht
  exact k_put hA k_in_X12 tyX12 tyX12_ok nmX12 (hc_MR_0 G.2.1 a tv t) rfl 2 (by decide) hlink rfl (v := .int x) rfl rfl (Nat.le_of_ble_eq_true rfl) rfl hd kk
theorem ci_X11_init : k_cardI yX11_init cX11_init 1 0 := ⟨k_tb 1398 (by decide +kernel) rfl, k_tb 1397 (by decide +kernel) rfl, k_tb 135 (by decide +kernel) rfl, by decide +kernel, by decide +kernel, by decide +kernel, rfl⟩
theorem gta_MT_0_3 {cells slots : Nat} {p : Program} {l : Launch} {e : Env} {R : Room} {s : State} {m : MethodId} {args : Array Value} {below : List Frame} {meth : Method} {c : Code} {Q : State → Prop} {cc : ByteArray} {nL : Nat} {own : String} {G : k_G} {A : Nat → Prop} {pc : Nat} {lv : List (Nat × Value)} {rest : List Value} {a : Nat → Nat} {index : Nat} {rv : Value} {t : k_St} (hA : k_Amb p s m args meth c cc nL own G A) (hlink : Cond.fieldLink own index "TaleSharesModel" "terrace" "LTaleSharesModel$Terrace;" ∈ k_TB) (hd : decode cc pc = .ok (.getfield index, 3)) (kk : k_GoA p l e R s m args below meth c Q nL G A cells slots (k_WT G.2.1 a rv t) (pc + 3) lv (.ref (a 18) :: rest)) : k_GoA p l e R s m args below meth c Q nL G A cells slots (k_WT G.2.1 a rv t) pc lv (.ref (a 0) :: rest) := ka_get (ref := "") hA k_in_X12 (hc_MT_0 G.2.1 a rv t) rfl 3 (by decide) hlink (v := .ref (a 18)) rfl hd kk
theorem gta_MT_18_4N {cells slots : Nat} {p : Program} {l : Launch} {e : Env} {R : Room} {s : State} {m : MethodId} {args : Array Value} {below : List Frame} {meth : Method} {c : Code} {Q : State → Prop} {cc : ByteArray} {nL : Nat} {own : String} {G : k_G} {A : Nat → Prop} {pc : Nat} {lv : List (Nat × Value)} {rest : List Value} {a : Nat → Nat} {index : Nat} {rv : Value} {t : k_St} (hA : k_Amb p s m args meth c cc nL own G A) (hown : own = "TaleSharesModel") (hlink : (index, "houses", "I") ∈ k_nF) (hd : decode cc pc = .ok (.getfield index, 3)) (kk : k_GoA p l e R s m args below meth c Q nL G A cells slots (k_WT G.2.1 a rv t) (pc + 3) lv (.int (t.1 18 4) :: rest)) : k_GoA p l e R s m args below meth c Q nL G A cells slots (k_WT G.2.1 a rv t) pc lv (.ref (a 18) :: rest) := ka_getN hA k_in_X11 (hc_MT_18 G.2.1 a rv t) rfl 4 (by decide) ⟨hown, rfl⟩ hlink (v := .int (t.1 18 4)) rfl hd kk
theorem pta_MT_0_19 {cells slots : Nat} {p : Program} {l : Launch} {e : Env} {R : Room} {s : State} {m : MethodId} {args : Array Value} {below : List Frame} {meth : Method} {c : Code} {Q : State → Prop} {cc : ByteArray} {nL : Nat} {own : String} {G : k_G} {A : Nat → Prop} {pc : Nat} {lv : List (Nat × Value)} {rest : List Value} {a : Nat → Nat} {index : Nat} {rv : Value} {t t2 : k_St} {x : Int32} (hA : k_Amb p s m args meth c cc nL own G A) (hlink : Cond.fieldLink own index "TaleSharesModel" "acts" "I" ∈ k_TB) (ht : t2 = k_sI t 0 19 x) (hd : decode cc pc = .ok (.putfield index, 3)) (kk : k_GoA p l e R s m args below meth c Q nL G A cells slots (k_WT G.2.1 a rv t2) (pc + 3) lv rest) : k_GoA p l e R s m args below meth c Q nL G A cells slots (k_WT G.2.1 a rv t) pc lv (.int x :: .ref (a 0) :: rest) := by
  subst ht
  exact ka_put hA k_in_X12 tyX12 tyX12_ok nmX12 (hc_MT_0 G.2.1 a rv t) rfl 19 (by decide) hlink rfl (v := .int x) rfl rfl (Nat.le_of_ble_eq_true rfl) rfl hd kk
theorem pta_MT_0_20 {cells slots : Nat} {p : Program} {l : Launch} {e : Env} {R : Room} {s : State} {m : MethodId} {args : Array Value} {below : List Frame} {meth : Method} {c : Code} {Q : State → Prop} {cc : ByteArray} {nL : Nat} {own : String} {G : k_G} {A : Nat → Prop} {pc : Nat} {lv : List (Nat × Value)} {rest : List Value} {a : Nat → Nat} {index : Nat} {rv : Value} {t t2 : k_St} {x : Int32} (hA : k_Amb p s m args meth c cc nL own G A) (hlink : Cond.fieldLink own index "TaleSharesModel" "images" "I" ∈ k_TB) (ht : t2 = k_sI t 0 20 x) (hd : decode cc pc = .ok (.putfield index, 3)) (kk : k_GoA p l e R s m args below meth c Q nL G A cells slots (k_WT G.2.1 a rv t2) (pc + 3) lv rest) : k_GoA p l e R s m args below meth c Q nL G A cells slots (k_WT G.2.1 a rv t) pc lv (.int x :: .ref (a 0) :: rest) := by
  subst ht
  exact ka_put hA k_in_X12 tyX12 tyX12_ok nmX12 (hc_MT_0 G.2.1 a rv t) rfl 20 (by decide) hlink rfl (v := .int x) rfl rfl (Nat.le_of_ble_eq_true rfl) rfl hd kk
theorem gta_MT_18_2N {cells slots : Nat} {p : Program} {l : Launch} {e : Env} {R : Room} {s : State} {m : MethodId} {args : Array Value} {below : List Frame} {meth : Method} {c : Code} {Q : State → Prop} {cc : ByteArray} {nL : Nat} {own : String} {G : k_G} {A : Nat → Prop} {pc : Nat} {lv : List (Nat × Value)} {rest : List Value} {a : Nat → Nat} {index : Nat} {rv : Value} {t : k_St} (hA : k_Amb p s m args meth c cc nL own G A) (hown : own = "TaleSharesModel") (hlink : (index, "pieces", "I") ∈ k_nF) (hd : decode cc pc = .ok (.getfield index, 3)) (kk : k_GoA p l e R s m args below meth c Q nL G A cells slots (k_WT G.2.1 a rv t) (pc + 3) lv (.int (t.1 18 2) :: rest)) : k_GoA p l e R s m args below meth c Q nL G A cells slots (k_WT G.2.1 a rv t) pc lv (.ref (a 18) :: rest) := ka_getN hA k_in_X11 (hc_MT_18 G.2.1 a rv t) rfl 2 (by decide) ⟨hown, rfl⟩ hlink (v := .int (t.1 18 2)) rfl hd kk
theorem gta_MT_0_15 {cells slots : Nat} {p : Program} {l : Launch} {e : Env} {R : Room} {s : State} {m : MethodId} {args : Array Value} {below : List Frame} {meth : Method} {c : Code} {Q : State → Prop} {cc : ByteArray} {nL : Nat} {own : String} {G : k_G} {A : Nat → Prop} {pc : Nat} {lv : List (Nat × Value)} {rest : List Value} {a : Nat → Nat} {index : Nat} {rv : Value} {t : k_St} (hA : k_Amb p s m args meth c cc nL own G A) (hlink : Cond.fieldLink own index "TaleSharesModel" "v" "[I" ∈ k_TB) (hd : decode cc pc = .ok (.getfield index, 3)) (kk : k_GoA p l e R s m args below meth c Q nL G A cells slots (k_WT G.2.1 a rv t) (pc + 3) lv (.ref (a 2) :: rest)) : k_GoA p l e R s m args below meth c Q nL G A cells slots (k_WT G.2.1 a rv t) pc lv (.ref (a 0) :: rest) := ka_get (ref := "") hA k_in_X12 (hc_MT_0 G.2.1 a rv t) rfl 15 (by decide) hlink (v := .ref (a 2)) rfl hd kk
theorem gta_MT_18_14N {cells slots : Nat} {p : Program} {l : Launch} {e : Env} {R : Room} {s : State} {m : MethodId} {args : Array Value} {below : List Frame} {meth : Method} {c : Code} {Q : State → Prop} {cc : ByteArray} {nL : Nat} {own : String} {G : k_G} {A : Nat → Prop} {pc : Nat} {lv : List (Nat × Value)} {rest : List Value} {a : Nat → Nat} {index : Nat} {rv : Value} {t : k_St} (hA : k_Amb p s m args meth c cc nL own G A) (hown : own = "TaleSharesModel") (hlink : (index, "hears", "[I") ∈ k_nF) (hd : decode cc pc = .ok (.getfield index, 3)) (kk : k_GoA p l e R s m args below meth c Q nL G A cells slots (k_WT G.2.1 a rv t) (pc + 3) lv (.ref (a 24) :: rest)) : k_GoA p l e R s m args below meth c Q nL G A cells slots (k_WT G.2.1 a rv t) pc lv (.ref (a 18) :: rest) := ka_getN hA k_in_X11 (hc_MT_18 G.2.1 a rv t) rfl 14 (by decide) ⟨hown, rfl⟩ hlink (v := .ref (a 24)) rfl hd kk
theorem lda_MT_24 {cells slots : Nat} {p : Program} {l : Launch} {e : Env} {R : Room} {s : State} {m : MethodId} {args : Array Value} {below : List Frame} {meth : Method} {c : Code} {Q : State → Prop} {cc : ByteArray} {nL : Nat} {own : String} {G : k_G} {A : Nat → Prop} {pc : Nat} {lv : List (Nat × Value)} {rest : List Value} {a : Nat → Nat} {rv : Value} {t : k_St} {i : Int32} (hA : k_Amb p s m args meth c cc nL own G A) (hin : k_in i 5) (hd : decode cc pc = .ok (.iaload, 1)) (kk : k_GoA p l e R s m args below meth c Q nL G A cells slots (k_WT G.2.1 a rv t) (pc + 1) lv (.int (t.1 24 i.toNatClampNeg) :: rest)) : k_GoA p l e R s m args below meth c Q nL G A cells slots (k_WT G.2.1 a rv t) pc lv (.int i :: .ref (a 24) :: rest) := ka_iald hA (hc_MT_24 G.2.1 a rv t) hin hd kk
theorem sra_MT_2 {cells slots : Nat} {p : Program} {l : Launch} {e : Env} {R : Room} {s : State} {m : MethodId} {args : Array Value} {below : List Frame} {meth : Method} {c : Code} {Q : State → Prop} {cc : ByteArray} {nL : Nat} {own : String} {G : k_G} {A : Nat → Prop} {pc : Nat} {lv : List (Nat × Value)} {rest : List Value} {a : Nat → Nat} {rv : Value} {t t2 : k_St} {i : Int32} {x : Int32} (hA : k_Amb p s m args meth c cc nL own G A) (hin : k_in i 6) (ht : t2 = k_sI t 2 i.toNatClampNeg (x)) (hd : decode cc pc = .ok (.iastore, 1)) (kk : k_GoA p l e R s m args below meth c Q nL G A cells slots (k_WT G.2.1 a rv t2) (pc + 1) lv rest) : k_GoA p l e R s m args below meth c Q nL G A cells slots (k_WT G.2.1 a rv t) pc lv (.int x :: .int i :: .ref (a 2) :: rest) := by
  subst ht
  exact ka_iast hA (hc_MT_2 G.2.1 a rv t) hin rfl hd kk
theorem pta_MB_0_0 {cells slots : Nat} {p : Program} {l : Launch} {e : Env} {R : Room} {s : State} {m : MethodId} {args : Array Value} {below : List Frame} {meth : Method} {c : Code} {Q : State → Prop} {cc : ByteArray} {nL : Nat} {own : String} {G : k_G} {A : Nat → Prop} {pc : Nat} {lv : List (Nat × Value)} {rest : List Value} {a : Nat → Nat} {index : Nat} {tv rv : Value} {t t2 : k_St} {x : Int32} (hA : k_Amb p s m args meth c cc nL own G A) (hlink : Cond.fieldLink own index "TaleSharesModel" "thrown" "I" ∈ k_TB) (ht : t2 = k_sI t 0 0 x) (hd : decode cc pc = .ok (.putfield index, 3)) (kk : k_GoA p l e R s m args below meth c Q nL G A cells slots (k_WB G.2.1 a tv rv t2) (pc + 3) lv rest) : k_GoA p l e R s m args below meth c Q nL G A cells slots (k_WB G.2.1 a tv rv t) pc lv (.int x :: .ref (a 0) :: rest) := by
  subst ht
  exact ka_put hA k_in_X12 tyX12 tyX12_ok nmX12 (hc_MB_0 G.2.1 a tv rv t) rfl 0 (by decide) hlink rfl (v := .int x) rfl rfl (Nat.le_of_ble_eq_true rfl) rfl hd kk
theorem gta_MB_0_6 {cells slots : Nat} {p : Program} {l : Launch} {e : Env} {R : Room} {s : State} {m : MethodId} {args : Array Value} {below : List Frame} {meth : Method} {c : Code} {Q : State → Prop} {cc : ByteArray} {nL : Nat} {own : String} {G : k_G} {A : Nat → Prop} {pc : Nat} {lv : List (Nat × Value)} {rest : List Value} {a : Nat → Nat} {index : Nat} {tv rv : Value} {t : k_St} (hA : k_Amb p s m args meth c cc nL own G A) (hlink : Cond.fieldLink own index "TaleSharesModel" "taped" "I" ∈ k_TB) (hd : decode cc pc = .ok (.getfield index, 3)) (kk : k_GoA p l e R s m args below meth c Q nL G A cells slots (k_WB G.2.1 a tv rv t) (pc + 3) lv (.int (t.1 0 6) :: rest)) : k_GoA p l e R s m args below meth c Q nL G A cells slots (k_WB G.2.1 a tv rv t) pc lv (.ref (a 0) :: rest) := ka_get (ref := "") hA k_in_X12 (hc_MB_0 G.2.1 a tv rv t) rfl 6 (by decide) hlink (v := .int (t.1 0 6)) rfl hd kk
theorem pta_MB_0_7 {cells slots : Nat} {p : Program} {l : Launch} {e : Env} {R : Room} {s : State} {m : MethodId} {args : Array Value} {below : List Frame} {meth : Method} {c : Code} {Q : State → Prop} {cc : ByteArray} {nL : Nat} {own : String} {G : k_G} {A : Nat → Prop} {pc : Nat} {lv : List (Nat × Value)} {rest : List Value} {a : Nat → Nat} {index : Nat} {tv rv : Value} {t t2 : k_St} {x : Int32} (hA : k_Amb p s m args meth c cc nL own G A) (hlink : Cond.fieldLink own index "TaleSharesModel" "size" "I" ∈ k_TB) (ht : t2 = k_sI t 0 7 x) (hd : decode cc pc = .ok (.putfield index, 3)) (kk : k_GoA p l e R s m args below meth c Q nL G A cells slots (k_WB G.2.1 a tv rv t2) (pc + 3) lv rest) : k_GoA p l e R s m args below meth c Q nL G A cells slots (k_WB G.2.1 a tv rv t) pc lv (.int x :: .ref (a 0) :: rest) := by
  subst ht
  exact ka_put hA k_in_X12 tyX12 tyX12_ok nmX12 (hc_MB_0 G.2.1 a tv rv t) rfl 7 (by decide) hlink rfl (v := .int x) rfl rfl (Nat.le_of_ble_eq_true rfl) rfl hd kk
theorem pta_MB_0_6 {cells slots : Nat} {p : Program} {l : Launch} {e : Env} {R : Room} {s : State} {m : MethodId} {args : Array Value} {below : List Frame} {meth : Method} {c : Code} {Q : State → Prop} {cc : ByteArray} {nL : Nat} {own : String} {G : k_G} {A : Nat → Prop} {pc : Nat} {lv : List (Nat × Value)} {rest : List Value} {a : Nat → Nat} {index : Nat} {tv rv : Value} {t t2 : k_St} {x : Int32} (hA : k_Amb p s m args meth c cc nL own G A) (hlink : Cond.fieldLink own index "TaleSharesModel" "taped" "I" ∈ k_TB) (ht : t2 = k_sI t 0 6 x) (hd : decode cc pc = .ok (.putfield index, 3)) (kk : k_GoA p l e R s m args below meth c Q nL G A cells slots (k_WB G.2.1 a tv rv t2) (pc + 3) lv rest) : k_GoA p l e R s m args below meth c Q nL G A cells slots (k_WB G.2.1 a tv rv t) pc lv (.int x :: .ref (a 0) :: rest) := by
  subst ht
  exact ka_put hA k_in_X12 tyX12 tyX12_ok nmX12 (hc_MB_0 G.2.1 a tv rv t) rfl 6 (by decide) hlink rfl (v := .int x) rfl rfl (Nat.le_of_ble_eq_true rfl) rfl hd kk
theorem pta_MB_0_8 {cells slots : Nat} {p : Program} {l : Launch} {e : Env} {R : Room} {s : State} {m : MethodId} {args : Array Value} {below : List Frame} {meth : Method} {c : Code} {Q : State → Prop} {cc : ByteArray} {nL : Nat} {own : String} {G : k_G} {A : Nat → Prop} {pc : Nat} {lv : List (Nat × Value)} {rest : List Value} {a : Nat → Nat} {index : Nat} {tv rv : Value} {t t2 : k_St} {x : Int32} (hA : k_Amb p s m args meth c cc nL own G A) (hlink : Cond.fieldLink own index "TaleSharesModel" "spot" "I" ∈ k_TB) (ht : t2 = k_sI t 0 8 x) (hd : decode cc pc = .ok (.putfield index, 3)) (kk : k_GoA p l e R s m args below meth c Q nL G A cells slots (k_WB G.2.1 a tv rv t2) (pc + 3) lv rest) : k_GoA p l e R s m args below meth c Q nL G A cells slots (k_WB G.2.1 a tv rv t) pc lv (.int x :: .ref (a 0) :: rest) := by
  subst ht
  exact ka_put hA k_in_X12 tyX12 tyX12_ok nmX12 (hc_MB_0 G.2.1 a tv rv t) rfl 8 (by decide) hlink rfl (v := .int x) rfl rfl (Nat.le_of_ble_eq_true rfl) rfl hd kk
theorem pta_MB_0_12 {cells slots : Nat} {p : Program} {l : Launch} {e : Env} {R : Room} {s : State} {m : MethodId} {args : Array Value} {below : List Frame} {meth : Method} {c : Code} {Q : State → Prop} {cc : ByteArray} {nL : Nat} {own : String} {G : k_G} {A : Nat → Prop} {pc : Nat} {lv : List (Nat × Value)} {rest : List Value} {a : Nat → Nat} {index : Nat} {tv rv : Value} {t t2 : k_St} {x : Int32} (hA : k_Amb p s m args meth c cc nL own G A) (hlink : Cond.fieldLink own index "TaleSharesModel" "fault" "I" ∈ k_TB) (ht : t2 = k_sI t 0 12 x) (hd : decode cc pc = .ok (.putfield index, 3)) (kk : k_GoA p l e R s m args below meth c Q nL G A cells slots (k_WB G.2.1 a tv rv t2) (pc + 3) lv rest) : k_GoA p l e R s m args below meth c Q nL G A cells slots (k_WB G.2.1 a tv rv t) pc lv (.int x :: .ref (a 0) :: rest) := by
  subst ht
  exact ka_put hA k_in_X12 tyX12 tyX12_ok nmX12 (hc_MB_0 G.2.1 a tv rv t) rfl 12 (by decide) hlink rfl (v := .int x) rfl rfl (Nat.le_of_ble_eq_true rfl) rfl hd kk
theorem pta_MR_0_9 {cells slots : Nat} {p : Program} {l : Launch} {e : Env} {R : Room} {s : State} {m : MethodId} {args : Array Value} {below : List Frame} {meth : Method} {c : Code} {Q : State → Prop} {cc : ByteArray} {nL : Nat} {own : String} {G : k_G} {A : Nat → Prop} {pc : Nat} {lv : List (Nat × Value)} {rest : List Value} {a : Nat → Nat} {index : Nat} {tv : Value} {t t2 : k_St} {x : Int32} (hA : k_Amb p s m args meth c cc nL own G A) (hlink : Cond.fieldLink own index "TaleSharesModel" "sort" "I" ∈ k_TB) (ht : t2 = k_sI t 0 9 x) (hd : decode cc pc = .ok (.putfield index, 3)) (kk : k_GoA p l e R s m args below meth c Q nL G A cells slots (k_WR G.2.1 a tv t2) (pc + 3) lv rest) : k_GoA p l e R s m args below meth c Q nL G A cells slots (k_WR G.2.1 a tv t) pc lv (.int x :: .ref (a 0) :: rest) := by
  subst ht
  exact ka_put hA k_in_X12 tyX12 tyX12_ok nmX12 (hc_MR_0 G.2.1 a tv t) rfl 9 (by decide) hlink rfl (v := .int x) rfl rfl (Nat.le_of_ble_eq_true rfl) rfl hd kk
theorem gta_MR_0_12 {cells slots : Nat} {p : Program} {l : Launch} {e : Env} {R : Room} {s : State} {m : MethodId} {args : Array Value} {below : List Frame} {meth : Method} {c : Code} {Q : State → Prop} {cc : ByteArray} {nL : Nat} {own : String} {G : k_G} {A : Nat → Prop} {pc : Nat} {lv : List (Nat × Value)} {rest : List Value} {a : Nat → Nat} {index : Nat} {tv : Value} {t : k_St} (hA : k_Amb p s m args meth c cc nL own G A) (hlink : Cond.fieldLink own index "TaleSharesModel" "fault" "I" ∈ k_TB) (hd : decode cc pc = .ok (.getfield index, 3)) (kk : k_GoA p l e R s m args below meth c Q nL G A cells slots (k_WR G.2.1 a tv t) (pc + 3) lv (.int (t.1 0 12) :: rest)) : k_GoA p l e R s m args below meth c Q nL G A cells slots (k_WR G.2.1 a tv t) pc lv (.ref (a 0) :: rest) := ka_get (ref := "") hA k_in_X12 (hc_MR_0 G.2.1 a tv t) rfl 12 (by decide) hlink (v := .int (t.1 0 12)) rfl hd kk
theorem pta_MR_0_1 {cells slots : Nat} {p : Program} {l : Launch} {e : Env} {R : Room} {s : State} {m : MethodId} {args : Array Value} {below : List Frame} {meth : Method} {c : Code} {Q : State → Prop} {cc : ByteArray} {nL : Nat} {own : String} {G : k_G} {A : Nat → Prop} {pc : Nat} {lv : List (Nat × Value)} {rest : List Value} {a : Nat → Nat} {index : Nat} {tv : Value} {t t2 : k_St} {x : Int32} (hA : k_Amb p s m args meth c cc nL own G A) (hlink : Cond.fieldLink own index "TaleSharesModel" "trouble" "I" ∈ k_TB) (ht : t2 = k_sI t 0 1 x) (hd : decode cc pc = .ok (.putfield index, 3)) (kk : k_GoA p l e R s m args below meth c Q nL G A cells slots (k_WR G.2.1 a tv t2) (pc + 3) lv rest) : k_GoA p l e R s m args below meth c Q nL G A cells slots (k_WR G.2.1 a tv t) pc lv (.int x :: .ref (a 0) :: rest) := by
  subst ht
  exact ka_put hA k_in_X12 tyX12 tyX12_ok nmX12 (hc_MR_0 G.2.1 a tv t) rfl 1 (by decide) hlink rfl (v := .int x) rfl rfl (Nat.le_of_ble_eq_true rfl) rfl hd kk
theorem gta_MR_0_13 {cells slots : Nat} {p : Program} {l : Launch} {e : Env} {R : Room} {s : State} {m : MethodId} {args : Array Value} {below : List Frame} {meth : Method} {c : Code} {Q : State → Prop} {cc : ByteArray} {nL : Nat} {own : String} {G : k_G} {A : Nat → Prop} {pc : Nat} {lv : List (Nat × Value)} {rest : List Value} {a : Nat → Nat} {index : Nat} {tv : Value} {t : k_St} (hA : k_Amb p s m args meth c cc nL own G A) (hlink : Cond.fieldLink own index "TaleSharesModel" "wrongAt" "I" ∈ k_TB) (hd : decode cc pc = .ok (.getfield index, 3)) (kk : k_GoA p l e R s m args below meth c Q nL G A cells slots (k_WR G.2.1 a tv t) (pc + 3) lv (.int (t.1 0 13) :: rest)) : k_GoA p l e R s m args below meth c Q nL G A cells slots (k_WR G.2.1 a tv t) pc lv (.ref (a 0) :: rest) := ka_get (ref := "") hA k_in_X12 (hc_MR_0 G.2.1 a tv t) rfl 13 (by decide) hlink (v := .int (t.1 0 13)) rfl hd kk
theorem pta_MR_0_2 {cells slots : Nat} {p : Program} {l : Launch} {e : Env} {R : Room} {s : State} {m : MethodId} {args : Array Value} {below : List Frame} {meth : Method} {c : Code} {Q : State → Prop} {cc : ByteArray} {nL : Nat} {own : String} {G : k_G} {A : Nat → Prop} {pc : Nat} {lv : List (Nat × Value)} {rest : List Value} {a : Nat → Nat} {index : Nat} {tv : Value} {t t2 : k_St} {x : Int32} (hA : k_Amb p s m args meth c cc nL own G A) (hlink : Cond.fieldLink own index "TaleSharesModel" "where" "I" ∈ k_TB) (ht : t2 = k_sI t 0 2 x) (hd : decode cc pc = .ok (.putfield index, 3)) (kk : k_GoA p l e R s m args below meth c Q nL G A cells slots (k_WR G.2.1 a tv t2) (pc + 3) lv rest) : k_GoA p l e R s m args below meth c Q nL G A cells slots (k_WR G.2.1 a tv t) pc lv (.int x :: .ref (a 0) :: rest) := by
  subst ht
  exact ka_put hA k_in_X12 tyX12 tyX12_ok nmX12 (hc_MR_0 G.2.1 a tv t) rfl 2 (by decide) hlink rfl (v := .int x) rfl rfl (Nat.le_of_ble_eq_true rfl) rfl hd kk
theorem gta_MR_0_4 {cells slots : Nat} {p : Program} {l : Launch} {e : Env} {R : Room} {s : State} {m : MethodId} {args : Array Value} {below : List Frame} {meth : Method} {c : Code} {Q : State → Prop} {cc : ByteArray} {nL : Nat} {own : String} {G : k_G} {A : Nat → Prop} {pc : Nat} {lv : List (Nat × Value)} {rest : List Value} {a : Nat → Nat} {index : Nat} {tv : Value} {t : k_St} (hA : k_Amb p s m args meth c cc nL own G A) (hlink : Cond.fieldLink own index "TaleSharesModel" "read" "LTaleSharesModel$Terrace;" ∈ k_TB) (hd : decode cc pc = .ok (.getfield index, 3)) (kk : k_GoA p l e R s m args below meth c Q nL G A cells slots (k_WR G.2.1 a tv t) (pc + 3) lv (.ref (a 18) :: rest)) : k_GoA p l e R s m args below meth c Q nL G A cells slots (k_WR G.2.1 a tv t) pc lv (.ref (a 0) :: rest) := ka_get (ref := "") hA k_in_X12 (hc_MR_0 G.2.1 a tv t) rfl 4 (by decide) hlink (v := .ref (a 18)) rfl hd kk
theorem m_M_refused_B (l : Launch) (G : k_G) (a : Nat → Nat) (tv rv : Value) (x1 : Int32) (t : k_St) : k_CI l G yX12_refused cX12_refused 2 (some .int) 1 (k_WB G.2.1 a tv rv t) [.ref (a 0), .int x1] (-1) (k_WB G.2.1 a tv rv (k_sI (k_sI t 0 1 x1) 0 2 (-1))) := by
  refine k_startI (lv := [(0, .ref (a 0)), (1, .int x1)]) (by decide +kernel) (Nat.le_of_ble_eq_true rfl) rfl ?_
  intro p e s m args below meth c hA hr
  have hA : k_Amb p s m args meth c cX12_refused 2 "TaleSharesModel" G _ := hA
  refine k_aload_n (i := 0) hA dX12_refused_0 rfl 0 rfl ?_
  refine k_iload_n (i := 1) hA dX12_refused_1 rfl 1 rfl ?_
  refine pt_MB_0_1 hA wd_1249 rfl dX12_refused_2 ?_
  refine k_aload_n (i := 0) hA dX12_refused_5 rfl 0 rfl ?_
  refine k_iconst hA dX12_refused_6 kc_i_m1 ?_
  refine pt_MB_0_2 hA wd_1250 rfl dX12_refused_7 ?_
  refine k_iconst hA dX12_refused_10 kc_i_m1 ?_
  exact k_iret hA hr rfl dX12_refused_11
def f_Mt_L2 (n : Nat) : Nat → Int32 → k_St → Option (Int32 × k_St)
  | 0, _, _ => none
  | k + 1, x2, t => (if (t.1 18 4) ≤ x2 then k_lt (k_sI t 0 19 (0 : Int32)) (fun t_1 => k_lt (k_sI t_1 0 20 (0 : Int32)) (fun t_2 => k_lt (f_M_good (t_2.1 18 2) t_2) (fun q => some (q.1, q.2)))) else k_gi x2 5 (k_gi x2 6 (k_lt (k_sI t 2 x2.toNatClampNeg (t.1 24 x2.toNatClampNeg)) (fun t_3 => k_lt (x2 + (1 : Int32)) (fun x2_4 => f_Mt_L2 n k x2_4 t_3)))))
def f_Mt_L1 (n : Nat) : Nat → Int32 → k_St → Option (Int32 × k_St)
  | 0, _, _ => none
  | k + 1, x2, t => (if (6 : Int32) ≤ x2 then f_Mt_L2 n n (0 : Int32) t else k_gi x2 6 (k_lt (k_sI t 2 x2.toNatClampNeg (0 : Int32)) (fun t_3 => k_lt (x2 + (1 : Int32)) (fun x2_4 => f_Mt_L1 n k x2_4 t_3))))
def rm_Mt : Room := { frames := 14, cells := 11, slots := 100, locals := 580 }
theorem m_Mt_L2 {p : Program} (l : Launch) {e : Env} {s : State} {m : MethodId} {args : Array Value} {below : List Frame} {meth : Method} {c : Code} (G : k_G) (a : Nat → Nat) (rv : Value) (n : Nat) {w0 : va_W} {post : Int32 → va_W → Prop} {r : Int32} {t' : k_St} (hA : k_Amb p s m args meth c cX12_terrace 3 "TaleSharesModel" G (va_A w0 s.heap.size)) (hr : meth.sig.returnType = (some .int)) (hp : post r (k_WT G.2.1 a rv t')) : ∀ (k : Nat) (x2 : Int32) (t : k_St), f_Mt_L2 n k x2 t = some (r, t') → k_GoA p l e rm_Mt s m args below meth c (k_QMI G w0 post 11 100 args s below) 3 G (va_A w0 s.heap.size) 11 100 (k_WT G.2.1 a rv t) 120 [(0, .ref (a 0)), (2, .int x2)] [] := by
  intro k
  induction k with
  | zero => intro x2 t hf; cases hf
  | succ k ih =>
  intro x2 t hf
  rw [f_Mt_L2] at hf
  refine ka_iload_n (i := 2) hA dX12_terrace_120 rfl 1 rfl ?_
  refine ka_aload_n (i := 0) hA dX12_terrace_121 rfl 0 rfl ?_
  refine gta_MT_0_3 hA wd_1251 dX12_terrace_122 ?_
  refine gta_MT_18_4N hA rfl nf_277 dX12_terrace_125 ?_
  refine ka_icmp_ge (tgt := 152) hA dX12_terrace_128 rfl (fun hc => ?_) (fun hc => ?_)
  · have hf := k_ift hc hf
    obtain ⟨t_1, et_1, hf⟩ := k_lt_e hf
    obtain ⟨t_2, et_2, hf⟩ := k_lt_e hf
    obtain ⟨⟨rq, tq⟩, hq, hf⟩ := k_lt_e hf
    dsimp only at hf
    obtain ⟨rfl, rfl⟩ := k_r2 hf
    refine ka_aload_n (i := 0) hA dX12_terrace_152 rfl 0 rfl ?_
    refine ka_iconst hA dX12_terrace_153 kc_i_0 ?_
    refine pta_MT_0_19 hA wd_1267 et_1 dX12_terrace_154 ?_
    refine ka_aload_n (i := 0) hA dX12_terrace_157 rfl 0 rfl ?_
    refine ka_iconst hA dX12_terrace_158 kc_i_0 ?_
    refine pta_MT_0_20 hA wd_1268 et_2 dX12_terrace_159 ?_
    refine ka_aload_n (i := 0) hA dX12_terrace_162 rfl 0 rfl ?_
    refine ka_aload_n (i := 0) hA dX12_terrace_163 rfl 0 rfl ?_
    refine gta_MT_0_3 hA wd_1251 dX12_terrace_164 ?_
    refine gta_MT_18_2N hA rfl nf_210 dX12_terrace_167 ?_
    refine ka_callVi0 (cells := 11) (slots := 100) (As := [.int (t_2.1 18 2)]) (rest := []) hA (m_M_good l G a rv (t_2.1 18 2) t_2 hq.symm) cd_X12_good wd_1601 (hc_MT_0 G.2.1 a rv t_2) rfl rfl ⟨(Nat.le_of_ble_eq_true rfl), (Nat.le_of_ble_eq_true rfl)⟩ ⟨(Nat.le_of_ble_eq_true rfl), (Nat.le_of_ble_eq_true rfl)⟩ rfl rfl (Nat.le_of_ble_eq_true rfl) dX12_terrace_170 ?_
    exact ka_iretM hA hr rfl hp dX12_terrace_173
  have hf := k_iff hc hf
  obtain ⟨hi1, hf⟩ := k_gi_e hf
  obtain ⟨hi2, hf⟩ := k_gi_e hf
  obtain ⟨t_3, et_3, hf⟩ := k_lt_e hf
  obtain ⟨x2_4, ex2_4, hf⟩ := k_lt_e hf
  refine ka_aload_n (i := 0) hA dX12_terrace_131 rfl 0 rfl ?_
  refine gta_MT_0_15 hA wd_1263 dX12_terrace_132 ?_
  refine ka_iload_n (i := 2) hA dX12_terrace_135 rfl 1 rfl ?_
  refine ka_aload_n (i := 0) hA dX12_terrace_136 rfl 0 rfl ?_
  refine gta_MT_0_3 hA wd_1251 dX12_terrace_137 ?_
  refine gta_MT_18_14N hA rfl nf_294 dX12_terrace_140 ?_
  refine ka_iload_n (i := 2) hA dX12_terrace_143 rfl 1 rfl ?_
  refine lda_MT_24 hA hi1 dX12_terrace_144 ?_
  refine sra_MT_2 hA hi2 et_3 dX12_terrace_145 ?_
  refine ka_iinc (j := 1) (v := x2_4) (lv' := [(2, .int x2_4), (0, .ref (a 0))]) hA dX12_terrace_146 rfl (k_inc ex2_4 kc_i_1) (Nat.le_of_ble_eq_true rfl) rfl ?_
  refine ka_goto (tgt := 120) hA dX12_terrace_149 rfl ?_
  refine ka_pick (lv' := [(0, .ref (a 0)), (2, .int x2_4)]) [1, 0] rfl ?_
  exact ih x2_4 t_3 hf
theorem m_Mt_L1 {p : Program} (l : Launch) {e : Env} {s : State} {m : MethodId} {args : Array Value} {below : List Frame} {meth : Method} {c : Code} (G : k_G) (a : Nat → Nat) (rv : Value) (n : Nat) {w0 : va_W} {post : Int32 → va_W → Prop} {r : Int32} {t' : k_St} (hA : k_Amb p s m args meth c cX12_terrace 3 "TaleSharesModel" G (va_A w0 s.heap.size)) (hr : meth.sig.returnType = (some .int)) (hp : post r (k_WT G.2.1 a rv t')) : ∀ (k : Nat) (x2 : Int32) (t : k_St), f_Mt_L1 n k x2 t = some (r, t') → k_GoA p l e rm_Mt s m args below meth c (k_QMI G w0 post 11 100 args s below) 3 G (va_A w0 s.heap.size) 11 100 (k_WT G.2.1 a rv t) 99 [(0, .ref (a 0)), (2, .int x2)] [] := by
  intro k
  induction k with
  | zero => intro x2 t hf; cases hf
  | succ k ih =>
  intro x2 t hf
  rw [f_Mt_L1] at hf
  refine ka_iload_n (i := 2) hA dX12_terrace_99 rfl 1 rfl ?_
  refine ka_bipush hA dX12_terrace_100 kc_b_6 ?_
  refine ka_icmp_ge (tgt := 118) hA dX12_terrace_102 rfl (fun hc => ?_) (fun hc => ?_)
  · have hf := k_ift hc hf
    refine ka_iconst hA dX12_terrace_118 kc_i_0 ?_
    refine ka_istore_n (i := 2) (lv' := [(2, .int (0 : Int32)), (0, .ref (a 0))]) hA dX12_terrace_119 rfl rfl (Nat.le_of_ble_eq_true rfl) rfl ?_
    refine ka_pick (lv' := [(0, .ref (a 0)), (2, .int (0 : Int32))]) [1, 0] rfl ?_
    exact m_Mt_L2 l G a rv n hA hr hp n 0 t hf
  have hf := k_iff hc hf
  obtain ⟨hi1, hf⟩ := k_gi_e hf
  obtain ⟨t_3, et_3, hf⟩ := k_lt_e hf
  obtain ⟨x2_4, ex2_4, hf⟩ := k_lt_e hf
  refine ka_aload_n (i := 0) hA dX12_terrace_105 rfl 0 rfl ?_
  refine gta_MT_0_15 hA wd_1263 dX12_terrace_106 ?_
  refine ka_iload_n (i := 2) hA dX12_terrace_109 rfl 1 rfl ?_
  refine ka_iconst hA dX12_terrace_110 kc_i_0 ?_
  refine sra_MT_2 hA hi1 et_3 dX12_terrace_111 ?_
  refine ka_iinc (j := 1) (v := x2_4) (lv' := [(2, .int x2_4), (0, .ref (a 0))]) hA dX12_terrace_112 rfl (k_inc ex2_4 kc_i_1) (Nat.le_of_ble_eq_true rfl) rfl ?_
  refine ka_goto (tgt := 99) hA dX12_terrace_115 rfl ?_
  refine ka_pick (lv' := [(0, .ref (a 0)), (2, .int x2_4)]) [1, 0] rfl ?_
  exact ih x2_4 t_3 hf
theorem m_M_terrace_no (l : Launch) (G : k_G) (a : Nat → Nat) (tv rv : Value) (n : Nat) (x1 : Int32) (t : k_St) (h : x1 < 0 ∨ t.1 0 6 < x1) : k_MI l G yX12_terrace cX12_terrace 3 (some .int) rm_Mt (k_WB G.2.1 a tv rv t) [.ref (a 0), .int x1] (fun r u => r = -1 ∧ u = k_WB G.2.1 a tv rv (k_sI (k_sI (k_sI t 0 0 0) 0 1 2) 0 2 (-1))) 11 100 := by
  refine k_startMI (lv := [(0, .ref (a 0)), (1, .int x1)]) (by decide +kernel) (Nat.le_of_ble_eq_true rfl) rfl ?_
  intro p e s m args below meth c hA hin hr
  have hA : k_Amb p s m args meth c cX12_terrace 3 "TaleSharesModel" G _ := hA
  have bad : k_GoA p l e rm_Mt s m args below meth c (k_QMI G (k_WB G.2.1 a tv rv t) (fun r u => r = -1 ∧ u = k_WB G.2.1 a tv rv (k_sI (k_sI (k_sI t 0 0 0) 0 1 2) 0 2 (-1))) 11 100 args s below) 3 G (va_A (k_WB G.2.1 a tv rv t) s.heap.size) 0 0 (k_WB G.2.1 a tv rv (k_sI t 0 0 0)) 17 [(0, .ref (a 0)), (1, .int x1)] [] := by
    refine ka_aload_n (i := 0) hA dX12_terrace_17 rfl 0 rfl ?_
    refine ka_iconst hA dX12_terrace_18 kc_i_2 ?_
    refine ka_callVi0 (As := [.int (2 : Int32)]) (rest := []) hA (m_M_refused_B l G a tv rv (2 : Int32) (k_sI t 0 0 0)) cd_X12_refused wd_1390 (hc_MB_0 G.2.1 a tv rv (k_sI t 0 0 0)) rfl rfl ⟨(Nat.le_of_ble_eq_true rfl), (Nat.le_of_ble_eq_true rfl)⟩ ⟨(Nat.le_of_ble_eq_true rfl), (Nat.le_of_ble_eq_true rfl)⟩ rfl rfl (Nat.le_of_ble_eq_true rfl) dX12_terrace_19 ?_
    refine ka_widen (k := 11) (n := 100) (by omega) (by omega) ?_
    exact ka_iretM hA hr rfl ⟨rfl, rfl⟩ dX12_terrace_22
  refine ka_aload_n (i := 0) hA dX12_terrace_0 rfl 0 rfl ?_
  refine ka_iconst hA dX12_terrace_1 kc_i_0 ?_
  refine pta_MB_0_0 hA wd_1248 rfl dX12_terrace_2 ?_
  refine ka_iload_n (i := 1) hA dX12_terrace_5 rfl 1 rfl ?_
  refine ka_if_lt (tgt := 17) hA dX12_terrace_6 rfl (fun hc => bad) (fun hc => ?_)
  refine ka_iload_n (i := 1) hA dX12_terrace_9 rfl 1 rfl ?_
  refine ka_aload_n (i := 0) hA dX12_terrace_10 rfl 0 rfl ?_
  refine gta_MB_0_6 hA wd_1254 dX12_terrace_11 ?_
  refine ka_icmp_le (tgt := 23) hA dX12_terrace_14 rfl (fun hc2 => ?_) (fun hc2 => bad)
  exfalso
  rcases h with h | h
  · exact hc h
  · exact absurd h (Int32.not_lt.mpr hc2)
def tm1 (x1 : Int32) (t : k_St) : k_St := k_sI (k_sI (k_sI (k_sI (k_sI t 0 0 0) 0 7 x1) 0 6 0) 0 8 0) 0 12 0
def tm2 (x1 : Int32) (t : k_St) : k_St := k_sI (frs (tm1 x1 t)) 0 9 0
theorem k_WRd (cy : Nat → ClassId) (b : Nat → Nat) (tv : Value) (t : k_St) : ([0, 1, 2, 3, 4, 5, 6, 7, 8, 9, 10, 11, 12, 13, 14, 15, 16, 17] : List Nat).filterMap (fun i => (k_WR cy b tv t)[i]?) = k_WB cy b tv (.ref (b 18)) t := rfl
theorem k_WRd2 (cy : Nat → ClassId) (b : Nat → Nat) (tv : Value) (t : k_St) : ([0, 1, 2, 3, 4, 5, 6, 7, 8, 9, 10, 11, 12, 13, 14, 15, 16, 17] : List Nat).map (fun i => (k_WR cy b tv t)[i]?) = (k_WB cy b tv (.ref (b 18)) t).map some := rfl
theorem k_WBe (cy : Nat → ClassId) (a : Nat → Nat) (l : List Nat) (tv rv : Value) (t : k_St) : k_WB cy (ext a l) tv rv t = k_WB cy a tv rv t := rfl
theorem m_M_terrace_bad (l : Launch) (G : k_G) (a : Nat → Nat) (tv rv : Value) (n : Nat) (x1 : Int32) (t : k_St) (h1 : ¬ x1 < 0) (h2 : ¬ t.1 0 6 < x1) {t3 t4 : k_St} (h3 : f_M_goesOn_R n (tm2 x1 t) = some t3) (h4 : f_M_readAll_R n t3 = some t4) (h5 : 0 < t4.1 0 12) : k_MI l G yX12_terrace cX12_terrace 3 (some .int) rm_Mt (k_WB G.2.1 a tv rv t) [.ref (a 0), .int x1] (fun r u => r = -1 ∧ ∃ q, u = k_WB G.2.1 a tv (.ref q) (k_sI (k_sI t4 0 1 4) 0 2 (t4.1 0 13))) 11 100 := by
  refine k_startMI (lv := [(0, .ref (a 0)), (1, .int x1)]) (by decide +kernel) (Nat.le_of_ble_eq_true rfl) rfl ?_
  intro p e s m args below meth c hA hin hr
  have hA : k_Amb p s m args meth c cX12_terrace 3 "TaleSharesModel" G _ := hA
  refine ka_aload_n (i := 0) hA dX12_terrace_0 rfl 0 rfl ?_
  refine ka_iconst hA dX12_terrace_1 kc_i_0 ?_
  refine pta_MB_0_0 hA wd_1248 rfl dX12_terrace_2 ?_
  refine ka_iload_n (i := 1) hA dX12_terrace_5 rfl 1 rfl ?_
  refine ka_if_lt (tgt := 17) hA dX12_terrace_6 rfl (fun hc => absurd hc h1) (fun hc => ?_)
  refine ka_iload_n (i := 1) hA dX12_terrace_9 rfl 1 rfl ?_
  refine ka_aload_n (i := 0) hA dX12_terrace_10 rfl 0 rfl ?_
  refine gta_MB_0_6 hA wd_1254 dX12_terrace_11 ?_
  refine ka_icmp_le (tgt := 23) hA dX12_terrace_14 rfl (fun hc2 => ?_) (fun hc2 => absurd (Int32.not_lt.mp h2) hc2)
  refine ka_aload_n (i := 0) hA dX12_terrace_23 rfl 0 rfl ?_
  refine ka_iload_n (i := 1) hA dX12_terrace_24 rfl 1 rfl ?_
  refine pta_MB_0_7 hA wd_1255 rfl dX12_terrace_25 ?_
  refine ka_aload_n (i := 0) hA dX12_terrace_28 rfl 0 rfl ?_
  refine ka_iconst hA dX12_terrace_29 kc_i_0 ?_
  refine pta_MB_0_6 hA wd_1254 rfl dX12_terrace_30 ?_
  refine ka_aload_n (i := 0) hA dX12_terrace_33 rfl 0 rfl ?_
  refine ka_iconst hA dX12_terrace_34 kc_i_0 ?_
  refine pta_MB_0_8 hA wd_1256 rfl dX12_terrace_35 ?_
  refine ka_aload_n (i := 0) hA dX12_terrace_38 rfl 0 rfl ?_
  refine ka_iconst hA dX12_terrace_39 kc_i_0 ?_
  refine pta_MB_0_12 hA wd_1260 rfl dX12_terrace_40 ?_
  refine ka_aload_n (i := 0) hA dX12_terrace_43 rfl 0 rfl ?_
  refine ka_new (ci := 9) (fs := [.int 0, .int 0, .int 0, .int 0, .int 0, .int 0, .int 0, .int 0, .int 0, .null, .null, .null, .null, .null, .null, .null, .null, .null, .null]) hA k_in_X11 tyX11 tyX11_ok wd_1394 wd_1395 wd_135 rfl (fun j hj => by rcases (show j = 0 ∨ j = 1 ∨ j = 2 ∨ j = 3 ∨ j = 4 ∨ j = 5 ∨ j = 6 ∨ j = 7 ∨ j = 8 ∨ j = 9 ∨ j = 10 ∨ j = 11 ∨ j = 12 ∨ j = 13 ∨ j = 14 ∨ j = 15 ∨ j = 16 ∨ j = 17 ∨ j = 18 by omega) with rfl | rfl | rfl | rfl | rfl | rfl | rfl | rfl | rfl | rfl | rfl | rfl | rfl | rfl | rfl | rfl | rfl | rfl | rfl <;> rfl) (Nat.le_of_ble_eq_true rfl) (Nat.le_of_ble_eq_true rfl) dX12_terrace_44 (fun q => ?_)
  refine ka_dup hA dX12_terrace_47 rfl ?_
  refine ka_callIN (R := rm_Mt) (cells := 1) (slots := 19) (w1 := k_WB G.2.1 a tv rv (tm1 x1 t)) (wc := [(q, .inr (9, [.int 0, .int 0, .int 0, .int 0, .int 0, .int 0, .int 0, .int 0, .int 0, .null, .null, .null, .null, .null, .null, .null, .null, .null, .null]))]) (w2 := []) (As := []) (rest := [.ref q, .ref (a 0)]) hA (i_X11_init l G q) ci_X11_init nm_RX12_307 ⟨(Nat.le_of_ble_eq_true rfl), (Nat.le_of_ble_eq_true rfl)⟩ ⟨(Nat.le_of_ble_eq_true rfl), (Nat.le_of_ble_eq_true rfl)⟩ rfl rfl (Nat.le_of_ble_eq_true rfl) dX12_terrace_48 (fun u hu => ?_)
  obtain ⟨q0, q1, q2, q3, q4, q5, q6, q7, q8, q9, rfl⟩ := hu
  refine ka_put (q0 := 0) (fs := k_fMB0 a tv rv (tm1 x1 t)) (w' := k_WR G.2.1 (ext a [q, q0, q1, q2, q3, q4, q5, q6, q7, q8, q9]) tv (frs (tm1 x1 t))) hA k_in_X12 tyX12 tyX12_ok nmX12 rfl rfl 4 (by decide) wd_1252 rfl (v := .ref q) rfl rfl (Nat.le_of_ble_eq_true rfl) rfl dX12_terrace_51 ?_
  generalize ea : ext a [q, q0, q1, q2, q3, q4, q5, q6, q7, q8, q9] = b
  have e0 : b 0 = a 0 := by rw [← ea]; rfl
  rw [← e0]
  refine ka_aload_n (i := 0) hA dX12_terrace_54 rfl 0 rfl ?_
  refine ka_iconst hA dX12_terrace_55 kc_i_0 ?_
  refine pta_MR_0_9 hA wd_1257 (t2 := tm2 x1 t) rfl dX12_terrace_56 ?_
  refine ka_aload_n (i := 0) hA dX12_terrace_59 rfl 0 rfl ?_
  refine ka_callVv0 (cells := 11) (slots := 100) (As := []) (rest := []) hA (m_M_goesOn_R l G b tv n (tm2 x1 t) h3) cd_X12_goesOn wd_1471 (hc_MR_0 G.2.1 b tv (tm2 x1 t)) rfl rfl ⟨(Nat.le_of_ble_eq_true rfl), (Nat.le_of_ble_eq_true rfl)⟩ ⟨(Nat.le_of_ble_eq_true rfl), (Nat.le_of_ble_eq_true rfl)⟩ rfl rfl (Nat.le_of_ble_eq_true rfl) dX12_terrace_60 ?_
  refine ka_aload_n (i := 0) hA dX12_terrace_63 rfl 0 rfl ?_
  refine ka_callVv0 (cells := 11) (slots := 100) (As := []) (rest := []) hA (m_M_readAll_R l G b tv n t3 h4) cd_X12_readAll wd_1486 (hc_MR_0 G.2.1 b tv t3) rfl rfl ⟨(Nat.le_of_ble_eq_true rfl), (Nat.le_of_ble_eq_true rfl)⟩ ⟨(Nat.le_of_ble_eq_true rfl), (Nat.le_of_ble_eq_true rfl)⟩ rfl rfl (Nat.le_of_ble_eq_true rfl) dX12_terrace_64 ?_
  refine ka_aload_n (i := 0) hA dX12_terrace_67 rfl 0 rfl ?_
  refine gta_MR_0_12 hA wd_1260 dX12_terrace_68 ?_
  refine ka_if_le (tgt := 89) hA dX12_terrace_71 rfl (fun hc => absurd h5 (Int32.not_lt.mpr hc)) (fun hc => ?_)
  refine ka_aload_n (i := 0) hA dX12_terrace_74 rfl 0 rfl ?_
  refine ka_iconst hA dX12_terrace_75 kc_i_4 ?_
  refine pta_MR_0_1 hA wd_1249 rfl dX12_terrace_76 ?_
  refine ka_aload_n (i := 0) hA dX12_terrace_79 rfl 0 rfl ?_
  refine ka_aload_n (i := 0) hA dX12_terrace_80 rfl 0 rfl ?_
  refine gta_MR_0_13 hA wd_1261 dX12_terrace_81 ?_
  refine pta_MR_0_2 hA wd_1250 (t2 := k_sI (k_sI t4 0 1 4) 0 2 (t4.1 0 13)) rfl dX12_terrace_84 ?_
  refine ka_iconst hA dX12_terrace_87 kc_i_m1 ?_
  refine ka_drop [0, 1, 2, 3, 4, 5, 6, 7, 8, 9, 10, 11, 12, 13, 14, 15, 16, 17] (by decide) (k_WRd G.2.1 b tv _) (k_WRd2 G.2.1 b tv _) ?_
  subst ea
  exact ka_iretM hA hr rfl ⟨rfl, _, k_WBe G.2.1 a _ tv _ _⟩ dX12_terrace_88
theorem m_M_terrace_ok (l : Launch) (G : k_G) (a : Nat → Nat) (tv rv : Value) (n : Nat) (x1 : Int32) (t : k_St) (h1 : ¬ x1 < 0) (h2 : ¬ t.1 0 6 < x1) {t3 t4 : k_St} (h3 : f_M_goesOn_R n (tm2 x1 t) = some t3) (h4 : f_M_readAll_R n t3 = some t4) (h5 : t4.1 0 12 = 0) {r : Int32} {t' : k_St} (h6 : f_Mt_L1 n n 0 t4 = some (r, t')) : k_MI l G yX12_terrace cX12_terrace 3 (some .int) rm_Mt (k_WB G.2.1 a tv rv t) [.ref (a 0), .int x1] (fun r' u => r' = r ∧ ∃ b, (∀ i, i < 18 → b i = a i) ∧ u = k_WT G.2.1 b (.ref (b 18)) t') 11 100 := by
  refine k_startMI (lv := [(0, .ref (a 0)), (1, .int x1)]) (by decide +kernel) (Nat.le_of_ble_eq_true rfl) rfl ?_
  intro p e s m args below meth c hA hin hr
  have hA : k_Amb p s m args meth c cX12_terrace 3 "TaleSharesModel" G _ := hA
  refine ka_aload_n (i := 0) hA dX12_terrace_0 rfl 0 rfl ?_
  refine ka_iconst hA dX12_terrace_1 kc_i_0 ?_
  refine pta_MB_0_0 hA wd_1248 rfl dX12_terrace_2 ?_
  refine ka_iload_n (i := 1) hA dX12_terrace_5 rfl 1 rfl ?_
  refine ka_if_lt (tgt := 17) hA dX12_terrace_6 rfl (fun hc => absurd hc h1) (fun hc => ?_)
  refine ka_iload_n (i := 1) hA dX12_terrace_9 rfl 1 rfl ?_
  refine ka_aload_n (i := 0) hA dX12_terrace_10 rfl 0 rfl ?_
  refine gta_MB_0_6 hA wd_1254 dX12_terrace_11 ?_
  refine ka_icmp_le (tgt := 23) hA dX12_terrace_14 rfl (fun hc2 => ?_) (fun hc2 => absurd (Int32.not_lt.mp h2) hc2)
  refine ka_aload_n (i := 0) hA dX12_terrace_23 rfl 0 rfl ?_
  refine ka_iload_n (i := 1) hA dX12_terrace_24 rfl 1 rfl ?_
  refine pta_MB_0_7 hA wd_1255 rfl dX12_terrace_25 ?_
  refine ka_aload_n (i := 0) hA dX12_terrace_28 rfl 0 rfl ?_
  refine ka_iconst hA dX12_terrace_29 kc_i_0 ?_
  refine pta_MB_0_6 hA wd_1254 rfl dX12_terrace_30 ?_
  refine ka_aload_n (i := 0) hA dX12_terrace_33 rfl 0 rfl ?_
  refine ka_iconst hA dX12_terrace_34 kc_i_0 ?_
  refine pta_MB_0_8 hA wd_1256 rfl dX12_terrace_35 ?_
  refine ka_aload_n (i := 0) hA dX12_terrace_38 rfl 0 rfl ?_
  refine ka_iconst hA dX12_terrace_39 kc_i_0 ?_
  refine pta_MB_0_12 hA wd_1260 rfl dX12_terrace_40 ?_
  refine ka_aload_n (i := 0) hA dX12_terrace_43 rfl 0 rfl ?_
  refine ka_new (ci := 9) (fs := [.int 0, .int 0, .int 0, .int 0, .int 0, .int 0, .int 0, .int 0, .int 0, .null, .null, .null, .null, .null, .null, .null, .null, .null, .null]) hA k_in_X11 tyX11 tyX11_ok wd_1394 wd_1395 wd_135 rfl (fun j hj => by rcases (show j = 0 ∨ j = 1 ∨ j = 2 ∨ j = 3 ∨ j = 4 ∨ j = 5 ∨ j = 6 ∨ j = 7 ∨ j = 8 ∨ j = 9 ∨ j = 10 ∨ j = 11 ∨ j = 12 ∨ j = 13 ∨ j = 14 ∨ j = 15 ∨ j = 16 ∨ j = 17 ∨ j = 18 by omega) with rfl | rfl | rfl | rfl | rfl | rfl | rfl | rfl | rfl | rfl | rfl | rfl | rfl | rfl | rfl | rfl | rfl | rfl | rfl <;> rfl) (Nat.le_of_ble_eq_true rfl) (Nat.le_of_ble_eq_true rfl) dX12_terrace_44 (fun q => ?_)
  refine ka_dup hA dX12_terrace_47 rfl ?_
  refine ka_callIN (R := rm_Mt) (cells := 1) (slots := 19) (w1 := k_WB G.2.1 a tv rv (tm1 x1 t)) (wc := [(q, .inr (9, [.int 0, .int 0, .int 0, .int 0, .int 0, .int 0, .int 0, .int 0, .int 0, .null, .null, .null, .null, .null, .null, .null, .null, .null, .null]))]) (w2 := []) (As := []) (rest := [.ref q, .ref (a 0)]) hA (i_X11_init l G q) ci_X11_init nm_RX12_307 ⟨(Nat.le_of_ble_eq_true rfl), (Nat.le_of_ble_eq_true rfl)⟩ ⟨(Nat.le_of_ble_eq_true rfl), (Nat.le_of_ble_eq_true rfl)⟩ rfl rfl (Nat.le_of_ble_eq_true rfl) dX12_terrace_48 (fun u hu => ?_)
  obtain ⟨q0, q1, q2, q3, q4, q5, q6, q7, q8, q9, rfl⟩ := hu
  refine ka_put (q0 := 0) (fs := k_fMB0 a tv rv (tm1 x1 t)) (w' := k_WR G.2.1 (ext a [q, q0, q1, q2, q3, q4, q5, q6, q7, q8, q9]) tv (frs (tm1 x1 t))) hA k_in_X12 tyX12 tyX12_ok nmX12 rfl rfl 4 (by decide) wd_1252 rfl (v := .ref q) rfl rfl (Nat.le_of_ble_eq_true rfl) rfl dX12_terrace_51 ?_
  generalize ea : ext a [q, q0, q1, q2, q3, q4, q5, q6, q7, q8, q9] = b
  have e0 : b 0 = a 0 := by rw [← ea]; rfl
  rw [← e0]
  refine ka_aload_n (i := 0) hA dX12_terrace_54 rfl 0 rfl ?_
  refine ka_iconst hA dX12_terrace_55 kc_i_0 ?_
  refine pta_MR_0_9 hA wd_1257 (t2 := tm2 x1 t) rfl dX12_terrace_56 ?_
  refine ka_aload_n (i := 0) hA dX12_terrace_59 rfl 0 rfl ?_
  refine ka_callVv0 (cells := 11) (slots := 100) (As := []) (rest := []) hA (m_M_goesOn_R l G b tv n (tm2 x1 t) h3) cd_X12_goesOn wd_1471 (hc_MR_0 G.2.1 b tv (tm2 x1 t)) rfl rfl ⟨(Nat.le_of_ble_eq_true rfl), (Nat.le_of_ble_eq_true rfl)⟩ ⟨(Nat.le_of_ble_eq_true rfl), (Nat.le_of_ble_eq_true rfl)⟩ rfl rfl (Nat.le_of_ble_eq_true rfl) dX12_terrace_60 ?_
  refine ka_aload_n (i := 0) hA dX12_terrace_63 rfl 0 rfl ?_
  refine ka_callVv0 (cells := 11) (slots := 100) (As := []) (rest := []) hA (m_M_readAll_R l G b tv n t3 h4) cd_X12_readAll wd_1486 (hc_MR_0 G.2.1 b tv t3) rfl rfl ⟨(Nat.le_of_ble_eq_true rfl), (Nat.le_of_ble_eq_true rfl)⟩ ⟨(Nat.le_of_ble_eq_true rfl), (Nat.le_of_ble_eq_true rfl)⟩ rfl rfl (Nat.le_of_ble_eq_true rfl) dX12_terrace_64 ?_
  refine ka_aload_n (i := 0) hA dX12_terrace_67 rfl 0 rfl ?_
  refine gta_MR_0_12 hA wd_1260 dX12_terrace_68 ?_
  have hab : ∀ i, i < 18 → b i = a i := fun i hi => by rw [← ea]; exact if_pos hi
  refine ka_if_le (tgt := 89) hA dX12_terrace_71 rfl (fun hc => ?_) (fun hc => absurd (by rw [h5]; decide) hc)
  refine ka_aload_n (i := 0) hA dX12_terrace_89 rfl 0 rfl ?_
  refine ka_aload_n (i := 0) hA dX12_terrace_90 rfl 0 rfl ?_
  refine gta_MR_0_4 hA wd_1252 dX12_terrace_91 ?_
  refine ka_put (w' := k_WT G.2.1 b (.ref (b 18)) t4) hA k_in_X12 tyX12 tyX12_ok nmX12 (hc_MR_0 G.2.1 b tv t4) rfl 3 (by decide) wd_1251 rfl (v := .ref (b 18)) rfl rfl (Nat.le_of_ble_eq_true rfl) rfl dX12_terrace_94 ?_
  refine ka_iconst hA dX12_terrace_97 kc_i_0 ?_
  refine ka_istore_n (i := 2) (lv' := [(2, .int (0 : Int32)), (0, .ref (b 0)), (1, .int x1)]) hA dX12_terrace_98 rfl rfl (Nat.le_of_ble_eq_true rfl) rfl ?_
  refine ka_pick (lv' := [(0, .ref (b 0)), (2, .int (0 : Int32))]) [1, 0] rfl ?_
  exact m_Mt_L1 l G b (.ref (b 18)) n hA hr ⟨rfl, b, hab, rfl⟩ n 0 t4 h6
