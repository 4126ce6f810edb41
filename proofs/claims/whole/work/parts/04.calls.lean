section KCALL
variable {p : Program} {l : Launch} {e : Env} {L : Nat} {s : State} {m : MethodId} {args : Array Value} {below : List Frame} {meth : Method} {c : Code} {Q : State → Prop} {cc : ByteArray} {nL : Nat} {own : String} {G : k_G} {A : Nat → Prop} {w w' : va_W} {pc : Nat} {lv lv' : List (Nat × Value)} {rest st : List Value}
variable {y : MethodName} {cc2 : ByteArray} {nL2 index n Lc b q0 ci N : Nat} {ret : Option FieldType} {As fs : List Value} {T : u_T}
theorem k_pre {H : Heap} {locs : List Loc} {vals : List Value} (hA : k_Amb p s m args meth c cc nL own G A) (hP : va_P G.1 vwCl w H) (hD : va_D A w) (hS : va_S A s.heap H locs) : PreS s H (k_Pc G w vals H.size) vals :=
  ⟨k_blind, fun U hU hW => ⟨rfl, by rw [hU], by rw [hU]; exact hP, hD.weaken (fun _ _ _ _ => trivial), by rw [hU]; exact hA.2.1.call hW hS (k_sub hD hS hA.2.2.1)⟩⟩
theorem k_cbV (hA : k_Amb p s m args meth c cc nL own G A) (hcard : k_cardV y cc2 nL2 ret n) (hlink : Cond.methodLink own index y ∈ k_TB) (hL : Lc + 1 ≤ L) : CallW (k_rm L) s args own y.cls index y cc2 nL2 ret (.code y cc2 nL2 ret :: k_TB) (k_rm Lc) 0 0 n :=
  ⟨callB_of n hA.1.2.2.2.2 (k_good hcard.1) rfl rfl rfl (hA.1.2.2.2.2 _ hcard.2.2.2.1) (hA.1.2.2.2.2 _ hlink) ⟨hcard.2.2.2.2.1, hcard.2.2.2.2.2.1, hcard.2.2.2.2.2.2.1⟩ ⟨hL, by have := hcard.2.2.2.2.2.2.2; simp only [k_rm]; omega⟩, hA.1.2.2.2.2 _ hcard.2.1, hA.1.2.2.2.2 _ hcard.2.2.1⟩
theorem k_cbS (hA : k_Amb p s m args meth c cc nL own G A) (hcard : k_cardS y cc2 nL2 ret n) (hlink : Cond.methodLink own index y ∈ k_TB) (hL : Lc + 1 ≤ L) : CallB (k_rm L) s args own index y cc2 nL2 ret (.code y cc2 nL2 ret :: k_TB) (k_rm Lc) 0 0 n ∧ (Cond.static y).before args s = true :=
  ⟨callB_of n hA.1.2.2.2.2 (k_good hcard.1) rfl rfl rfl (hA.1.2.2.2.2 _ hcard.2.2.1) (hA.1.2.2.2.2 _ hlink) ⟨hcard.2.2.2.1, hcard.2.2.2.2.1, hcard.2.2.2.2.2.1⟩ ⟨hL, by have := hcard.2.2.2.2.2.2; simp only [k_rm]; omega⟩, hA.1.2.2.2.2 _ hcard.2.1⟩
theorem k_cbSN {host : String} (hA : k_Amb p s m args meth c cc nL own G A) (hcard : k_cardS y cc2 nL2 ret n) (hlink : (own, index, y, host) ∈ k_nM) (hL : Lc + 1 ≤ L) : va_CN (k_rm L) s args own index y host cc2 nL2 ret (.code y cc2 nL2 ret :: k_TB) (k_rm Lc) 0 0 n ∧ (Cond.static y).before args s = true ∧ True :=
  ⟨va_cnB n hA.1.2.2.2.2 (k_good hcard.1) rfl rfl rfl (hA.2.1.2.1.2 _ hlink) (hA.1.2.2.2.2 _ hcard.2.2.1) ⟨hcard.2.2.2.1, hcard.2.2.2.2.1, hcard.2.2.2.2.2.1⟩ ⟨hL, by have := hcard.2.2.2.2.2.2; simp only [k_rm]; omega⟩, hA.1.2.2.2.2 _ hcard.2.1, trivial⟩
theorem k_recv {H : Heap} (hA : k_Amb p s m args meth c cc nL own G A) (hP : va_P G.1 vwCl w H) {C : String} (hq : w[q0]? = some (b, .inr (ci, fs))) (hc : vwCl[ci]? = some (C, T, N)) (hC : C = y.cls) : ∃ cellB : Cell, H[b]? = some cellB ∧ cellB.vm.isStatics = false ∧ s.vm.findClass y.cls = some cellB.cls := by
  subst hC
  exact va_recv hA.2.1.1 hP hc hq
theorem k_callVi {r : Int32} (hA : k_Amb p s m args meth c cc nL own G A) (hM : k_CI l G y cc2 nL2 ret Lc w (.ref b :: As) r w') (hcard : k_cardV y cc2 nL2 ret n) (hlink : Cond.methodLink own index y ∈ k_TB) {C : String} (hq : w[q0]? = some (b, .inr (ci, fs))) (hc : vwCl[ci]? = some (C, T, N)) (hC : C = y.cls) (hL : Lc + 1 ≤ L) (hn : As.length = n) (hst : st = As.reverse ++ .ref b :: rest) (hr : (rest.map fun v => v.category).sum ≤ 8) (hd : decode cc pc = .ok (.invokevirtual index, 3)) (k : k_Go p l e (k_rm L) s m args below meth c Q nL G A w' (pc + 3) lv (.int r :: rest)) : k_Go p l e (k_rm L) s m args below meth c Q nL G A w pc lv st := fun H locs ls hP hD hS hl =>
  va_calli (va_runV (As := As) (rest := rest) hA.1 (hM H.size) (k_cbV hA hcard hlink hL) ⟨k_blind, k_recv hA hP hq hc hC, (k_pre hA hP hD hS).2⟩ rfl hn hl.1 hst (lv_room hr) hd ⟨Nat.le_refl _, Nat.le_refl _⟩) hS (fun q _ h => k_sub hD hS hA.2.2.1 _ h) (k_sub hD hS hA.2.2.1) (fun r2 u t H1 locs1 ht hvm hw hB hz1 hk1 hS1 => by subst hw; exact k H1 locs1 ls (by have h9 := hB.1; rw [ht] at h9; exact h9) (hB.2.weaken (fun _ _ _ h => k_sub hD hS hA.2.2.1 _ h)) hS1 hl)
theorem k_callSi {r : Int32} (hA : k_Amb p s m args meth c cc nL own G A) (hM : k_CI l G y cc2 nL2 ret Lc w As r w') (hcard : k_cardS y cc2 nL2 ret n) (hlink : Cond.methodLink own index y ∈ k_TB) (hL : Lc + 1 ≤ L) (hn : As.length = n) (hst : st = As.reverse ++ rest) (hr : (rest.map fun v => v.category).sum ≤ 8) (hd : decode cc pc = .ok (.invokestatic index, 3)) (k : k_Go p l e (k_rm L) s m args below meth c Q nL G A w' (pc + 3) lv (.int r :: rest)) : k_Go p l e (k_rm L) s m args below meth c Q nL G A w pc lv st := fun H locs ls hP hD hS hl =>
  va_calli (va_runS (As := As) (rest := rest) hA.1 (hM H.size) (k_cbS hA hcard hlink hL) (k_pre hA hP hD hS) rfl hn hl.1 hst (lv_room hr) hd ⟨Nat.le_refl _, Nat.le_refl _⟩) hS (fun q _ h => k_sub hD hS hA.2.2.1 _ h) (k_sub hD hS hA.2.2.1) (fun r2 u t H1 locs1 ht hvm hw hB hz1 hk1 hS1 => by subst hw; exact k H1 locs1 ls (by have h9 := hB.1; rw [ht] at h9; exact h9) (hB.2.weaken (fun _ _ _ h => k_sub hD hS hA.2.2.1 _ h)) hS1 hl)
theorem k_callSNi {r : Int32} (hA : k_Amb p s m args meth c cc nL own G A) (hM : k_CI l G y cc2 nL2 ret Lc w As r w') (hcard : k_cardS y cc2 nL2 ret n) {host : String} (hlink : (own, index, y, host) ∈ k_nM) (hL : Lc + 1 ≤ L) (hn : As.length = n) (hst : st = As.reverse ++ rest) (hr : (rest.map fun v => v.category).sum ≤ 8) (hd : decode cc pc = .ok (.invokestatic index, 3)) (k : k_Go p l e (k_rm L) s m args below meth c Q nL G A w' (pc + 3) lv (.int r :: rest)) : k_Go p l e (k_rm L) s m args below meth c Q nL G A w pc lv st := fun H locs ls hP hD hS hl =>
  va_calli (va_runSN (As := As) (rest := rest) hA.1 (hM H.size) (k_cbSN hA hcard hlink hL) (k_pre hA hP hD hS) rfl hn hl.1 hst (lv_room hr) hd ⟨Nat.le_refl _, Nat.le_refl _⟩) hS (fun q _ h => k_sub hD hS hA.2.2.1 _ h) (k_sub hD hS hA.2.2.1) (fun r2 u t H1 locs1 ht hvm hw hB hz1 hk1 hS1 => by subst hw; exact k H1 locs1 ls (by have h9 := hB.1; rw [ht] at h9; exact h9) (hB.2.weaken (fun _ _ _ h => k_sub hD hS hA.2.2.1 _ h)) hS1 hl)
theorem k_callVl {r : Int64} (hA : k_Amb p s m args meth c cc nL own G A) (hM : k_CL l G y cc2 nL2 ret Lc w (.ref b :: As) r w') (hcard : k_cardV y cc2 nL2 ret n) (hlink : Cond.methodLink own index y ∈ k_TB) {C : String} (hq : w[q0]? = some (b, .inr (ci, fs))) (hc : vwCl[ci]? = some (C, T, N)) (hC : C = y.cls) (hL : Lc + 1 ≤ L) (hn : As.length = n) (hst : st = As.reverse ++ .ref b :: rest) (hr : (rest.map fun v => v.category).sum ≤ 8) (hd : decode cc pc = .ok (.invokevirtual index, 3)) (k : k_Go p l e (k_rm L) s m args below meth c Q nL G A w' (pc + 3) lv (.long r :: rest)) : k_Go p l e (k_rm L) s m args below meth c Q nL G A w pc lv st := fun H locs ls hP hD hS hl =>
  va_calll (va_runV (As := As) (rest := rest) hA.1 (hM H.size) (k_cbV hA hcard hlink hL) ⟨k_blind, k_recv hA hP hq hc hC, (k_pre hA hP hD hS).2⟩ rfl hn hl.1 hst (lv_room hr) hd ⟨Nat.le_refl _, Nat.le_refl _⟩) hS (fun q _ h => k_sub hD hS hA.2.2.1 _ h) (k_sub hD hS hA.2.2.1) (fun r2 u t H1 locs1 ht hvm hw hB hz1 hk1 hS1 => by subst hw; exact k H1 locs1 ls (by have h9 := hB.1; rw [ht] at h9; exact h9) (hB.2.weaken (fun _ _ _ h => k_sub hD hS hA.2.2.1 _ h)) hS1 hl)
theorem k_callSl {r : Int64} (hA : k_Amb p s m args meth c cc nL own G A) (hM : k_CL l G y cc2 nL2 ret Lc w As r w') (hcard : k_cardS y cc2 nL2 ret n) (hlink : Cond.methodLink own index y ∈ k_TB) (hL : Lc + 1 ≤ L) (hn : As.length = n) (hst : st = As.reverse ++ rest) (hr : (rest.map fun v => v.category).sum ≤ 8) (hd : decode cc pc = .ok (.invokestatic index, 3)) (k : k_Go p l e (k_rm L) s m args below meth c Q nL G A w' (pc + 3) lv (.long r :: rest)) : k_Go p l e (k_rm L) s m args below meth c Q nL G A w pc lv st := fun H locs ls hP hD hS hl =>
  va_calll (va_runS (As := As) (rest := rest) hA.1 (hM H.size) (k_cbS hA hcard hlink hL) (k_pre hA hP hD hS) rfl hn hl.1 hst (lv_room hr) hd ⟨Nat.le_refl _, Nat.le_refl _⟩) hS (fun q _ h => k_sub hD hS hA.2.2.1 _ h) (k_sub hD hS hA.2.2.1) (fun r2 u t H1 locs1 ht hvm hw hB hz1 hk1 hS1 => by subst hw; exact k H1 locs1 ls (by have h9 := hB.1; rw [ht] at h9; exact h9) (hB.2.weaken (fun _ _ _ h => k_sub hD hS hA.2.2.1 _ h)) hS1 hl)
theorem k_callSNl {r : Int64} (hA : k_Amb p s m args meth c cc nL own G A) (hM : k_CL l G y cc2 nL2 ret Lc w As r w') (hcard : k_cardS y cc2 nL2 ret n) {host : String} (hlink : (own, index, y, host) ∈ k_nM) (hL : Lc + 1 ≤ L) (hn : As.length = n) (hst : st = As.reverse ++ rest) (hr : (rest.map fun v => v.category).sum ≤ 8) (hd : decode cc pc = .ok (.invokestatic index, 3)) (k : k_Go p l e (k_rm L) s m args below meth c Q nL G A w' (pc + 3) lv (.long r :: rest)) : k_Go p l e (k_rm L) s m args below meth c Q nL G A w pc lv st := fun H locs ls hP hD hS hl =>
  va_calll (va_runSN (As := As) (rest := rest) hA.1 (hM H.size) (k_cbSN hA hcard hlink hL) (k_pre hA hP hD hS) rfl hn hl.1 hst (lv_room hr) hd ⟨Nat.le_refl _, Nat.le_refl _⟩) hS (fun q _ h => k_sub hD hS hA.2.2.1 _ h) (k_sub hD hS hA.2.2.1) (fun r2 u t H1 locs1 ht hvm hw hB hz1 hk1 hS1 => by subst hw; exact k H1 locs1 ls (by have h9 := hB.1; rw [ht] at h9; exact h9) (hB.2.weaken (fun _ _ _ h => k_sub hD hS hA.2.2.1 _ h)) hS1 hl)
theorem k_callVv (hA : k_Amb p s m args meth c cc nL own G A) (hM : k_CV l G y cc2 nL2 ret Lc w (.ref b :: As)  w') (hcard : k_cardV y cc2 nL2 ret n) (hlink : Cond.methodLink own index y ∈ k_TB) {C : String} (hq : w[q0]? = some (b, .inr (ci, fs))) (hc : vwCl[ci]? = some (C, T, N)) (hC : C = y.cls) (hL : Lc + 1 ≤ L) (hn : As.length = n) (hst : st = As.reverse ++ .ref b :: rest) (hr : (rest.map fun v => v.category).sum ≤ 8) (hd : decode cc pc = .ok (.invokevirtual index, 3)) (k : k_Go p l e (k_rm L) s m args below meth c Q nL G A w' (pc + 3) lv rest) : k_Go p l e (k_rm L) s m args below meth c Q nL G A w pc lv st := fun H locs ls hP hD hS hl =>
  va_callv (va_runV (As := As) (rest := rest) hA.1 (hM H.size) (k_cbV hA hcard hlink hL) ⟨k_blind, k_recv hA hP hq hc hC, (k_pre hA hP hD hS).2⟩ rfl hn hl.1 hst (lv_room hr) hd ⟨Nat.le_refl _, Nat.le_refl _⟩) hS (fun q _ h => k_sub hD hS hA.2.2.1 _ h) (k_sub hD hS hA.2.2.1) (fun u t H1 locs1 ht hvm hw hB hz1 hk1 hS1 => k H1 locs1 ls (by have h9 := hB.1; rw [ht] at h9; exact h9) (hB.2.weaken (fun _ _ _ h => k_sub hD hS hA.2.2.1 _ h)) hS1 hl)
theorem k_callSv (hA : k_Amb p s m args meth c cc nL own G A) (hM : k_CV l G y cc2 nL2 ret Lc w As  w') (hcard : k_cardS y cc2 nL2 ret n) (hlink : Cond.methodLink own index y ∈ k_TB) (hL : Lc + 1 ≤ L) (hn : As.length = n) (hst : st = As.reverse ++ rest) (hr : (rest.map fun v => v.category).sum ≤ 8) (hd : decode cc pc = .ok (.invokestatic index, 3)) (k : k_Go p l e (k_rm L) s m args below meth c Q nL G A w' (pc + 3) lv rest) : k_Go p l e (k_rm L) s m args below meth c Q nL G A w pc lv st := fun H locs ls hP hD hS hl =>
  va_callv (va_runS (As := As) (rest := rest) hA.1 (hM H.size) (k_cbS hA hcard hlink hL) (k_pre hA hP hD hS) rfl hn hl.1 hst (lv_room hr) hd ⟨Nat.le_refl _, Nat.le_refl _⟩) hS (fun q _ h => k_sub hD hS hA.2.2.1 _ h) (k_sub hD hS hA.2.2.1) (fun u t H1 locs1 ht hvm hw hB hz1 hk1 hS1 => k H1 locs1 ls (by have h9 := hB.1; rw [ht] at h9; exact h9) (hB.2.weaken (fun _ _ _ h => k_sub hD hS hA.2.2.1 _ h)) hS1 hl)
theorem k_callSNv (hA : k_Amb p s m args meth c cc nL own G A) (hM : k_CV l G y cc2 nL2 ret Lc w As  w') (hcard : k_cardS y cc2 nL2 ret n) {host : String} (hlink : (own, index, y, host) ∈ k_nM) (hL : Lc + 1 ≤ L) (hn : As.length = n) (hst : st = As.reverse ++ rest) (hr : (rest.map fun v => v.category).sum ≤ 8) (hd : decode cc pc = .ok (.invokestatic index, 3)) (k : k_Go p l e (k_rm L) s m args below meth c Q nL G A w' (pc + 3) lv rest) : k_Go p l e (k_rm L) s m args below meth c Q nL G A w pc lv st := fun H locs ls hP hD hS hl =>
  va_callv (va_runSN (As := As) (rest := rest) hA.1 (hM H.size) (k_cbSN hA hcard hlink hL) (k_pre hA hP hD hS) rfl hn hl.1 hst (lv_room hr) hd ⟨Nat.le_refl _, Nat.le_refl _⟩) hS (fun q _ h => k_sub hD hS hA.2.2.1 _ h) (k_sub hD hS hA.2.2.1) (fun u t H1 locs1 ht hvm hw hB hz1 hk1 hS1 => k H1 locs1 ls (by have h9 := hB.1; rw [ht] at h9; exact h9) (hB.2.weaken (fun _ _ _ h => k_sub hD hS hA.2.2.1 _ h)) hS1 hl)
def k_QI (G : k_G) (w : va_W) (r : Int32) (w' : va_W) (args : Array Value) (s : State) (below : List Frame) : State → Prop := MQ below (va_Qi (fun (r' : Int32) (_ : Unit) => r' = r) (k_B G w w' s.heap.size) (va_A w s.heap.size)) args s 0 0 (va_A w s.heap.size)
theorem k_startI {r : Int32} {vals : List Value} (hy : plainName y.cls = true) (hlen : (lg_sl vals).length ≤ nL) (hlv : lv_args 0 vals = lv) (body : ∀ (p : Program) (e : Env) (s : State) (m : MethodId) (args : Array Value) (below : List Frame) (meth : Method) (c : Code), k_Amb p s m args meth c cc nL y.cls G (va_A w s.heap.size) → meth.sig.returnType = ret → k_Go p l e (k_rm L) s m args below meth c (k_QI G w r w' args s below) nL G (va_A w s.heap.size) w 0 lv []) : k_CI l G y cc nL ret L w vals r w' := by
  intro sz
  refine Met.ofW (cc := cc) (maxL := nL) (ret := ret) hy rfl ?_
  intro p e s m args below meth c s₁ B hml hv
  obtain ⟨rfl, hsz, hP, hD0, hE⟩ := hv
  subst hsz
  have hts := atoms_spec (ws := .code y cc nL ret :: k_TB) B.pre
  have hl := lv_entry vals (n := nL) hlen
  rw [lg_entry_eq]
  rw [hlv] at hl
  exact body p e s m _ below meth c ⟨⟨B.exec, B.bytes, hml, findClass_of_methodNamed B.named, fun w hw => hts w (List.mem_cons_of_mem _ hw)⟩, hE, fun q h => Or.inr h, B.notSynchronized⟩ B.returns s.heap [] _ hP hD0.self va_S.rf hl
def k_QL (G : k_G) (w : va_W) (r : Int64) (w' : va_W) (args : Array Value) (s : State) (below : List Frame) : State → Prop := MQ below (va_Ql (fun (r' : Int64) (_ : Unit) => r' = r) (k_B G w w' s.heap.size) (va_A w s.heap.size)) args s 0 0 (va_A w s.heap.size)
theorem k_startL {r : Int64} {vals : List Value} (hy : plainName y.cls = true) (hlen : (lg_sl vals).length ≤ nL) (hlv : lv_args 0 vals = lv) (body : ∀ (p : Program) (e : Env) (s : State) (m : MethodId) (args : Array Value) (below : List Frame) (meth : Method) (c : Code), k_Amb p s m args meth c cc nL y.cls G (va_A w s.heap.size) → meth.sig.returnType = ret → k_Go p l e (k_rm L) s m args below meth c (k_QL G w r w' args s below) nL G (va_A w s.heap.size) w 0 lv []) : k_CL l G y cc nL ret L w vals r w' := by
  intro sz
  refine Met.ofW (cc := cc) (maxL := nL) (ret := ret) hy rfl ?_
  intro p e s m args below meth c s₁ B hml hv
  obtain ⟨rfl, hsz, hP, hD0, hE⟩ := hv
  subst hsz
  have hts := atoms_spec (ws := .code y cc nL ret :: k_TB) B.pre
  have hl := lv_entry vals (n := nL) hlen
  rw [lg_entry_eq]
  rw [hlv] at hl
  exact body p e s m _ below meth c ⟨⟨B.exec, B.bytes, hml, findClass_of_methodNamed B.named, fun w hw => hts w (List.mem_cons_of_mem _ hw)⟩, hE, fun q h => Or.inr h, B.notSynchronized⟩ B.returns s.heap [] _ hP hD0.self va_S.rf hl
def k_QV (G : k_G) (w : va_W)  (w' : va_W) (args : Array Value) (s : State) (below : List Frame) : State → Prop := MQ below (va_Qv (fun (_ : Unit) => True) (k_B G w w' s.heap.size) (va_A w s.heap.size)) args s 0 0 (va_A w s.heap.size)
theorem k_startV  {vals : List Value} (hy : plainName y.cls = true) (hlen : (lg_sl vals).length ≤ nL) (hlv : lv_args 0 vals = lv) (body : ∀ (p : Program) (e : Env) (s : State) (m : MethodId) (args : Array Value) (below : List Frame) (meth : Method) (c : Code), k_Amb p s m args meth c cc nL y.cls G (va_A w s.heap.size) → meth.sig.returnType = ret → k_Go p l e (k_rm L) s m args below meth c (k_QV G w  w' args s below) nL G (va_A w s.heap.size) w 0 lv []) : k_CV l G y cc nL ret L w vals  w' := by
  intro sz
  refine Met.ofW (cc := cc) (maxL := nL) (ret := ret) hy rfl ?_
  intro p e s m args below meth c s₁ B hml hv
  obtain ⟨rfl, hsz, hP, hD0, hE⟩ := hv
  subst hsz
  have hts := atoms_spec (ws := .code y cc nL ret :: k_TB) B.pre
  have hl := lv_entry vals (n := nL) hlen
  rw [lg_entry_eq]
  rw [hlv] at hl
  exact body p e s m _ below meth c ⟨⟨B.exec, B.bytes, hml, findClass_of_methodNamed B.named, fun w hw => hts w (List.mem_cons_of_mem _ hw)⟩, hE, fun q h => Or.inr h, B.notSynchronized⟩ B.returns s.heap [] _ hP hD0.self va_S.rf hl
theorem k_iret {ty : FieldType} {r : Int32} {R : Room} {w0 : va_W} (hA : k_Amb p s m args meth c cc nL own G (va_A w0 s.heap.size)) (hr : meth.sig.returnType = some ty) (hn : narrow ty (.int r) = .int r) (hd : decode cc pc = .ok (.ireturn, 1)) : k_Go p l e R s m args below meth c (k_QI G w0 r w args s below) nL G (va_A w0 s.heap.size) w pc lv [.int r] := fun H locs ls hP hD hS hl =>
  W.zret hA.1.1 hA.1.2.1 hr hn (fun t ht hW => ⟨⟨r, (), rfl, rfl, by rw [ht]; exact hP, hD⟩, hS.F ht⟩) (fun q hq => hS.2.2 q hq) hd hA.2.2.2
theorem k_lret {r : Int64} {R : Room} {w0 : va_W} (hA : k_Amb p s m args meth c cc nL own G (va_A w0 s.heap.size)) (hr : meth.sig.returnType = some .long) (hd : decode cc pc = .ok (.lreturn, 1)) : k_Go p l e R s m args below meth c (k_QL G w0 r w args s below) nL G (va_A w0 s.heap.size) w pc lv [.long r] := fun H locs ls hP hD hS hl =>
  W.lret hA.1.1 hA.1.2.1 hr (fun t ht hW => ⟨⟨r, (), rfl, rfl, by rw [ht]; exact hP, hD⟩, hS.F ht⟩) (fun q hq => hS.2.2 q hq) hd hA.2.2.2
theorem k_vret {R : Room} {w0 : va_W} (hA : k_Amb p s m args meth c cc nL own G (va_A w0 s.heap.size)) (hr : meth.sig.returnType = none) (hd : decode cc pc = .ok (.return_, 1)) : k_Go p l e R s m args below meth c (k_QV G w0 w args s below) nL G (va_A w0 s.heap.size) w pc lv [] := fun H locs ls hP hD hS hl =>
  W.vret hA.1.1 hA.1.2.1 hr (fun t ht hW => ⟨⟨(), rfl, trivial, by rw [ht]; exact hP, hD⟩, hS.F ht⟩) (fun q hq => hS.2.2 q hq) hd hA.2.2.2
theorem k_narB {r : Int32} (h : r &&& 1 = r) : narrow .boolean (.int r) = .int r := by
  show Value.int (r &&& 1) = _
  rw [h]
theorem k_mmax {x y : Int32} (hA : k_Amb p s m args meth c cc nL own G A) (hlink : Cond.methodLink own index Lib.Math.max.name ∈ k_TB) (hst : Cond.static Lib.Math.max.name ∈ k_TB) (hini : Cond.initialized "java/lang/Math" ∈ k_TB) (hcode : Cond.code Lib.Math.max.name Lib.Math.max.code 2 (some .int) ∈ k_TB) (hL : 1 ≤ L) (hr : (rest.map fun v => v.category).sum ≤ 8) (hd : decode cc pc = .ok (.invokestatic index, 3)) (k : k_Go p l e (k_rm L) s m args below meth c Q nL G A w (pc + 3) lv (.int (if x < y then y else x) :: rest)) : k_Go p l e (k_rm L) s m args below meth c Q nL G A w pc lv (.int y :: .int x :: rest) := fun H locs ls hP hD hS hl =>
  va_mmax hA.1.1 hA.1.2.1 (hA.1.2.2.1.trans hl.1.symm) hA.1.2.2.2.1 (hA.1.2.2.2.2 _ hlink) (hA.1.2.2.2.2 _ hst) (hA.1.2.2.2.2 _ hini) (hA.1.2.2.2.2 _ hcode) hL (by simp only [k_rm]; omega) (Nat.zero_le _) (Nat.zero_le _) hd (k H locs ls hP hD hS hl)
theorem k_mmin {x y : Int32} (hA : k_Amb p s m args meth c cc nL own G A) (hlink : Cond.methodLink own index Lib.Math.min.name ∈ k_TB) (hst : Cond.static Lib.Math.min.name ∈ k_TB) (hini : Cond.initialized "java/lang/Math" ∈ k_TB) (hcode : Cond.code Lib.Math.min.name Lib.Math.min.code 2 (some .int) ∈ k_TB) (hL : 1 ≤ L) (hr : (rest.map fun v => v.category).sum ≤ 8) (hd : decode cc pc = .ok (.invokestatic index, 3)) (k : k_Go p l e (k_rm L) s m args below meth c Q nL G A w (pc + 3) lv (.int (if y < x then y else x) :: rest)) : k_Go p l e (k_rm L) s m args below meth c Q nL G A w pc lv (.int y :: .int x :: rest) := fun H locs ls hP hD hS hl =>
  va_mmin hA.1.1 hA.1.2.1 (hA.1.2.2.1.trans hl.1.symm) hA.1.2.2.2.1 (hA.1.2.2.2.2 _ hlink) (hA.1.2.2.2.2 _ hst) (hA.1.2.2.2.2 _ hini) (hA.1.2.2.2.2 _ hcode) hL (by simp only [k_rm]; omega) (Nat.zero_le _) (Nat.zero_le _) hd (k H locs ls hP hD hS hl)
theorem k_mabs {x : Int32} (hA : k_Amb p s m args meth c cc nL own G A) (hlink : Cond.methodLink own index Lib.Math.abs.name ∈ k_TB) (hst : Cond.static Lib.Math.abs.name ∈ k_TB) (hini : Cond.initialized "java/lang/Math" ∈ k_TB) (hcode : Cond.code Lib.Math.abs.name Lib.Math.abs.code 1 (some .int) ∈ k_TB) (hL : 1 ≤ L) (hr : (rest.map fun v => v.category).sum ≤ 8) (hd : decode cc pc = .ok (.invokestatic index, 3)) (k : k_Go p l e (k_rm L) s m args below meth c Q nL G A w (pc + 3) lv (.int (if 0 ≤ x then x else 0 - x) :: rest)) : k_Go p l e (k_rm L) s m args below meth c Q nL G A w pc lv (.int x :: rest) := fun H locs ls hP hD hS hl =>
  va_mabs hA.1.1 hA.1.2.1 (hA.1.2.2.1.trans hl.1.symm) hA.1.2.2.2.1 (hA.1.2.2.2.2 _ hlink) (hA.1.2.2.2.2 _ hst) (hA.1.2.2.2.2 _ hini) (hA.1.2.2.2.2 _ hcode) hL (by simp only [k_rm]; omega) (Nat.zero_le _) (Nat.zero_le _) hd (k H locs ls hP hD hS hl)
theorem k_mmax_long {x y : Int64} (hA : k_Amb p s m args meth c cc nL own G A) (hlink : Cond.methodLink own index Lib.MathLoose.max_long.x ∈ k_TB) (hst : Cond.static Lib.MathLoose.max_long.x ∈ k_TB) (hini : Cond.initialized "java/lang/Math" ∈ k_TB) (hcode : Cond.code Lib.MathLoose.max_long.x Lib.MathLoose.max_long.code 4 (some .long) ∈ k_TB) (hL : 1 ≤ L) (hr : (rest.map fun v => v.category).sum ≤ 8) (hd : decode cc pc = .ok (.invokestatic index, 3)) (k : k_Go p l e (k_rm L) s m args below meth c Q nL G A w (pc + 3) lv (.long (if y < x then x else y) :: rest)) : k_Go p l e (k_rm L) s m args below meth c Q nL G A w pc lv (.long y :: .long x :: rest) := fun H locs ls hP hD hS hl =>
  va_mmax_long hA.1.1 hA.1.2.1 (hA.1.2.2.1.trans hl.1.symm) hA.1.2.2.2.1 (hA.1.2.2.2.2 _ hlink) (hA.1.2.2.2.2 _ hst) (hA.1.2.2.2.2 _ hini) (hA.1.2.2.2.2 _ hcode) hL (by simp only [k_rm]; omega) (Nat.zero_le _) (Nat.zero_le _) hd (k H locs ls hP hD hS hl)
theorem k_tin {dflt lo hi : Int} {offs : Array Int} {len : Nat} {x : Int32} {off : Int} {tgt : Nat} (hA : k_Amb p s m args meth c cc nL own G A) (hd : decode cc pc = .ok (.tableswitch dflt lo hi offs, len)) (h1 : ¬ x.toInt < lo) (h2 : ¬ hi < x.toInt) (ho : offs[(x.toInt - lo).toNat]? = some off) (ht : (pc : Int) + off = (tgt : Int)) (k : k_Go p l e (k_rm L) s m args below meth c Q nL G A w tgt lv rest) : k_Go p l e (k_rm L) s m args below meth c Q nL G A w pc lv (.int x :: rest) := fun H locs ls hP hD hS hl => lv_tableIn hA.1.1 hA.1.2.1 hd h1 h2 ho ht (k H locs ls hP hD hS hl)
theorem k_tout {dflt lo hi : Int} {offs : Array Int} {len : Nat} {x : Int32} {tgt : Nat} (hA : k_Amb p s m args meth c cc nL own G A) (hd : decode cc pc = .ok (.tableswitch dflt lo hi offs, len)) (h : x.toInt < lo ∨ hi < x.toInt) (ht : (pc : Int) + dflt = (tgt : Int)) (k : k_Go p l e (k_rm L) s m args below meth c Q nL G A w tgt lv rest) : k_Go p l e (k_rm L) s m args below meth c Q nL G A w pc lv (.int x :: rest) := fun H locs ls hP hD hS hl => lv_tableOut hA.1.1 hA.1.2.1 hd h ht (k H locs ls hP hD hS hl)
end KCALL
/-! ===== the programs that the methods are: none where an index is wrong, a divisor is 0, or turns run out ===== -/
def k_lt {α β : Type} (x : α) (k : α → β) : β := k x
theorem k_lt_e {α β : Type} {x : α} {k : α → β} {r : β} (h : k_lt x k = r) : ∃ z, z = x ∧ k z = r := ⟨x, rfl, h⟩
def k_gd {β : Type} (c : Prop) [Decidable c] (k : Option β) : Option β := if c then k else none
theorem k_gd_e {β : Type} {c : Prop} [Decidable c] {k : Option β} {r : β} (h : k_gd c k = some r) : c ∧ k = some r := by
  unfold k_gd at h
  split at h
  · exact ⟨by assumption, h⟩
  · cases h
def k_cl {α β : Type} (o : Option (α × k_St)) (k : α → k_St → Option β) : Option β := match o with
  | none => none
  | some q => k q.1 q.2
theorem k_cl_e {α β : Type} {o : Option (α × k_St)} {k : α → k_St → Option β} {r : β} (h : k_cl o k = some r) : ∃ (x : α) (t : k_St), o = some (x, t) ∧ k x t = some r := by
  cases o with
  | none => cases h
  | some q => exact ⟨q.1, q.2, rfl, h⟩
def k_cv {β : Type} (o : Option k_St) (k : k_St → Option β) : Option β := match o with
  | none => none
  | some q => k q
theorem k_cv_e {β : Type} {o : Option k_St} {k : k_St → Option β} {r : β} (h : k_cv o k = some r) : ∃ t : k_St, o = some t ∧ k t = some r := by
  cases o with
  | none => cases h
  | some q => exact ⟨q, rfl, h⟩
/-- a callee that writes nothing -/
def k_cp {α β : Type} (o : Option α) (k : α → Option β) : Option β := match o with
  | none => none
  | some q => k q
theorem k_cp_e {α β : Type} {o : Option α} {k : α → Option β} {r : β} (h : k_cp o k = some r) : ∃ x : α, o = some x ∧ k x = some r := by
  cases o with
  | none => cases h
  | some q => exact ⟨q, rfl, h⟩
def k_loop {S β : Type} (body : (S → Option β) → S → Option β) : Nat → S → Option β
  | 0, _ => none
  | n + 1, x => body (k_loop body n) x
def k_sI (t : k_St) (o j : Nat) (v : Int32) : k_St := (fun o' => if o' = o then upd (t.1 o) j v else t.1 o', t.2)
def k_sL (t : k_St) (o j : Nat) (v : Int64) : k_St := (t.1, fun o' => if o' = o then vp_updL (t.2 o) j v else t.2 o')
abbrev k_in (i : Int32) (n : Nat) : Prop := ¬ (i < 0 ∨ n ≤ i.toNatClampNeg)
theorem k_tot {α : Type} {x y : α} (h : some x = some y) : x = y := Option.some.inj h
