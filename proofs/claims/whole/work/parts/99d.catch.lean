/-! ===== the one handler of a method, its class not yet looked up ===== -/
section CT
variable {e : Env} {a : Addr}
theorem ct_find {s : State} {f : JFrame} {meth : Method} {c : Code} {x : ExceptionTableEntry} {cT : ClassId} {cell : Cell} (hm : s.vm.method? f.method = some meth) (hc : meth.code = some c) (hx : c.exceptionTable.toList = [x]) (hcov : covers x f.pc = true) (h0 : x.catchType ≠ 0)
    (hl : s.vm.ClassLinks e.platform f.method.cls x.catchType cT) (hcell : s.heap[a]? = some cell) (hobj : ∀ k, cell.vm ≠ .statics k) (hk : ∃ k, s.vm.classes[cell.cls]? = some k) (hcl : ∃ k, s.vm.classes[cT]? = some k) (hfit : s.vm.assignable cell.cls cT = true)
    (Q : Handler → Pre) (E : CtlPost) (d : Bool) (acts : List Action) : wp (findHandler f a) Q E e d acts s ↔ Q (.found x.handlerPc) d acts (s.setVm (s.vm.noted f.method.cls x.catchType (.cls cT))) := by
  have al : s.vm.Alike (s.vm.noted f.method.cls x.catchType (.cls cT)) := (Vm.Alike.refl s.vm).noted _ _ _
  obtain ⟨k1, hk1⟩ := hk
  obtain ⟨k2, hk2⟩ := hcl
  obtain ⟨j1, hj1, -⟩ := al.2.2 _ _ hk1
  obtain ⟨j2, hj2, -⟩ := al.2.2 _ _ hk2
  have hf : (s.vm.noted f.method.cls x.catchType (.cls cT)).assignable cell.cls cT = true := (al.assignable _ _).trans hfit
  obtain ⟨ha, ht⟩ := (resolveClass_links e.toSetting hl).op (op := VmOp.resolveClass f.method.cls x.catchType) rfl
  rw [W.findHandler_eq hm hc, hx]
  have hcov' := hcov
  simp only [covers] at hcov'
  simp [findHandler.go, hcov', h0, ha, ht, hcell, hobj, hj1, hj2, hf, VmOp.dirties, VmOp.acts]
theorem ct_step {s : State} {f : JFrame} {r : List Frame} {pc : Nat} {vm' : Vm} (h : ∀ (Q : Handler → Pre) (E : CtlPost) (d : Bool) (acts : List Action), wp (findHandler f a) Q E e d acts s ↔ Q (.found pc) d acts (s.setVm vm')) :
    (stepThrowing e s a (.java f :: r)).Is ((s.setVm vm').setFrames (.java { f with pc := pc, stack := [.ref a] } :: r)) [] := by
  simp only [stepThrowing, searchFrame, vmDo]
  generalize hr : Sem.go _ e false [] s = res
  obtain ⟨as, rfl, ha⟩ := Sem.eq_ok_of hr (a := Handler.found pc) (s' := s.setVm vm') (acts' := []) (by simp [h _ _ _ _])
  exact ⟨rfl, ha⟩
theorem ct_steps {tb : Tables} {s target : State} {g : JFrame} {c : Code} {below : List Frame} (h : At s g.method c below) {pc : Nat} {vm' : Vm} (hf : ∀ (Q : Handler → Pre) (E : CtlPost) (d : Bool) (acts : List Action), wp (findHandler g a) Q E e d acts ((s.setTop g).pushFrame (.throwing a)) ↔ Q (.found pc) d acts (((s.setTop g).pushFrame (.throwing a)).setVm vm'))
    (hrest : Steps tb e below ((s.setVm vm').setTop { g with pc := pc, stack := [.ref a] }) target) : Steps tb e below ((s.setTop g).pushFrame (.throwing a)) target := by
  obtain ⟨hgo, hw⟩ := h.throwing a
  refine Steps.head hgo hw ?_
  rw [stepThread_throwing (frames_entered h.top _), (ct_step (s := (s.setTop g).pushFrame (.throwing a)) hf).1]
  obtain ⟨g0, hg⟩ := Option.isSome_iff_exists.mp h.top
  obtain ⟨r, hr⟩ := State.topJava?_eq_some.mp hg
  have hr2 : (s.setVm vm').frames = .java g0 :: r := hr
  have sw : ∀ (u : State) (F F2 : List Frame), ((u.setFrames F).setVm vm').setFrames F2 = (u.setVm vm').setFrames F2 := fun u F F2 => State.setFrames_setFrames (u.setVm vm') F F2
  rw [State.setTop_of_frames _ hr2] at hrest
  rw [hr, List.tail_cons, State.pushFrame, sw, State.setTop_of_frames _ hr, sw]
  exact hrest
end CT
theorem th_cls : Cond.classLink "TaleSharesLaw" 13 th_n ∈ k_TB := List.mem_filter.mpr ⟨by decide +kernel, rfl⟩
section CT2
variable {cells slots : Nat} {p : Program} {l : Launch} {e : Env} {R rm : Room} {s : State} {m : MethodId} {args : Array Value} {below : List Frame} {meth : Method} {c : Code} {Q : State → Prop} {cc : ByteArray} {nL : Nat} {G : k_G} {A : Nat → Prop} {w1 w2 wc : va_W} {pc : Nat} {lv : List (Nat × Value)} {rest st : List Value}
variable {y : MethodName} {cc2 : ByteArray} {nL2 index n b q0 ci N : Nat} {ret : Option FieldType} {As fs : List Value} {T : u_T}
set_option maxHeartbeats 1000000 in
theorem th_caught (hA : k_Amb p s m args meth c cc nL "TaleSharesLaw" G A) (hE : th_E A s s.heap) (hM : th_M l G y cc2 nL2 ret rm wc (.ref b :: As)) (hrm : rm.cells = 1 ∧ rm.slots = 6) (hcard : k_cardV y cc2 nL2 ret n) (hlink : Cond.methodLink "TaleSharesLaw" index y ∈ k_TB) {C : String} (hq : wc[q0]? = some (b, .inr (ci, fs))) (hc : vwCl[ci]? = some (C, T, N)) (hC : C = y.cls) (hL : k_fit nL2 rm R) (hcs : cells + 1 ≤ R.cells ∧ slots + 6 ≤ R.slots) (hn : As.length = n) (hst : st = As.reverse ++ .ref b :: rest) (hr : (rest.map fun v => v.category).sum ≤ 8) (hd : decode cc pc = .ok (.invokevirtual index, 3)) {x : ExceptionTableEntry} (hx : c.exceptionTable.toList = [x]) (hcov : covers x pc = true) (hct : x.catchType = 13) {hp : Nat} (hhp : x.handlerPc = hp)
    (k : ∀ q, k_GoA p l e R s m args below meth c Q nL G A (cells + 1) (slots + 6) (w1 ++ (wc ++ w2)) hp lv [.ref q]) : k_GoA p l e R s m args below meth c Q nL G A cells slots (w1 ++ (wc ++ w2)) pc lv st := by
  intro H locs ls hP hD hS hl Tt hT X
  subst hT
  have hts := hA.1.2.2.2.2
  have hb : c.code = cc := hA.1.2.1
  have hown := hA.1.2.2.2.1
  have hy : y.cls ≠ "java/lang/invoke/MethodHandle" ∧ y.cls ≠ "java/lang/invoke/VarHandle" := ⟨hcard.2.2.2.2.1, hcard.2.2.2.2.2.1⟩
  have hgood := k_good hcard.1
  have hws : ∀ w ∈ (Cond.code y cc2 nL2 ret :: k_TB), ∀ (a' : Array Value) (U : State), s.WarmedH U.vm → w.before a' U = true := fun w hw a' U hW => word_at hW (hgood w hw).2 (hts w (hgood w hw).1)
  obtain ⟨cellB, hcB, hoB, hclB⟩ := k_recv (y := y) hA hP.r.l hq hc hC
  obtain ⟨mk, methM, hnamed, hmethM, hstM, habM⟩ := Cond.instanceMethod_spec (hts _ hcard.2.1)
  obtain ⟨methM', cM, hmethM', -, -, -, -, -, -, hsigM⟩ := Cond.code_spec hnamed (hts _ hcard.1)
  cases hmethM.symm.trans hmethM'
  obtain ⟨c2, r2, m2, q1, q2, q3, q4, kP, hkP, hkPi⟩ := Cond.selects_spec (hts _ hcard.2.2.1)
  cases hclB.symm.trans q1
  cases (State.methodFound?_of_named hnamed hy).symm.trans q2
  cases hnamed.symm.trans q3
  have hselP : selectMethod e.platform s.vm cellB.cls mk = .method mk := by rw [Launch.admits_selectMethod X.admits]; exact q4
  have hlen : As.length = methM.sig.parameters.length := by
    have h := hcard.2.2.2.2.2.2.1
    rw [hsigM] at h
    exact hn.trans (Option.some.inj h).symm
  obtain ⟨vm₁, X₁, hstep₁⟩ := X.invokevirtual hA.1.1 hown (hts _ hlink) hnamed hmethM hstM hkP hkPi hy (a := b) (cell := cellB) hcB
    (fun z h => by rw [h] at hoB; cases hoB) hselP hmethM habM hkP hkPi (g := F0 m pc ls st) rfl (argsL := As) (rest := rest) hlen hst (by rw [hb]; exact hd)
  have hA1 : At (Tt.setVm vm₁) (F0 m pc ls rest).method c below := X₁.here
  have hnU : (Tt.setVm vm₁).methodNamed? y = some mk := X₁.named hnamed
  obtain ⟨methY, cY, hmY, hcY, -, hlY, -, -, -, -⟩ := Cond.code_spec hnU (hws _ List.mem_cons_self (Value.ref b :: As).toArray (Tt.setVm vm₁) X₁.warmed)
  obtain ⟨kY, hkY, -⟩ := className_of_methodNamed hnU
  have hinitY : kY.init = .initialized := Cond.initialized_spec (findClass_of_methodNamed hnU) hkY (word_at (args := args) (a' := #[]) X₁.warmed (Or.inl rfl) (hts _ hcard.2.2.2.1))
  have hroom := X₁.room_calling (g := F0 m pc ls rest) (R' := rm) (args' := (Value.ref b :: As).toArray) (hl.1.trans hA.1.2.2.1.symm) hmY hcY hL.1 (by rw [hlY]; have := hL.2; have h8 : 2 * (F0 m pc ls rest).monitorRoom + ((F0 m pc ls rest).stack.map fun v => v.category).sum ≤ 8 := lv_room hr; omega) (by rw [hrm.1]; exact hcs.1) (by rw [hrm.2]; exact hcs.2)
  have happ : (headSpec (.code y cc2 nL2 ret :: k_TB) rm).appliesLoose y e.platform ((Tt.setVm vm₁).calling (F0 m pc ls rest) mk (Value.ref b :: As).toArray) = true :=
    Spec.appliesLoose_calling (g := F0 m pc ls rest) hA1 (by rw [hb]; exact hd) hnU hkY hinitY hroom (atoms_intro fun w hw => hws w hw _ _ X₁.warmed)
  obtain ⟨mid, hmid⟩ := hA1.above
  have hfr : ((Tt.setVm vm₁).setTop (F0 m pc ls rest)).frames = (.java (F0 m pc ls rest) :: mid) ++ below := by rw [State.frames_setTop' _ hA1.top, hmid]; rfl
  have hpc := (ka_pre (w1 := w1) (w2 := w2) (vals := .ref b :: As) hA hP hD hS).2 (Tt.setVm vm₁) rfl X₁.warmed
  have hte : th_E (va_A wc Tt.heap.size) (Tt.setVm vm₁) Tt.heap := th_E.call X₁.warmed hE hS (ka_free hD hS hA.2.2.1)
  obtain ⟨o, s₂, hsteps, -, hend, hq2⟩ := Steps.callFree (hM Tt.heap.size) p X₁.admits X₁.cas X₁.clock (acts := []) hfr happ ⟨k_blind _ _ _ _ hpc, th_E.same (u := Tt.setVm vm₁) rfl (Vm.Alike.refl _) hte⟩ trivial
  rw [State.frames_setTop' _ hA1.top, X₁.tail] at hend
  obtain ⟨q, ce, L, rfl, hsz, hce, hnst, hcls, hPw, hsz2, hk2, hW2, hsame2, hL2⟩ := hq2
  obtain ⟨T', X', hWT, hsT, ht⟩ := X₁.outOfThrown (g := F0 m pc ls rest) rfl (mk := mk) (a := (Value.ref b :: As).toArray) hend hW2 hsame2
  have hheap : s₂.heap = T'.heap := by rw [ht]; exact Stand.throwing_heap _ _ _
  rw [hheap] at hce hPw hsz2 hk2
  have hpl : e.platform.magicAccessors = ({} : Platform).magicAccessors := by rw [X.admits.platform]
  obtain ⟨cT, hcT, hcl⟩ := Cond.classLink_spec hown (hts _ th_cls) e.platform hpl
  have hceT : ce.cls = cT := by
    have h1 : (Tt.setVm vm₁).vm.findClass th_n = some ce.cls := hcls
    rw [show (Tt.setVm vm₁).vm.findClass th_n = s.vm.findClass th_n from X₁.warmed.alike.findClass _ _, hcT] at h1
    exact (Option.some.inj h1).symm
  obtain ⟨dk, _, _, kt, hdk, _, _, _, _, hkt, _, hopen⟩ := hcl.here
  have hcl0 := X'.warmed.classLinks hcl
  have hW9 : s.WarmedH (T'.vm.noted m.cls 13 (.cls cT)) := X'.warmed.noted hdk hopen (State.rightAt_cls hcl)
  have al := X'.warmed.alike
  obtain ⟨kt', hkt', -⟩ := al.2.2 _ _ hkt
  have hfit : T'.vm.assignable cT cT = true := by
    obtain ⟨c3, c4, h3, h4, ha⟩ := Cond.castable_spec (hE.2.2.2.2.2)
    cases Option.some.inj (h3.symm.trans hcT)
    cases Option.some.inj (h4.symm.trans hcT)
    exact (al.assignable _ _).trans ha
  have hfree : ∀ q, va_A wc Tt.heap.size q → A q := ka_free hD hS hA.2.2.1
  obtain ⟨j1, j2⟩ := ka_join hP hD hk2 hfree hPw hD.r.l.self
  have hS1 : va_S A s.heap T'.heap (locs ++ L) := ⟨Nat.le_trans hS.1 hsz2, fun q h1 h2 => (hk2 q (Nat.lt_of_lt_of_le h1 hS.1) (fun z => h2 (hfree q z))).trans (hS.2.1 q h1 h2), fun q hq => by
    rcases List.mem_append.mp hq with h | h
    · exact hS.2.2 q h
    · exact hfree _ (hL2 q h)⟩
  obtain ⟨t2, st2, hQ⟩ := k q T'.heap (locs ++ L) ls j1 j2 hS1 hl (T'.setVm (T'.vm.noted m.cls 13 (.cls cT))) rfl (X'.noted hW9)
  subst hhp
  refine ⟨t2, hstep₁ _ (fun acts => ?_), hQ⟩
  rw [doInvoke_state]
  refine hsteps.trans ?_
  rw [ht]
  refine ct_steps (pc := x.handlerPc) (vm' := T'.vm.noted m.cls 13 (.cls cT)) X'.here ?_ st2
  have := ct_find (e := e) (a := q) (s := (T'.setTop (F0 m pc ls rest)).pushFrame (.throwing q)) (f := F0 m pc ls rest) (cT := cT) (cell := ce) X'.method' X'.code hx hcov (by rw [hct]; decide) (by rw [hct]; exact hcl0) (by rw [Stand.throwing_heap]; exact hce) (fun k h => by rw [h] at hnst; cases hnst) ⟨kt', by rw [hceT]; exact hkt'⟩ ⟨kt', hkt'⟩ (by rw [hceT]; exact hfit)
  rw [hct] at this
  exact this
end CT2
