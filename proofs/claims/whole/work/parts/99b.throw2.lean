/-! ===== a method that ends in the throw ===== -/
theorem rb_keep {s U : State} {cells slots : Nat} (h : s.sameButNew U [] cells slots) : ∀ q : Nat, q < s.heap.size → U.heap[q]? = s.heap[q]? := by
  intro q hq
  obtain ⟨c, hc⟩ : ∃ c, s.heap[q]? = some c := ⟨_, Array.getElem?_eq_getElem hq⟩
  obtain ⟨c', h1, h2, h3, h4⟩ := h.2.2.2.2.2 q c hc
  have e : c'.slots = c.slots := by
    apply Array.ext_getElem?
    intro i
    exact h4 i (by simp)
  rw [h1, hc, h2, e]
theorem rb_same {s T U : State} {locs : List Loc} {cells slots k n : Nat} (h : s.sameButNew (T.setVm s.vm) locs cells slots) (g : (rb s T).sameButNew ({ U with vm := s.vm } : State) [] k n) : s.sameButNew ({ U with vm := s.vm } : State) locs (cells + k) (slots + n) := by
  have q : T.setVm s.vm = (rb s T).setFrames T.frames := h.1
  have g' : (T.setVm s.vm).sameButNew ({ U with vm := s.vm } : State) [] k n := by
    refine ⟨?_, g.2⟩
    rw [q, State.setFrames_setFrames]
    exact g.1
  have := h.trans g'
  rwa [List.append_nil] at this
def th_Q (G : k_G) (w : va_W) (first : State) (o : Outcome) (t : State) : Prop := ∃ (q : Nat) (ce : Cell) (L : List Loc), o = .threw q ∧ first.heap.size ≤ q ∧ t.heap[q]? = some ce ∧ ce.vm.isStatics = false ∧ first.vm.findClass th_n = some ce.cls ∧ va_P G.1 vwCl w t.heap ∧ first.heap.size ≤ t.heap.size ∧ (∀ q, q < first.heap.size → ¬ va_A w first.heap.size q → t.heap[q]? = first.heap[q]?) ∧ first.WarmedH t.vm ∧ first.sameButNew ({ t with vm := first.vm } : State) L 1 6 ∧ ∀ q ∈ L, va_A w first.heap.size q.base
def th_QQ (G : k_G) (w : va_W) (below : List Frame) (s : State) : State → Prop := fun t => ∃ o, t.status = .running ∧ Ended t below o ∧ th_Q G w s o t
theorem th_ini : Cond.initialized th_n ∈ k_TB := List.mem_filter.mpr ⟨by decide +kernel, rfl⟩
section TH
variable {p : Program} {l : Launch} {e : Env} {R : Room} {s : State} {m : MethodId} {args : Array Value} {below : List Frame} {meth : Method} {c : Code} {cc : ByteArray} {nL : Nat} {G : k_G} {w0 : va_W} {pc : Nat} {lv : List (Nat × Value)}
set_option maxHeartbeats 1000000 in
theorem th_throw (hl : l.flags = flags0) (hA : k_Amb p s m args meth c cc nL "TaleShares" G (va_A w0 s.heap.size)) (hE : th_E (va_A w0 s.heap.size) s s.heap) (hno : c.exceptionTable.isEmpty = true) (d0 : decode cc pc = .ok (.new 349, 3)) (d3 : decode cc (pc + 3) = .ok (.dup, 1)) (d4 : decode cc (pc + 4) = .ok (.invokespecial 351, 3)) (d7 : decode cc (pc + 7) = .ok (.athrow, 1)) (hR : 6 ≤ R.frames ∧ 100 ≤ R.locals ∧ 1 ≤ R.cells ∧ 6 ≤ R.slots) : k_GoA p l e R s m args below meth c (th_QQ G w0 below s) nL G (va_A w0 s.heap.size) 0 0 w0 pc lv [] := by
  intro H locs ls hP hD hS hlv T hT X
  subst hT
  have hts := hA.1.2.2.2.2
  have hb : c.code = cc := hA.1.2.1
  have hown : (rb s T).vm.findClass "TaleShares" = some m.cls := hA.1.2.2.2.1
  have htr : e.platform.stackTraces = false := Launch.traces_off hl X.admits
  have X0 := rb_stand (R' := { frames := R.frames, cells := 1, slots := 6, locals := R.locals }) X (Nat.le_refl _) (Nat.le_refl _) (by have := hR.2.2.1; omega) (by have := hR.2.2.2; omega)
  have hE' : th_E (va_A w0 s.heap.size) (rb s T) (rb s T).heap := ⟨th_S.moved (Vm.Alike.refl _) (hE.1.kept hS.2.1), th_S.moved (Vm.Alike.refl _) (hE.2.1.kept hS.2.1), hE.2.2.1.same rfl rfl, hE.2.2.2.1.same rfl rfl, hE.2.2.2.2.1.same rfl rfl, hE.2.2.2.2.2.same rfl rfl⟩
  have tb : ∀ w ∈ k_TB, w.onTables = true → w.before args (rb s T) = true := fun w hw ho => va_tabs (u := s) ho rfl (hts w hw)
  obtain ⟨vm₁, cX, kX, hfX, hkX, -, -, X₁, st1⟩ := X0.newCold hA.1.1 (own := "TaleShares") (C := th_n) (index := 349) (n := 6) hown (tb _ (k_tb 1181 (by decide +kernel) rfl) rfl) (tb _ (k_tb 1182 (by decide +kernel) rfl) rfl) (tb _ th_ini rfl)
    (g := F0 m pc ls []) rfl (by rw [hb]; exact d0) (Nat.le_refl _) (Nat.le_refl _)
  have hcellA : ((T.setVm vm₁).pushCell { cls := cX, slots := kX.instanceTypes.map defaultValue, vm := .none }).heap[T.heap.size]? = some (freshCell cX kX) := State.heap_pushCell_size _ _
  generalize hV : (T.setVm vm₁).pushCell { cls := cX, slots := kX.instanceTypes.map defaultValue, vm := .none } = V at X₁ st1 hcellA
  have hemp : ∀ (x : ExceptionTableEntry) (_ : x ∈ c.exceptionTable.toList) (z : Nat), covers x z = false := by
    intro x hx z
    have h0 : c.exceptionTable = #[] := by simpa using hno
    rw [h0] at hx
    cases hx
  obtain ⟨U, hsteps, hrun, hend, hW, hsame, ce, hce, hoc⟩ := X₁.ctorThrow0 hA.1.1 htr (own := "TaleShares") (cls := th_n) (names := th_ns) (ic := 351) hown (by decide +kernel) (by decide +kernel) (th_atoms (s := s) rfl hts hE') (fun x hx => by cases hx) hfX hkX hcellA (Nat.le_refl _)
    (g := F0 m (pc + 4) ls [.ref T.heap.size, .ref T.heap.size]) rfl (hlv.1.trans hA.1.2.2.1.symm) rfl rfl (rest := []) rfl (by rw [hb]; exact d4) (by rw [hb]; exact d7) (fun x hx => hemp x hx _)
    (by show 2 + 3 < R.frames; omega) (by show 2 * 0 + (1 + 0) + (13 * (2 + 1) + 41) ≤ R.locals; omega) hA.2.2.2
  refine ⟨U, st1 _ ?_, .threw T.heap.size, hrun, hend, T.heap.size, ce, locs, rfl, hS.1, hce, by rw [hoc.vm]; rfl, hoc.cls, ?_, ?_, ?_, hW, ?_, hS.2.2⟩
  · show Steps p.tables e below (V.setTop { method := m, pc := pc + 3, locals := ls, stack := [.ref T.heap.size], locked := none }) _
    jvm_step X₁.here [X₁.here.top, hA.1.1, hb, d3, Value.category]
    exact hsteps
  · exact hP.kept (fun k q hk => rb_keep hsame q.1 (hP k q hk).lt)
  · exact Nat.le_trans hS.1 hsame.2.1
  · intro q hq hn
    exact (rb_keep hsame q (Nat.lt_of_lt_of_le hq hS.1)).trans (hS.2.1 q hq hn)
  · have := rb_same X.same hsame
    rwa [Nat.zero_add, Nat.zero_add] at this
end TH
