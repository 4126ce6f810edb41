/-! ===== NoSuchElementException: what must be known ahead ===== -/
def th_n : String := "java/util/NoSuchElementException"
def th_ns : List String := ["java/lang/RuntimeException", "java/lang/Exception"]
def th_i (c : String) : MethodName := ⟨c, "<init>", "()V"⟩
/-- a static of Throwable that holds a reference -/
def th_S (n d : String) (A : Nat → Prop) (U : State) (H : Heap) : Prop := ∃ (c : ClassId) (k : Class) (i : Nat) (f : Field) (a : Nat) (cell : Cell) (v : Value), U.vm.findClass "java/lang/Throwable" = some c ∧ U.fieldFound? "java/lang/Throwable" n d = some (c, k, i, f) ∧ f.isStatic = true ∧ k.statics = some a ∧ H[a]? = some cell ∧ cell.vm.isStatics = true ∧ cell.cls = c ∧ f.slot < cell.slots.size ∧ k.staticTypes[f.slot]? = some f.type ∧ cell.slots[f.slot]? = some v ∧ (v = .null ∨ ∃ t, v = .ref t) ∧ ¬ A a
theorem th_S.moved {n d : String} {A : Nat → Prop} {u U : State} {H : Heap} (hvm : u.vm.Alike U.vm) (h : th_S n d A u H) : th_S n d A U H := by
  obtain ⟨c, k, i, f, a, cell, v, h1, h2, h3, h4, h5, h6, h7, h8, h9, h10⟩ := h
  obtain ⟨k', hi', he⟩ := State.fieldFound?_setVm hvm h2
  exact ⟨c, k', i, f, a, cell, v, by rw [hvm.findClass]; exact h1, hi', h3, by rw [he]; exact h4, h5, h6, h7, h8, by rw [he]; exact h9, h10⟩
theorem th_S.kept {n d : String} {A : Nat → Prop} {U : State} {H H1 : Heap} (h : th_S n d A U H) (hq : ∀ a : Nat, a < H.size → ¬ A a → H1[a]? = H[a]?) : th_S n d A U H1 := by
  obtain ⟨c, k, i, f, a, cell, v, h1, h2, h3, h4, h5, h6, h7, h8, h9, h10, h11, h12⟩ := h
  exact ⟨c, k, i, f, a, cell, v, h1, h2, h3, h4, by rw [hq a (Array.getElem?_eq_some_iff.mp h5).1 h12]; exact h5, h6, h7, h8, h9, h10, h11, h12⟩
theorem th_S.narrow {n d : String} {A B : Nat → Prop} {U : State} {H : Heap} (h : th_S n d A U H) (hAB : ∀ q, B q → A q) : th_S n d B U H := by
  obtain ⟨c, k, i, f, a, cell, v, h1, h2, h3, h4, h5, h6, h7, h8, h9, h10, h11, h12⟩ := h
  exact ⟨c, k, i, f, a, cell, v, h1, h2, h3, h4, h5, h6, h7, h8, h9, h10, h11, fun z => h12 (hAB a z)⟩
theorem th_S.of {n d : String} {A : Nat → Prop} {args : Array Value} {s : State} (hl : (Cond.laysStatic "java/lang/Throwable" n d).before args s = true) (h : (Cond.isRef (.static "java/lang/Throwable" n d)).before args s = true) (hA : ∀ a : Nat, a < s.heap.size → ¬ A a) : th_S n d A s s.heap := by
  obtain ⟨c, k, i, f, a, cell, hc, hi, hst, ha, hcell, hs, hcls, hlt, hty⟩ := Cond.laysStatic_spec hl
  cases hv : (Term.static "java/lang/Throwable" n d).eval args s none [] s with
  | none => simp [Cond.before, Cond.holds, Cond.value, hv] at h
  | some w =>
    obtain ⟨hst', a', cell', ha', hcell', -, hslot⟩ := Term.static_spec hi hv
    cases ha.symm.trans ha'
    cases hcell.symm.trans hcell'
    refine ⟨c, k, i, f, a, cell, w, hc, hi, hst, ha, hcell, hs, hcls, hlt, hty, hslot, ?_, hA a (Array.getElem?_eq_some_iff.mp hcell).1⟩
    simp only [Cond.before, Cond.holds, Cond.value, hv] at h
    cases w with
    | null => exact Or.inl rfl
    | ref t => exact Or.inr ⟨t, rfl⟩
    | _ => simp at h
theorem th_S.lays {n d : String} {A : Nat → Prop} {args : Array Value} {s : State} (h : th_S n d A s s.heap) : (Cond.laysStatic "java/lang/Throwable" n d).before args s = true := by
  obtain ⟨c, k, i, f, a, cell, v, h1, h2, h3, h4, h5, h6, h7, h8, h9, h10⟩ := h
  exact Cond.laysStatic_of h1 h2 h3 h4 h5 h6 h7 h8 h9
theorem th_S.isRef {n d : String} {A : Nat → Prop} {args : Array Value} {s : State} (h : th_S n d A s s.heap) : (Cond.isRef (.static "java/lang/Throwable" n d)).before args s = true := by
  obtain ⟨c, k, i, f, a, cell, v, h1, h2, h3, h4, h5, h6, h7, h8, h9, h10, h11, -⟩ := h
  have he : (Term.static "java/lang/Throwable" n d).eval args s none [] s = some v := by
    simp [Term.eval, State.fieldNamed?, h2, h3, h4, h5, h6, h10]
  rcases h11 with rfl | ⟨t, rfl⟩ <;> simp [Cond.before, Cond.holds, Cond.value, he]
def th_D (U : State) : Prop := va_Nw (.declares (th_i "java/lang/RuntimeException")) U ∧ va_Nw (.declares (th_i "java/lang/Exception")) U ∧ va_Nw (.declares (th_i "java/lang/Throwable")) U ∧ va_Nw (.castable th_n th_n) U
def th_E (A : Nat → Prop) (U : State) (H : Heap) : Prop := th_S "UNASSIGNED_STACK" "[Ljava/lang/StackTraceElement;" A U H ∧ th_S "SUPPRESSED_SENTINEL" "Ljava/util/List;" A U H ∧ th_D U
theorem th_E.same {A : Nat → Prop} {u U : State} {H : Heap} (h : u.vm = U.vm) (ha : u.vm.Alike U.vm) (hk : th_E A u H) : th_E A U H := ⟨hk.1.moved ha, hk.2.1.moved ha, hk.2.2.1.same rfl h, hk.2.2.2.1.same rfl h, hk.2.2.2.2.1.same rfl h, hk.2.2.2.2.2.same rfl h⟩
theorem th_E.call {A B : Nat → Prop} {s U : State} {H : Heap} {locs : List Loc} (hW : s.WarmedH U.vm) (hk : th_E A s s.heap) (hS : va_S A s.heap H locs) (hB : ∀ q, B q → A q) : th_E B U H :=
  ⟨th_S.moved hW.alike ((hk.1.kept hS.2.1).narrow hB), th_S.moved hW.alike ((hk.2.1.kept hS.2.1).narrow hB), hk.2.2.1.warmD hW, hk.2.2.2.1.warmD hW, hk.2.2.2.2.1.warmD hW, hk.2.2.2.2.2.warmC hW⟩
def th_bd : List Cond := [.declares (th_i "java/lang/RuntimeException"), .declares (th_i "java/lang/Exception"), .declares (th_i "java/lang/Throwable"), .castable th_n th_n, .laysStatic "java/lang/Throwable" "UNASSIGNED_STACK" "[Ljava/lang/StackTraceElement;", .laysStatic "java/lang/Throwable" "SUPPRESSED_SENTINEL" "Ljava/util/List;", .isRef (.static "java/lang/Throwable" "UNASSIGNED_STACK" "[Ljava/lang/StackTraceElement;"), .isRef (.static "java/lang/Throwable" "SUPPRESSED_SENTINEL" "Ljava/util/List;")]
theorem th_all : (Bundle.ownAtoms0 "TaleShares" 351 th_n th_ns).all (fun w => decide (w ∈ th_bd) || (w.onTables && (goodWord w && decide (w ∈ lw_tbl)))) = true := by decide +kernel
theorem th_atoms {A : Nat → Prop} {args : Array Value} {s s' : State} (hv : s.vm = s'.vm) (ht : ∀ w ∈ k_TB, w.before args s = true) (hE : th_E A s' s'.heap) : ∀ w ∈ Bundle.ownAtoms0 "TaleShares" 351 th_n th_ns, w.before args s' = true := by
  intro w hw
  have h := List.all_eq_true.mp th_all w hw
  rcases Bool.or_eq_true_iff.mp h with h | h
  · have h1 : w ∈ th_bd := of_decide_eq_true h
    simp only [th_bd, List.mem_cons, List.not_mem_nil, or_false] at h1
    rcases h1 with rfl | rfl | rfl | rfl | rfl | rfl | rfl | rfl
    · exact hE.2.2.1.use rfl
    · exact hE.2.2.2.1.use rfl
    · exact hE.2.2.2.2.1.use rfl
    · exact hE.2.2.2.2.2.use rfl
    · exact hE.1.lays
    · exact hE.2.1.lays
    · exact hE.1.isRef
    · exact hE.2.1.isRef
  · simp only [Bool.and_eq_true, decide_eq_true_eq] at h
    exact va_tabs h.1 hv (ht w (List.mem_filter.mpr ⟨h.2.2, h.2.1⟩))
/-! ===== the start, set forward to the place where a walk stands ===== -/
def rb (s T : State) : State := { s with heap := T.heap, slotsUsed := T.slotsUsed }
section RB
variable {p : Program} {l : Launch} {e : Env} {R R' : Room} {s : State} {m : MethodId} {args : Array Value} {below : List Frame} {meth : Method} {c : Code} {T : State} {locs : List Loc} {cells slots : Nat}
theorem rb_stand (X : Stand p l e R s m args below meth c T locs cells slots) (h1 : R'.frames ≤ R.frames) (h2 : R'.locals ≤ R.locals) (h3 : cells + R'.cells ≤ R.cells) (h4 : slots + R'.slots ≤ R.slots) : Stand p l e R' (rb s T) m args below meth c T [] 0 0 := by
  have hb := X.book
  have hz := X.heapSize
  have hu := X.used
  have hr := X.room
  refine ⟨X.admits, X.cas, X.clock, X.frames, ?_, X.hears, X.method, X.code, X.here, X.tail, X.warmed, X.limits, X.bytes, ?_⟩
  · simp only [State.hasRoom, Bool.and_eq_true, decide_eq_true_eq] at hr ⊢
    obtain ⟨⟨⟨⟨r0, r1, r2, r3, r4, r5⟩, r6⟩, r7⟩, r8⟩ := hr
    have e1 : (rb s T).localsInUse = s.localsInUse := rfl
    have e2 : (rb s T).frames = s.frames := rfl
    have e3 : (rb s T).me = s.me := rfl
    have e4 : (rb s T).heap = T.heap := rfl
    have e5 : (rb s T).slotsUsed = T.slotsUsed := rfl
    rw [e1, e2, e3, e4, e5]
    exact ⟨⟨⟨⟨by omega, by omega, by omega, by omega, by omega, r5⟩, by omega⟩, by omega⟩, hb⟩
  · obtain ⟨q1, q2, q3, q4, q5, q6⟩ := X.same
    have hd : T.heap.toList.drop T.heap.size = [] := List.drop_eq_nil_of_le (by simp)
    have hd0 : ((T.heap.toList.drop T.heap.size).map (fun x : Cell => x.slots.size)).sum = 0 := by rw [hd]; rfl
    refine ⟨?_, Nat.le_refl _, Nat.le_refl _, ?_, ?_, ?_⟩
    · exact q1
    · show T.slotsUsed = T.slotsUsed + ((T.heap.toList.drop T.heap.size).map (fun x : Cell => x.slots.size)).sum
      rw [hd0]; rfl
    · show ((T.heap.toList.drop T.heap.size).map (fun x : Cell => x.slots.size)).sum ≤ 0
      rw [hd0]; exact Nat.le_refl _
    · intro a c0 h
      exact ⟨c0, h, rfl, rfl, fun _ _ => rfl⟩
end RB
