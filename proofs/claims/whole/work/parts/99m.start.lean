/-! ===== the environment at the law's entry ===== -/
theorem e_Kn {args : Array Value} {s : State} (hts : ∀ w ∈ k_TB, w.before args s = true) : ∀ q ∈ vwCl, ∃ (cC : ClassId) (iS : Nat → Nat), u_Kn s q.1 q.2.1 q.2.2 cC iS := by
  intro q hq
  have hq : q ∈ ([(RX1, TX1, 2), (RX3, TX3, 7), (RX4, TX4, 6), (RX5, TX5, 13), (RX6, TX6, 4), (RX7, TX7, 3), (RX8, TX8, 15), (RX9, TX9, 5), (RX10, TX10, 10), (RX11, TX11, 19), (RX12, TX12, 43)] : List vw_C) := hq
  simp only [List.mem_cons, List.not_mem_nil, or_false] at hq
  rcases hq with rfl | rfl | rfl | rfl | rfl | rfl | rfl | rfl | rfl | rfl | rfl
  · exact u_known (n := 2) hts k_in_X1 (hts _ (List.mem_filter.mpr ⟨by decide +kernel, rfl⟩))
  · exact u_known (n := 7) hts k_in_X3 (hts _ (List.mem_filter.mpr ⟨by decide +kernel, rfl⟩))
  · exact u_known (n := 6) hts k_in_X4 (hts _ (List.mem_filter.mpr ⟨by decide +kernel, rfl⟩))
  · exact u_known (n := 13) hts k_in_X5 (hts _ (List.mem_filter.mpr ⟨by decide +kernel, rfl⟩))
  · exact u_known (n := 4) hts k_in_X6 (hts _ (List.mem_filter.mpr ⟨by decide +kernel, rfl⟩))
  · exact u_known (n := 3) hts k_in_X7 (hts _ (List.mem_filter.mpr ⟨by decide +kernel, rfl⟩))
  · exact u_known (n := 15) hts k_in_X8 (hts _ (List.mem_filter.mpr ⟨by decide +kernel, rfl⟩))
  · exact u_known (n := 5) hts k_in_X9 (hts _ (List.mem_filter.mpr ⟨by decide +kernel, rfl⟩))
  · exact u_known (n := 10) hts k_in_X10 (hts _ (List.mem_filter.mpr ⟨by decide +kernel, rfl⟩))
  · exact u_known (n := 19) hts k_in_X11 (hts _ (List.mem_filter.mpr ⟨by decide +kernel, rfl⟩))
  · exact u_known (n := 43) hts k_in_X12 (hts _ (List.mem_filter.mpr ⟨by decide +kernel, rfl⟩))
theorem e_arr {args : Array Value} {s : State} {ty : FieldType} (h : (Cond.arrayClass ty).before args s = true) : ∃ cA : ClassId, s.vm.findClass ("[" ++ ty.toString) = some cA ∧ ArrOfT s cA ty := by
  obtain ⟨cA, kA, comp, h1, h2, h3⟩ := Cond.arrayClass_spec h
  exact ⟨cA, h1, fun n z => ⟨fun k h => (by cases h), kA, h2, comp, h3⟩⟩
theorem e_env {b : Nat} {s : State} (hts : ∀ w ∈ lw_tbl, w.before #[Value.ref b] s = true) (hg : (Jvm.Cond.and given_1 narrow_1).before #[Value.ref b] s = true) : ∃ G : k_G, k_env G (fun q => s.heap.size ≤ q) s s.heap ∧ th_E (fun q => s.heap.size ≤ q) s s.heap := by
  have hs : ∀ w ∈ e_fl, w.before #[Value.ref b] s = true := flat_of_before _ hg
  have hA : ∀ a : Nat, a < s.heap.size → ¬ (fun q => s.heap.size ≤ q) a := fun a h h2 => by have : s.heap.size ≤ a := h2; omega
  have htb : ∀ w ∈ k_TB, w.before #[Value.ref b] s = true := fun w hw => hts w (List.mem_filter.mp hw).1
  obtain ⟨adK, adV, hS, hev⟩ := e_strs (A := fun q => s.heap.size ≤ q) hs hA
  obtain ⟨c0, a1, a2⟩ := e_arr (htb (.arrayClass .byte) (List.mem_filter.mpr ⟨by decide +kernel, rfl⟩))
  obtain ⟨c1, b1, b2⟩ := e_arr (htb (.arrayClass .int) (List.mem_filter.mpr ⟨by decide +kernel, rfl⟩))
  obtain ⟨c2, d1, d2⟩ := e_arr (htb (.arrayClass .long) (List.mem_filter.mpr ⟨by decide +kernel, rfl⟩))
  have hK : ∀ c : Nat, ∃ z : ClassId × (Nat → Nat), ∀ q : vw_C, vwCl[c]? = some q → u_Kn s q.1 q.2.1 q.2.2 z.1 z.2 := by
    intro c
    cases hc : vwCl[c]? with
    | none => exact ⟨(0, fun _ => 0), fun q h => by cases h⟩
    | some q =>
      obtain ⟨cC, iS, h⟩ := e_Kn htb q (List.mem_of_getElem? hc)
      exact ⟨(cC, iS), fun q2 h2 => by cases h2; exact h⟩
  obtain ⟨D, hD⟩ := Classical.axiomOfChoice hK
  refine ⟨((fun c => (D c).1, fun c => (D c).2), (fun i => if i = 0 then c0 else if i = 1 then c1 else c2), adK, adV), ⟨⟨fun c q hq => hD c q hq, ?_⟩, ⟨?_, ?_⟩, hS, ?_, ?_, ?_⟩, ?_, ?_, ?_⟩
  · intro k q hk
    have hk : ([(c0, FieldType.byte), (c1, .int), (c2, .long)] : List (ClassId × FieldType))[k]? = some q := hk
    match k, hk with
    | 0, hk => cases hk; exact ⟨a2, a1⟩
    | 1, hk => cases hk; exact ⟨b2, b1⟩
    | 2, hk => cases hk; exact ⟨d2, d1⟩
    | k + 3, hk => cases hk
  · intro q hq
    exact va_Nw.of rfl (hts _ (of_decide_eq_true (List.all_eq_true.mp e_nF q hq)))
  · intro q hq
    exact va_Nw.of rfl (hts _ (of_decide_eq_true (List.all_eq_true.mp e_nM q hq)))
  · intro q hq
    have h := List.all_eq_true.mp e_mR q hq
    simp only [Bool.and_eq_true, Bool.or_eq_true, decide_eq_true_eq] at h
    obtain ⟨⟨h1, h2⟩, h3⟩ := h
    refine vk_R.of (A := #[Value.ref b]) ?_ ?_
    · rcases List.mem_append.mp h1 with h | h
      · exact hs _ h
      · exact hts _ h
    · rcases h2 with h | h
      · rw [h]; exact hev _ h3
      · have he := hs _ h
        have h4 := hev _ h3
        cases hv : (Term.string q.1 q.2.1).eval #[Value.ref b] s none [] s with
        | none => simp [Cond.before, Cond.holds, Cond.value, h4, hv] at he
        | some v =>
          simp only [Cond.before, Cond.holds, Cond.value, h4, hv] at he
          cases v with
          | ref a2 =>
            have : adK q.2.2.2 = a2 := by simpa using he
            show some (Value.ref a2) = some (Value.ref (adK q.2.2.2))
            rw [this]
          | _ => simp at he
  · exact va_Zof (hts _ (by decide +kernel)) (hts _ (by decide +kernel)) (va_eqi (hs _ (by decide +kernel))) hA
  · exact va_Zqof (hts _ (by decide +kernel)) (hts _ (by decide +kernel)) (hs _ (by decide +kernel)) hA
  · exact th_S.of (hts _ (by decide +kernel)) (hs _ (by decide +kernel)) hA
  · exact th_S.of (hts _ (by decide +kernel)) (hs _ (by decide +kernel)) hA
  · exact ⟨va_Nw.of rfl (hts _ (by decide +kernel)), va_Nw.of rfl (hts _ (by decide +kernel)), va_Nw.of rfl (hts _ (by decide +kernel)), va_Nw.of rfl (hts _ (by decide +kernel))⟩
theorem z_CR : CR tz tzM := ⟨fun i _ => ⟨rfl, 0, by omega, rfl⟩, ⟨0, by omega, rfl, rfl⟩, rfl, rfl, rfl⟩
theorem z_R0 : R0 tz tzM := ⟨rfl, fun _ _ => rfl, rfl, rfl, rfl, z_CR⟩
