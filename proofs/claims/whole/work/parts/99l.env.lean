/-! ===== what the start gives ===== -/
def e_ix : List Nat := [106, 115, 120, 125, 130, 135, 140, 145, 156, 174, 176, 178, 180, 197, 202, 206]
def e_tm (i : Nat) : Term := .string "TaleShares$Reader" (e_ix.getD i 0)
def e_fl : List Cond := flatC (Jvm.Cond.and given_1 narrow_1)
theorem e_ex : (List.range 16).all (fun i => decide (Cond.exactly (e_tm i) "java/lang/String" ∈ e_fl)) = true := by decide +kernel
theorem e_co : (List.range 16).all (fun i => decide (Cond.eq (.field (e_tm i) "java/lang/String" "coder" "B") (.int 0) ∈ e_fl)) = true := by decide +kernel
theorem e_ar : (List.range 16).all (fun i => decide (Cond.arrayOf (.field (e_tm i) "java/lang/String" "value" "[B") .byte ∈ e_fl)) = true := by decide +kernel
theorem e_le : (List.range 16).all (fun i => decide (Cond.eq (.length (.field (e_tm i) "java/lang/String" "value" "[B")) (.int (Int32.ofNat (k_len.getD i 0))) ∈ e_fl)) = true := by decide +kernel
theorem e_el : (List.range 16).all (fun i => (List.range (k_len.getD i 0)).all (fun j => decide (Cond.eq (.elem (.field (e_tm i) "java/lang/String" "value" "[B") (.int (Int32.ofNat j))) (.int ((k_byt.getD i []).getD j 0)) ∈ e_fl))) = true := by decide +kernel
theorem e_apart : (List.range 16).all (fun i => (List.range 16).all (fun j => i == j || (!(Int32.ofNat (k_len.getD i 0) == Int32.ofNat (k_len.getD j 0))) || (List.range (k_len.getD i 0)).any (fun k => decide (k < k_len.getD j 0) && !((k_byt.getD i []).getD k 0 == (k_byt.getD j []).getD k 0)))) = true := by decide +kernel
theorem all_range {n : Nat} {p : Nat → Bool} (h : (List.range n).all p = true) {i : Nat} (hi : i < n) : p i = true := List.all_eq_true.mp h i (List.mem_range.mpr hi)
theorem e_mR : k_sR.all (fun q => decide (Cond.stringRef q.1 q.2.1 q.2.2.1 ∈ e_fl ++ lw_tbl) && (decide (Term.string q.1 q.2.1 = e_tm q.2.2.2) || decide (Cond.eq (e_tm q.2.2.2) (.string q.1 q.2.1) ∈ e_fl)) && decide (q.2.2.2 < 16)) = true := by decide +kernel
theorem e_nF : k_nF.all (fun q => decide (Cond.fieldLinkNest "TaleSharesModel" q.1 "TaleSharesModel$Terrace" q.2.1 q.2.2 "TaleSharesModel" ∈ lw_tbl)) = true := by decide +kernel
theorem e_nM : k_nM.all (fun q => decide (Cond.methodLinkNest q.1 q.2.1 q.2.2.1 q.2.2.2 ∈ lw_tbl)) = true := by decide +kernel
theorem e_strs {args : Array Value} {s : State} {A : Nat → Prop} (hs : ∀ w ∈ e_fl, w.before args s = true) (hA : ∀ a : Nat, a < s.heap.size → ¬ A a) : ∃ adK adV : Nat → Nat, vk_S 16 k_len k_byt adK adV A s s.heap ∧ ∀ i : Nat, i < 16 → (e_tm i).eval args s none [] s = some (.ref (adK i)) := by
  have hex : ∀ i : Nat, i < 16 → (Cond.exactly (e_tm i) "java/lang/String").before args s = true := fun i hi => hs _ (of_decide_eq_true (all_range e_ex hi))
  have hle : ∀ i : Nat, i < 16 → (Cond.eq (.length (.field (e_tm i) "java/lang/String" "value" "[B")) (.int (Int32.ofNat (k_len.getD i 0)))).before args s = true := fun i hi => hs _ (of_decide_eq_true (all_range e_le hi))
  have hel : ∀ i : Nat, i < 16 → ∀ j : Nat, j < k_len.getD i 0 → (Cond.eq (.elem (.field (e_tm i) "java/lang/String" "value" "[B") (.int (Int32.ofNat j))) (.int ((k_byt.getD i []).getD j 0))).before args s = true := fun i hi j hj => hs _ (of_decide_eq_true (all_range (all_range e_el hi) hj))
  refine vk_Sof (tm := e_tm) ?_ hex (fun i hi => hs _ (of_decide_eq_true (all_range e_co hi))) (fun i hi => hs _ (of_decide_eq_true (all_range e_ar hi))) hle hel ?_ hA
  · intro i hi
    have : (List.range 16).all (fun i => decide (k_len.getD i 0 < 2 ^ 31)) = true := by decide
    exact of_decide_eq_true (all_range this hi)
  · intro i j hi hj hij
    left
    obtain ⟨a, c, cA, kA, q1, -⟩ := Cond.exactly_spec (args := args) (first := s) (o := none) (s := s) (idx := []) (t := e_tm i) (cls := "java/lang/String") (hex i hi)
    obtain ⟨a2, c2, cA2, kA2, r1, -⟩ := Cond.exactly_spec (args := args) (first := s) (o := none) (s := s) (idx := []) (t := e_tm j) (cls := "java/lang/String") (hex j hj)
    have hne : a ≠ a2 := by
      intro e
      subst e
      have ee := q1.trans r1.symm
      have h := all_range (all_range e_apart hi) hj
      simp only [Bool.or_eq_true, beq_iff_eq, Bool.not_eq_true', List.any_eq_true, Bool.and_eq_true, decide_eq_true_eq, List.mem_range] at h
      rcases h with (h | h) | ⟨k, hk1, hk2, hk3⟩
      · exact hij h
      · have l1 := va_eqt (hle i hi)
        have l2 := va_eqt (hle j hj)
        have : (Term.length (.field (e_tm i) "java/lang/String" "value" "[B")).eval args s none [] s = (Term.length (.field (e_tm j) "java/lang/String" "value" "[B")).eval args s none [] s := by
          simp only [Term.eval, ee]
        rw [l1, l2] at this
        have h3 := Value.int.inj (Option.some.inj this)
        rw [h3] at h
        simp at h
      · have l1 := va_eqt (hel i hi k hk1)
        have l2 := va_eqt (hel j hj k hk2)
        have : (Term.elem (.field (e_tm i) "java/lang/String" "value" "[B") (.int (Int32.ofNat k))).eval args s none [] s = (Term.elem (.field (e_tm j) "java/lang/String" "value" "[B") (.int (Int32.ofNat k))).eval args s none [] s := by
          simp only [Term.eval, ee]
        rw [l1, l2] at this
        have h3 := Value.int.inj (Option.some.inj this)
        rw [h3] at hk3
        simp at hk3
    simp [Cond.before, Cond.holds, Cond.value, q1, r1, hne]
