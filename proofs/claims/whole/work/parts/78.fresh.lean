/-! ===== houses' names, and fresh names: both ===== -/
theorem knH {bs : List Nat} {q : tok} {x m : k_St} (hX : XX bs x) (hw : tkw bs q) (hq6 : q.1 ≤ 5) (hK : XK bs q x) (hM : MK bs q m) {NP NH : List Nat} {NM : List (Nat × Nat × Nat)} (hN : NW NP NH NM) (hx : NX NP NH x) (hm : NMm NM m) {n : Nat} (hn : 200 ≤ n) :
    (∃ i, i < NH.length ∧ q.1 = 2 ∧ f_Re_nameHereH n (nI NH.length) x = some (nI i, x) ∧ f_M_knownOne_R n 1 m = some (nI i, m)) ∨ ∃ c : Int32, 0 < c ∧ f_Re_nameHereH n (nI NH.length) x = some (-1, k_sI x 18 0 c) ∧ f_M_knownOne_R n 1 m = some (0, f_M_flaw_R c m) := by
  have al := hM.al hq6
  have hl : NM.length ≤ 13 := by have := hN.1; have := hN.2.1; have := hN.2.2.1; omega
  unfold f_Re_nameHereH f_M_knownOne_R
  rw [fXisName hX hw hK hq6 hn, fMisName hw hM hq6 hn, kcp, kcp]
  by_cases hs : snm q = true
  · have h2 := snm_2 hs
    obtain ⟨-, w2, w3⟩ := hw.2.1 h2
    have h63 := wvl_63 w2 w3
    have x7 := hK.2.2.2.1 h2
    rw [if_neg (k_bne hs), if_neg (k_bne hs)]
    unfold f_M_knownOne_R_12
    rw [hM.2.2.2.1 h2]
    have f42 : ∀ x2, f_M_knownOne_R_42 n x2 m = some (0, f_M_flaw_R 2 m) := fun x2 => by
      unfold f_M_knownOne_R_42 f_M_knownOne_R_47
      rw [klt, if_pos (flaw_al al 2).1]
    rcases fidxH (n := n) (t := x) hn hN.2.1 with ⟨e, h⟩ | ⟨i, hi, e, h, -⟩
    · right
      refine ⟨2, by decide, by rw [e, kcp, if_pos rfl]; rfl, ?_⟩
      rcases mfind hN hm hn h63 with ⟨e2, -⟩ | ⟨k, s, i, hk, e2⟩
      · rw [e2, kcp, if_pos rfl]
        exact f42 _
      · have hk13 := (List.getElem?_eq_some_iff.mp hk).1
        have hs1 : s ≤ 1 := (hN.2.2.2.2.2.1 _ (List.mem_of_getElem? hk)).1
        rw [e2, kcp, if_neg (nI_ne_m1 (by omega)), kgi (kin (by omega) (by decide)), nI_clamp (by omega), (hm.2 k _ hk).2.1, if_neg (show ¬ nI s = 1 from fun z => by
          have hs0 : s = 1 := nI_inj (b := 1) (by omega) (by omega) z
          subst hs0
          have := (hN.2.2.2.2.1 i _).mpr (List.mem_of_getElem? hk)
          exact h i (List.getElem?_eq_some_iff.mp this).1 ((hx.2 i _ this).trans x7.symm))]
        exact f42 _
    · left
      obtain ⟨w', hw'⟩ := getE hi
      have hmem := (hN.2.2.2.2.1 i w').mp hw'
      have ew : wvl 0 q.2.2.2 = w' := by
        have := hx.2 i w' hw'
        rw [h, x7] at this
        exact (pk_lEQ h63 (hN.2.2.2.2.2.1 _ hmem).2).mp this
      refine ⟨i, hi, h2, by rw [e, kcp, if_neg (nI_ne_m1 (by have := hN.2.1; omega))], ?_⟩
      rcases mfind hN hm hn h63 with ⟨-, no⟩ | ⟨k, s, i', hk, e2⟩
      · exact absurd ew.symm (no _ hmem)
      · have hk13 := (List.getElem?_eq_some_iff.mp hk).1
        have eq := hN.2.2.2.2.2.2 _ (List.mem_of_getElem? hk) _ hmem ew
        simp only [Prod.mk.injEq] at eq
        obtain ⟨-, rfl, rfl⟩ := eq
        unfold f_M_knownOne_R_47
        rw [e2, kcp, if_neg (nI_ne_m1 (by omega)), kgi (kin (by omega) (by decide)), nI_clamp (by omega), (hm.2 k _ hk).2.1, if_pos (show nI 1 = 1 from rfl), if_neg al, kgi (kin (by omega) (by decide)), (hm.2 k _ hk).2.2]
  · right
    have hs' : snm q = false := by simpa using hs
    refine ⟨1, by decide, by rw [if_pos (k_beq hs')]; rfl, ?_⟩
    rw [if_pos (k_beq hs'), klt]
    have hd := flaw_dead al 1 hl hm.1
    have e := d_known hd hn 1
    unfold f_M_knownOne_R at e
    rw [d_isName hd, kcp, if_pos (show k_b false = 0 from rfl), d_flaw hd, klt] at e
    exact e
theorem frN {bs : List Nat} {q : tok} {x m : k_St} (hX : XX bs x) (hw : tkw bs q) (hq6 : q.1 ≤ 5) (hK : XK bs q x) (hM : MK bs q m) {NP NH : List Nat} {NM : List (Nat × Nat × Nat)} (hN : NW NP NH NM) (hx : NX NP NH x) (hm : NMm NM m) (h2 : x.1 10 2 = nI NP.length) (h4 : x.1 10 4 = nI NH.length) {n : Nat} (hn : 200 ≤ n) :
    (q.1 = 2 ∧ f_Re_isNewName n x = some (true, x) ∧ f_M_readFresh_R n m = k_cv (f_M_goesOn_R n m) (fun t_3 => some (lN (wvl 0 q.2.2.2), t_3)) ∧ ∀ e ∈ NM, e.1 ≠ wvl 0 q.2.2.2) ∨ ∃ (c : Int32) (z : Int64), 0 < c ∧ f_Re_isNewName n x = some (false, k_sI x 18 0 c) ∧ f_M_readFresh_R n m = some (z, f_M_flaw_R c m) := by
  have al := hM.al hq6
  have hl : NM.length ≤ 13 := by have := hN.1; have := hN.2.1; have := hN.2.2.1; omega
  unfold f_Re_isNewName f_M_readFresh_R
  rw [fXisName hX hw hK hq6 hn, fMisName hw hM hq6 hn, kcp, kcp, h2, h4]
  by_cases hs : snm q = true
  · have hq2 := snm_2 hs
    obtain ⟨-, w2, w3⟩ := hw.2.1 hq2
    have h63 := wvl_63 w2 w3
    have x7 := hK.2.2.2.1 hq2
    rw [if_neg (k_bne hs), if_neg (k_bne hs)]
    unfold f_M_readFresh_R_12
    rw [hM.2.2.2.1 hq2]
    have old : f_Re_isNewName_51 n x = some (false, k_sI x 18 0 3) := rfl
    have dd := d_goesOn (flaw_dead al 3 hl hm.1) n
    rcases mfind hN hm hn h63 with ⟨e2, no⟩ | ⟨k, s, i, hk, e2⟩
    · left
      refine ⟨hq2, ?_, by rw [e2, kcp, if_pos rfl]; rfl, no⟩
      rcases fidxP (n := n) (t := x) hn hN.1 with ⟨e, h⟩ | ⟨i, hi, e, h, -⟩
      · rw [e, kcp, if_pos rfl]
        rcases fidxH (n := n) (t := x) hn hN.2.1 with ⟨e, h⟩ | ⟨i, hi, e, h, -⟩
        · rw [e, kcp, if_pos rfl, if_pos rfl]
        · exfalso
          obtain ⟨w', hw'⟩ := getE hi
          have hmem := (hN.2.2.2.2.1 i w').mp hw'
          have := hx.2 i w' hw'
          rw [h, x7] at this
          exact no _ hmem ((pk_lEQ h63 (hN.2.2.2.2.2.1 _ hmem).2).mp this).symm
      · exfalso
        obtain ⟨w', hw'⟩ := getE hi
        have hmem := (hN.2.2.2.1 i w').mp hw'
        have := hx.1 i w' hw'
        rw [h, x7] at this
        exact no _ hmem ((pk_lEQ h63 (hN.2.2.2.2.2.1 _ hmem).2).mp this).symm
    · right
      have hk13 := (List.getElem?_eq_some_iff.mp hk).1
      refine ⟨3, (f_M_flaw_R 3 m).2 0 14, by decide, ?_, by rw [e2, kcp, if_neg (nI_ne_m1 (by omega)), klt, klt, dd, kcv]⟩
      rcases fidxP (n := n) (t := x) hn hN.1 with ⟨e, h⟩ | ⟨i', hi, e, h, -⟩
      · rw [e, kcp, if_pos rfl]
        rcases fidxH (n := n) (t := x) hn hN.2.1 with ⟨e, h'⟩ | ⟨i', hi, e, -, -⟩
        · exfalso
          have hs1 : s ≤ 1 := (hN.2.2.2.2.2.1 _ (List.mem_of_getElem? hk)).1
          by_cases z : s = 0
          · subst z
            have := (hN.2.2.2.1 i _).mpr (List.mem_of_getElem? hk)
            exact h i (List.getElem?_eq_some_iff.mp this).1 ((hx.1 i _ this).trans x7.symm)
          · have z : s = 1 := by omega
            subst z
            have := (hN.2.2.2.2.1 i _).mpr (List.mem_of_getElem? hk)
            exact h' i (List.getElem?_eq_some_iff.mp this).1 ((hx.2 i _ this).trans x7.symm)
        · rw [e, kcp, if_neg (nI_ne_m1 (by have := hN.2.1; omega))]
          exact old
      · rw [e, kcp, if_neg (nI_ne_m1 (by have := hN.1; omega))]
        exact old
  · right
    have hs' : snm q = false := by simpa using hs
    have hd := flaw_dead al 1 hl hm.1
    refine ⟨1, (f_M_flaw_R 1 m).2 0 14, by decide, by rw [if_pos (k_beq hs')]; rfl, ?_⟩
    rw [if_pos (k_beq hs'), klt]
    have e := d_fresh hd hn
    unfold f_M_readFresh_R at e
    rw [d_isName hd, kcp, if_pos (show k_b false = 0 from rfl), d_flaw hd, klt] at e
    exact e
