/-! ===== a known name: both ===== -/
theorem flaw_al {m : k_St} (h : m.1 0 9 ≠ 6) (c : Int32) : (f_M_flaw_R c m).1 0 9 = 6 ∧ (f_M_flaw_R c m).1 0 12 = c ∧ (f_M_flaw_R c m).1 0 13 = m.1 0 10 ∧ (∀ o k, ¬ (o = 0 ∧ (k = 9 ∨ k = 12 ∨ k = 13)) → (f_M_flaw_R c m).1 o k = m.1 o k) ∧ (f_M_flaw_R c m).2 = m.2 := by
  unfold f_M_flaw_R
  rw [if_neg h, klt, klt, klt]
  refine ⟨by rw [sI1, if_pos ⟨rfl, rfl⟩], by rw [sI1, if_neg (by omega), sI1, if_neg (by omega), sI1, if_pos ⟨rfl, rfl⟩], ?_, fun o k a => by rw [sI1, if_neg (by omega), sI1, if_neg (by omega), sI1, if_neg (by omega)], rfl⟩
  rw [sI1, if_neg (by omega), sI1, if_pos ⟨rfl, rfl⟩, sI1, if_neg (by omega)]
theorem flaw_dead {m : k_St} (h : m.1 0 9 ≠ 6) (c : Int32) {k : Nat} (hk : k ≤ 13) (h8 : m.1 18 8 = nI k) : dead (f_M_flaw_R c m) := by
  have := flaw_al h c
  exact ⟨this.1, k, hk, by rw [this.2.2.2.1 18 8 (by omega)]; exact h8⟩
/-- the names told so far, by kind and together -/
def NW (NP NH : List Nat) (NM : List (Nat × Nat × Nat)) : Prop := NP.length ≤ 8 ∧ NH.length ≤ 5 ∧ NM.length = NP.length + NH.length ∧ (∀ i w, NP[i]? = some w ↔ (w, 0, i) ∈ NM) ∧ (∀ i w, NH[i]? = some w ↔ (w, 1, i) ∈ NM) ∧ (∀ e ∈ NM, e.2.1 ≤ 1 ∧ e.1 < 2 ^ 63) ∧ ∀ e ∈ NM, ∀ e' ∈ NM, e.1 = e'.1 → e = e'
def NX (NP NH : List Nat) (x : k_St) : Prop := (∀ i w, NP[i]? = some w → x.2 19 i = lN w) ∧ ∀ i w, NH[i]? = some w → x.2 20 i = lN w
def NMm (NM : List (Nat × Nat × Nat)) (m : k_St) : Prop := m.1 18 8 = nI NM.length ∧ ∀ k e, NM[k]? = some e → m.2 26 k = lN e.1 ∧ m.1 27 k = nI e.2.1 ∧ m.1 28 k = nI e.2.2
theorem getE {α : Type} {L : List α} {i : Nat} (h : i < L.length) : ∃ e, L[i]? = some e := ⟨L[i], List.getElem?_eq_getElem h⟩
theorem MK.al {bs : List Nat} {q : tok} {m : k_St} (h : MK bs q m) (hq : q.1 ≤ 5) : m.1 0 9 ≠ 6 := by
  rw [h.1]
  have hm : mkd q.1 ≠ 6 ∧ mkd q.1 < 2 ^ 31 := by unfold mkd; split <;> (try split) <;> omega
  exact neL (b := 6) 6 hm.1 rfl hm.2 (by omega)
/-- what the reference finds of a word -/
theorem mfind {NP NH : List Nat} {NM : List (Nat × Nat × Nat)} (hN : NW NP NH NM) {m : k_St} (hm : NMm NM m) {n w : Nat} (hn : 200 ≤ n) (hw : w < 2 ^ 63) : (f_Mt_find_R n m (lN w) = some (-1) ∧ ∀ e ∈ NM, e.1 ≠ w) ∨ ∃ k s i, NM[k]? = some (w, s, i) ∧ f_Mt_find_R n m (lN w) = some (nI k) := by
  have hl : NM.length ≤ 13 := by have := hN.1; have := hN.2.1; have := hN.2.2.1; omega
  rcases ffindN hn hl hm.1 (lN w) with ⟨e, h⟩ | ⟨k, hk, e, h, -⟩
  · left
    refine ⟨e, fun d hd q => ?_⟩
    obtain ⟨k, hk⟩ := List.getElem?_of_mem hd
    have := (hm.2 k d hk).1
    rw [q] at this
    exact h k (List.getElem?_eq_some_iff.mp hk).1 this
  · right
    obtain ⟨⟨w', s, i⟩, hk2⟩ := getE hk
    have h1 := (hm.2 k _ hk2).1
    rw [h] at h1
    have := (pk_lEQ hw (hN.2.2.2.2.2.1 _ (List.mem_of_getElem? hk2)).2).mp h1
    refine ⟨k, s, i, ?_, e⟩
    rw [hk2, this]
theorem knP {bs : List Nat} {q : tok} {x m : k_St} (hX : XX bs x) (hw : tkw bs q) (hq6 : q.1 ≤ 5) (hK : XK bs q x) (hM : MK bs q m) {NP NH : List Nat} {NM : List (Nat × Nat × Nat)} (hN : NW NP NH NM) (hx : NX NP NH x) (hm : NMm NM m) {n : Nat} (hn : 200 ≤ n) :
    (∃ i, i < NP.length ∧ q.1 = 2 ∧ f_Re_nameHereP n (nI NP.length) x = some (nI i, x) ∧ f_M_knownOne_R n 0 m = some (nI i, m)) ∨ ∃ c : Int32, 0 < c ∧ f_Re_nameHereP n (nI NP.length) x = some (-1, k_sI x 18 0 c) ∧ f_M_knownOne_R n 0 m = some (0, f_M_flaw_R c m) := by
  have al := hM.al hq6
  have hl : NM.length ≤ 13 := by have := hN.1; have := hN.2.1; have := hN.2.2.1; omega
  unfold f_Re_nameHereP f_M_knownOne_R
  rw [fXisName hX hw hK hq6 hn, fMisName hw hM hq6 hn, kcp, kcp]
  by_cases hs : snm q = true
  · have h2 := snm_2 hs
    obtain ⟨-, w2, w3⟩ := hw.2.1 h2
    have h63 := wvl_63 w2 w3
    have x7 := hK.2.2.2.1 h2
    rw [if_neg (k_bne hs), if_neg (k_bne hs)]
    unfold f_M_knownOne_R_12
    rw [hM.2.2.2.1 h2]
    have f42 : ∀ x2, f_M_knownOne_R_42 n x2 m = some (0, f_M_flaw_R 2 m) := fun x2 => by
      unfold f_M_knownOne_R_42 f_M_knownOne_R_47
      rw [klt, if_pos (flaw_al al 2).1]
    rcases fidxP (n := n) (t := x) hn hN.1 with ⟨e, h⟩ | ⟨i, hi, e, h, -⟩
    · right
      refine ⟨2, by decide, by rw [e, kcp, if_pos rfl]; rfl, ?_⟩
      rcases mfind hN hm hn h63 with ⟨e2, -⟩ | ⟨k, s, i, hk, e2⟩
      · rw [e2, kcp, if_pos rfl]
        exact f42 _
      · have hk13 := (List.getElem?_eq_some_iff.mp hk).1
        have hs1 : s ≤ 1 := (hN.2.2.2.2.2.1 _ (List.mem_of_getElem? hk)).1
        rw [e2, kcp, if_neg (nI_ne_m1 (by omega)), kgi (kin (by omega) (by decide)), nI_clamp (by omega), (hm.2 k _ hk).2.1, if_neg (show ¬ nI s = 0 from fun z => by
          have hs0 : s = 0 := nI_inj (b := 0) (by omega) (by omega) z
          subst hs0
          have := (hN.2.2.2.1 i _).mpr (List.mem_of_getElem? hk)
          exact h i (List.getElem?_eq_some_iff.mp this).1 ((hx.1 i _ this).trans x7.symm))]
        exact f42 _
    · left
      obtain ⟨w', hw'⟩ := getE hi
      have hmem := (hN.2.2.2.1 i w').mp hw'
      have ew : wvl 0 q.2.2.2 = w' := by
        have := hx.1 i w' hw'
        rw [h, x7] at this
        exact (pk_lEQ h63 (hN.2.2.2.2.2.1 _ hmem).2).mp this
      refine ⟨i, hi, h2, by rw [e, kcp, if_neg (nI_ne_m1 (by have := hN.1; omega))], ?_⟩
      rcases mfind hN hm hn h63 with ⟨-, no⟩ | ⟨k, s, i', hk, e2⟩
      · exact absurd ew.symm (no _ hmem)
      · have hk13 := (List.getElem?_eq_some_iff.mp hk).1
        have eq := hN.2.2.2.2.2.2 _ (List.mem_of_getElem? hk) _ hmem ew
        simp only [Prod.mk.injEq] at eq
        obtain ⟨-, rfl, rfl⟩ := eq
        unfold f_M_knownOne_R_47
        rw [e2, kcp, if_neg (nI_ne_m1 (by omega)), kgi (kin (by omega) (by decide)), nI_clamp (by omega), (hm.2 k _ hk).2.1, if_pos (show nI 0 = 0 from rfl), if_neg al, kgi (kin (by omega) (by decide)), (hm.2 k _ hk).2.2]
  · right
    have hs' : snm q = false := by simpa using hs
    refine ⟨1, by decide, by rw [if_pos (k_beq hs')]; rfl, ?_⟩
    rw [if_pos (k_beq hs'), klt]
    have hd := flaw_dead al 1 hl hm.1
    have e := d_known hd hn 0
    unfold f_M_knownOne_R at e
    rw [d_isName hd, kcp, if_pos (show k_b false = 0 from rfl), d_flaw hd, klt] at e
    exact e
