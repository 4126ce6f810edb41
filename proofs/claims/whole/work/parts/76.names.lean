/-! ===== names ===== -/
def snm (q : tok) : Bool := decide (q.1 = 2) && !(sy q 0) && !(sy q 1) && !(sy q 2) && !(sy q 3) && !(sy q 4) && !(sy q 5) && !(sy q 6)
theorem snm_2 {q : tok} (h : snm q = true) : q.1 = 2 := by
  unfold snm at h
  simp only [Bool.and_eq_true, decide_eq_true_eq] at h
  exact h.1.1.1.1.1.1.1
theorem fXisName {bs : List Nat} {q : tok} {t : k_St} (hX : XX bs t) (hw : tkw bs q) (hK : XK bs q t) (hq6 : q.1 ≤ 5) {n : Nat} (hn : 200 ≤ n) : f_Re_isName n t = some (snm q) := by
  unfold f_Re_isName
  rw [fsays hX hw hK hq6 hn (show 0 < 16 by omega), fsays hX hw hK hq6 hn (show 1 < 16 by omega), fsays hX hw hK hq6 hn (show 2 < 16 by omega), fsays hX hw hK hq6 hn (show 3 < 16 by omega), fsays hX hw hK hq6 hn (show 4 < 16 by omega), fsays hX hw hK hq6 hn (show 5 < 16 by omega), fsays hX hw hK hq6 hn (show 6 < 16 by omega), kcp, kcp, kcp, kcp, kcp, kcp, kcp, hK.1]
  unfold snm
  by_cases e : q.1 = 2
  · rw [if_pos (by rw [e]; rfl), decide_eq_true e]
    cases sy q 0 <;> cases sy q 1 <;> cases sy q 2 <;> cases sy q 3 <;> cases sy q 4 <;> cases sy q 5 <;> cases sy q 6 <;> rfl
  · rw [if_neg (neL (b := 2) 2 e rfl (by omega) (by omega)), decide_eq_false e]
    rfl
theorem fMisName {bs : List Nat} {q : tok} {t : k_St} (hw : tkw bs q) (hK : MK bs q t) (hq6 : q.1 ≤ 5) {n : Nat} (hn : 200 ≤ n) : f_M_isName_R n t = some (snm q) := by
  unfold f_M_isName_R
  rw [fMisWord hw hK hq6 hn (show 0 < 16 by omega), fMisWord hw hK hq6 hn (show 1 < 16 by omega), fMisWord hw hK hq6 hn (show 2 < 16 by omega), fMisWord hw hK hq6 hn (show 3 < 16 by omega), fMisWord hw hK hq6 hn (show 4 < 16 by omega), fMisWord hw hK hq6 hn (show 5 < 16 by omega), fMisWord hw hK hq6 hn (show 6 < 16 by omega), kcp, kcp, kcp, kcp, kcp, kcp, kcp, hK.1]
  unfold snm
  by_cases e : q.1 = 2
  · rw [if_pos (by rw [e]; rfl), decide_eq_true e]
    cases sy q 0 <;> cases sy q 1 <;> cases sy q 2 <;> cases sy q 3 <;> cases sy q 4 <;> cases sy q 5 <;> cases sy q 6 <;> rfl
  · have hm : mkd q.1 ≠ 2 ∧ mkd q.1 < 2 ^ 31 := by unfold mkd; split <;> (try split) <;> omega
    rw [if_neg (neL (b := 2) 2 hm.1 rfl hm.2 (by omega)), decide_eq_false e]
    rfl
theorem fidxP {n c : Nat} (hn : 200 ≤ n) (hc : c ≤ 8) {t : k_St} : (f_Re_indexInP n t (nI c) = some (-1) ∧ ∀ i, i < c → t.2 19 i ≠ t.2 18 7) ∨ ∃ i, i < c ∧ f_Re_indexInP n t (nI c) = some (nI i) ∧ t.2 19 i = t.2 18 7 ∧ ∀ j, j < i → t.2 19 j ≠ t.2 18 7 := by
  have key : ∀ (f i : Nat), i ≤ c → c - i < f → (∀ j, j < i → t.2 19 j ≠ t.2 18 7) → (f_Re_indexInP_2 n t f (nI c) (nI i) = some (-1) ∧ ∀ i, i < c → t.2 19 i ≠ t.2 18 7) ∨ ∃ k, k < c ∧ f_Re_indexInP_2 n t f (nI c) (nI i) = some (nI k) ∧ t.2 19 k = t.2 18 7 ∧ ∀ j, j < k → t.2 19 j ≠ t.2 18 7 := by
    intro f
    induction f with
    | zero => intro i _ q; omega
    | succ f ih =>
      intro i hi hf hno
      rw [f_Re_indexInP_2]
      rcases Nat.lt_or_ge i c with hl | hl
      · rw [if_neg (nI_ge hl (by omega)), if_neg (show ¬ (8 : Int32) ≤ nI i from nI_ge (b := 8) (by omega) (by omega)), kgi (kin (by omega) (by decide)), nI_clamp (n := i) (by omega)]
        by_cases e : t.2 19 i = t.2 18 7
        · rw [if_pos ((lg_cmp_eq _ _).mpr e)]
          exact Or.inr ⟨i, hl, rfl, e, hno⟩
        · rw [if_neg (fun q => e ((lg_cmp_eq _ _).mp q)), klt, nI_1]
          exact ih (i + 1) (by omega) (by omega) (fun j hj => by
            by_cases z : j = i
            · rw [z]; exact e
            · exact hno j (by omega))
      · rw [if_pos (nI_le hl (by omega))]
        exact Or.inl ⟨rfl, fun j hj => hno j (by omega)⟩
  exact key n 0 (by omega) (by omega) (fun j hj => by omega)
theorem fidxH {n c : Nat} (hn : 200 ≤ n) (hc : c ≤ 5) {t : k_St} : (f_Re_indexInH n t (nI c) = some (-1) ∧ ∀ i, i < c → t.2 20 i ≠ t.2 18 7) ∨ ∃ i, i < c ∧ f_Re_indexInH n t (nI c) = some (nI i) ∧ t.2 20 i = t.2 18 7 ∧ ∀ j, j < i → t.2 20 j ≠ t.2 18 7 := by
  have key : ∀ (f i : Nat), i ≤ c → c - i < f → (∀ j, j < i → t.2 20 j ≠ t.2 18 7) → (f_Re_indexInH_2 n t f (nI c) (nI i) = some (-1) ∧ ∀ i, i < c → t.2 20 i ≠ t.2 18 7) ∨ ∃ k, k < c ∧ f_Re_indexInH_2 n t f (nI c) (nI i) = some (nI k) ∧ t.2 20 k = t.2 18 7 ∧ ∀ j, j < k → t.2 20 j ≠ t.2 18 7 := by
    intro f
    induction f with
    | zero => intro i _ q; omega
    | succ f ih =>
      intro i hi hf hno
      rw [f_Re_indexInH_2]
      rcases Nat.lt_or_ge i c with hl | hl
      · rw [if_neg (nI_ge hl (by omega)), if_neg (show ¬ (5 : Int32) ≤ nI i from nI_ge (b := 5) (by omega) (by omega)), kgi (kin (by omega) (by decide)), nI_clamp (n := i) (by omega)]
        by_cases e : t.2 20 i = t.2 18 7
        · rw [if_pos ((lg_cmp_eq _ _).mpr e)]
          exact Or.inr ⟨i, hl, rfl, e, hno⟩
        · rw [if_neg (fun q => e ((lg_cmp_eq _ _).mp q)), klt, nI_1]
          exact ih (i + 1) (by omega) (by omega) (fun j hj => by
            by_cases z : j = i
            · rw [z]; exact e
            · exact hno j (by omega))
      · rw [if_pos (nI_le hl (by omega))]
        exact Or.inl ⟨rfl, fun j hj => hno j (by omega)⟩
  exact key n 0 (by omega) (by omega) (fun j hj => by omega)
