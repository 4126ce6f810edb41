/-! ===== a token is part of the text ===== -/
theorem dw_suf (p : Nat → Bool) (R : List Nat) : ∃ A, R = A ++ R.dropWhile p := ⟨R.takeWhile p, (List.takeWhile_append_dropWhile).symm⟩
theorem tw_all (p : Nat → Bool) : ∀ (R : List Nat), ∀ c ∈ R.takeWhile p, p c = true
  | [], c, h => by simp at h
  | d :: R, c, h => by
    rw [List.takeWhile_cons] at h
    split at h
    · rename_i hd
      rcases List.mem_cons.mp h with e | e
      · rw [e]; exact hd
      · exact tw_all p R c e
    · simp at h
theorem lx_ok {bs P R : List Nat} (hb : bs = P ++ R) : tkw bs (lx R) ∧ (lx R).1 ≤ 5 := by
  obtain ⟨A, hA⟩ := dw_suf (fun c => c == 32) R
  unfold lx
  generalize R.dropWhile (fun c => c == 32) = S at hA
  match S, hA with
  | [], hA => exact ⟨⟨⟨bs, by simp⟩, fun q => absurd q (by decide), fun _ => ⟨bs, by simp⟩⟩, by decide⟩
  | c :: r, hA =>
    have hS : bs = (P ++ A) ++ (c :: r) := by rw [hb, hA]; simp
    have sub : ∀ B D, c :: r = B ++ D → ∃ P', bs = P' ++ D := fun B D e => ⟨(P ++ A) ++ B, by rw [hS, e]; simp⟩
    show tkw bs (if isl c then _ else _) ∧ (if isl c then _ else _ : tok).1 ≤ 5
    by_cases hi : isl c = true
    · rw [if_pos hi]
      refine ⟨⟨⟨_, hS⟩, fun q => ⟨(List.takeWhile_append_dropWhile).symm, tw_all isl _, ?_⟩, fun _ => sub _ _ (List.takeWhile_append_dropWhile).symm⟩, ?_⟩
      · have q : (if ((c :: r).takeWhile isl).length ≤ 8 then 2 else 1) = 2 := q
        split at q
        · assumption
        · omega
      · show (if ((c :: r).takeWhile isl).length ≤ 8 then 2 else 1) ≤ 5
        split <;> omega
    · rw [if_neg hi]
      by_cases hd : isd c = true
      · rw [if_pos hd]
        refine ⟨⟨⟨_, hS⟩, fun q => ?_, fun _ => sub _ _ (List.takeWhile_append_dropWhile).symm⟩, ?_⟩
        · exfalso
          have q : (if ((c :: r).takeWhile isd).length ≤ 3 then 3 else 1) = 2 := q
          split at q <;> omega
        · show (if ((c :: r).takeWhile isd).length ≤ 3 then 3 else 1) ≤ 5
          split <;> omega
      · rw [if_neg hd]
        by_cases h59 : c = 59
        · rw [if_pos h59]
          exact ⟨⟨⟨_, hS⟩, fun q => by simp at q, fun _ => sub [c] r rfl⟩, by simp⟩
        · rw [if_neg h59]
          by_cases h44 : c = 44
          · rw [if_pos h44]
            exact ⟨⟨⟨_, hS⟩, fun q => by simp at q, fun _ => sub [c] r rfl⟩, by simp⟩
          · rw [if_neg h44]
            exact ⟨⟨⟨_, hS⟩, fun q => by simp at q, fun _ => sub [c] r rfl⟩, by simp⟩
/-! ===== the reference after a flaw ===== -/
def dead (t : k_St) : Prop := t.1 0 9 = 6 ∧ ∃ c, c ≤ 13 ∧ t.1 18 8 = nI c
theorem d_goesOn {t : k_St} (h : dead t) (n : Nat) : f_M_goesOn_R n t = some t := by unfold f_M_goesOn_R; rw [if_pos h.1]
theorem d_flaw {t : k_St} (h : dead t) (x : Int32) : f_M_flaw_R x t = t := by unfold f_M_flaw_R; rw [if_pos h.1]
theorem d_isWord {t : k_St} (h : dead t) (n q : Nat) : f_M_isWord_R n q t = some false := by unfold f_M_isWord_R; rw [h.1, if_neg (by decide)]
theorem d_isName {t : k_St} (h : dead t) (n : Nat) : f_M_isName_R n t = some false := by unfold f_M_isName_R; rw [h.1, if_neg (by decide)]
theorem ffindN {n c : Nat} (hn : 200 ≤ n) (hc : c ≤ 13) {t : k_St} (h : t.1 18 8 = nI c) (w : Int64) : (f_Mt_find_R n t w = some (-1) ∧ ∀ i, i < c → t.2 26 i ≠ w) ∨ ∃ i, i < c ∧ f_Mt_find_R n t w = some (nI i) ∧ t.2 26 i = w ∧ ∀ j, j < i → t.2 26 j ≠ w := by
  have key : ∀ (f i : Nat), i ≤ c → c - i < f → (∀ j, j < i → t.2 26 j ≠ w) → (f_Mt_find_R_2 n t f w (nI i) = some (-1) ∧ ∀ i, i < c → t.2 26 i ≠ w) ∨ ∃ k, k < c ∧ f_Mt_find_R_2 n t f w (nI i) = some (nI k) ∧ t.2 26 k = w ∧ ∀ j, j < k → t.2 26 j ≠ w := by
    intro f
    induction f with
    | zero => intro i _ q; omega
    | succ f ih =>
      intro i hi hf hno
      rw [f_Mt_find_R_2, h]
      rcases Nat.lt_or_ge i c with hl | hl
      · rw [if_neg (nI_ge hl (by omega)), kgi (kin (by omega) (by decide)), nI_clamp (n := i) (by omega)]
        by_cases e : t.2 26 i = w
        · rw [if_pos ((lg_cmp_eq _ _).mpr e)]
          exact Or.inr ⟨i, hl, rfl, e, hno⟩
        · rw [if_neg (fun q => e ((lg_cmp_eq _ _).mp q)), klt, nI_1]
          exact ih (i + 1) (by omega) (by omega) (fun j hj => by
            by_cases z : j = i
            · rw [z]; exact e
            · exact hno j (by omega))
      · rw [if_pos (nI_le hl (by omega))]
        exact Or.inl ⟨rfl, fun j hj => hno j (by omega)⟩
  exact key n 0 (by omega) (by omega) (fun j hj => by omega)
theorem d_known {t : k_St} (h : dead t) {n : Nat} (hn : 200 ≤ n) (x1 : Int32) : f_M_knownOne_R n x1 t = some (0, t) := by
  obtain ⟨c, hc, h8⟩ := h.2
  have e47 : ∀ x2, f_M_knownOne_R_47 n x2 t = some (0, t) := fun x2 => by unfold f_M_knownOne_R_47; rw [if_pos h.1]
  have e42 : ∀ x2, f_M_knownOne_R_42 n x2 t = some (0, t) := fun x2 => by unfold f_M_knownOne_R_42; rw [d_flaw h, klt]; exact e47 x2
  unfold f_M_knownOne_R
  rw [d_isName h, kcp, if_pos (show k_b false = 0 from rfl), d_flaw h, klt]
  unfold f_M_knownOne_R_12
  rcases ffindN hn hc h8 (t.2 0 14) with ⟨e, -⟩ | ⟨i, hi, e, -⟩
  · rw [e, kcp, if_pos rfl]; exact e42 _
  · rw [e, kcp, if_neg (nI_ne_m1 (by omega)), kgi (kin (by omega) (by decide))]
    split
    · exact e47 _
    · exact e42 _
theorem d_eats {t : k_St} (h : dead t) (n : Nat) {x1 : Int32} (hx : x1 ≠ 6) : f_M_eats_R n x1 t = some (false, t) := by unfold f_M_eats_R; rw [h.1, if_neg (fun q => hx q.symm), if_pos rfl]
theorem d_begins {t : k_St} (h : dead t) (n : Nat) (x1 x2 : Int32) : f_M_lineBegins_R n x1 x2 t = some t := by
  have e10 : f_M_lineBegins_R_10 n t = some t := by
    unfold f_M_lineBegins_R_10
    rw [d_flaw h, klt, d_goesOn h, kcv]
    split <;> rfl
  unfold f_M_lineBegins_R
  rw [d_flaw h, klt, e10]
  split <;> rfl
theorem d_fresh {t : k_St} (h : dead t) {n : Nat} (hn : 200 ≤ n) : f_M_readFresh_R n t = some (t.2 0 14, t) := by
  obtain ⟨c, hc, h8⟩ := h.2
  unfold f_M_readFresh_R
  rw [d_isName h, kcp, if_pos (show k_b false = 0 from rfl), d_flaw h, klt]
  unfold f_M_readFresh_R_12
  rw [d_flaw h, klt, klt, klt, d_goesOn h, kcv]
  rcases ffindN hn hc h8 (t.2 0 14) with ⟨e, -⟩ | ⟨i, hi, e, -⟩
  · rw [e, kcp]; split <;> rfl
  · rw [e, kcp]; split <;> rfl
theorem d_needs {t : k_St} (h : dead t) (n q : Nat) : f_M_needs_R n q t = some t := by
  unfold f_M_needs_R
  rw [d_isWord h, kcp, if_pos (show k_b false = 0 from rfl), d_flaw h, klt, d_goesOn h, kcv]
theorem d_whole {t : k_St} (h : dead t) (n : Nat) (x1 x2 : Int32) : f_M_readWhole_R n x1 x2 t = some (x1, t) := by
  have e33 : f_M_readWhole_R_33 n x1 t = some (x1, t) := by unfold f_M_readWhole_R_33; rw [if_pos h.1, d_goesOn h, kcv]
  unfold f_M_readWhole_R
  rw [h.1, if_neg (by decide), d_flaw h, klt, e33]
theorem d_part {t : k_St} (h : dead t) (n q : Nat) (x1 x2 : Int32) : f_M_readPart_R n q x1 x2 t = some (x1, t) := by
  unfold f_M_readPart_R
  rw [d_needs h, kcv, d_whole h, kcl]
