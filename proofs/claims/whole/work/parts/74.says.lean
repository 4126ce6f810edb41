/-! ===== is it that word ===== -/
def wd (q : Nat) : List Nat := (k_byt.getD q []).map (fun x => x.toNatClampNeg)
theorem wd_f : ∀ q, q < 16 → (wd q).length = k_len.getD q 0 ∧ (wd q).length ≤ 8 ∧ 0 < (wd q).length ∧ (∀ c ∈ wd q, isl c = true) ∧ ∀ i, i < (wd q).length → k_sch q (nI i) = nI ((wd q).getD i 0) := by decide +kernel
theorem isl_r {c : Nat} (h : isl c = true) : 97 ≤ c ∧ c ≤ 122 := by
  unfold isl at h
  rw [Bool.and_eq_true, decide_eq_true_eq, decide_eq_true_eq] at h
  exact h
theorem wvl_app (w : Nat) (l : List Nat) (c : Nat) : wvl w (l ++ [c]) = wvl w l * 32 + (c - 96) := by unfold wvl; rw [List.foldl_append]; rfl
theorem wvl_lt : ∀ (l : List Nat), (∀ c ∈ l, isl c = true) → wvl 0 l.reverse < 32 ^ l.length
  | [], _ => by decide
  | c :: l, h => by
    have i := wvl_lt l (fun d hd => h d (by simp [hd]))
    have hc := isl_r (h c (by simp))
    rw [List.reverse_cons, wvl_app, List.length_cons, Nat.pow_succ]
    omega
theorem wvl_inj : ∀ (a b : List Nat), (∀ c ∈ a, isl c = true) → (∀ c ∈ b, isl c = true) → wvl 0 a.reverse = wvl 0 b.reverse → a = b
  | [], [], _, _, _ => rfl
  | [], c :: b, _, hb, e => by
    have hc := isl_r (hb c (by simp))
    rw [List.reverse_cons, wvl_app] at e
    have : wvl 0 ([] : List Nat).reverse = 0 := rfl
    omega
  | c :: a, [], ha, _, e => by
    have hc := isl_r (ha c (by simp))
    rw [List.reverse_cons, wvl_app] at e
    have : wvl 0 ([] : List Nat).reverse = 0 := rfl
    omega
  | c :: a, d :: b, ha, hb, e => by
    have hc := isl_r (ha c (by simp))
    have hd := isl_r (hb d (by simp))
    rw [List.reverse_cons, wvl_app, List.reverse_cons, wvl_app] at e
    have e1 : c = d := by omega
    have e2 : wvl 0 a.reverse = wvl 0 b.reverse := by omega
    rw [e1, wvl_inj a b (fun x hx => ha x (by simp [hx])) (fun x hx => hb x (by simp [hx])) e2]
theorem wvl_eq {a b : List Nat} (ha : ∀ c ∈ a, isl c = true) (hb : ∀ c ∈ b, isl c = true) : wvl 0 a = wvl 0 b ↔ a = b := by
  refine ⟨fun e => ?_, fun e => by rw [e]⟩
  have := wvl_inj a.reverse b.reverse (fun c hc => ha c (by simpa using hc)) (fun c hc => hb c (by simpa using hc)) (by rw [List.reverse_reverse, List.reverse_reverse]; exact e)
  exact List.reverse_inj.mp this
theorem wvl_63 {a : List Nat} (ha : ∀ c ∈ a, isl c = true) (h8 : a.length ≤ 8) : wvl 0 a < 2 ^ 63 := by
  have := wvl_lt a.reverse (fun c hc => ha c (by simpa using hc))
  rw [List.reverse_reverse, List.length_reverse] at this
  have h2 : 32 ^ a.length ≤ 32 ^ 8 := Nat.pow_le_pow_right (by omega) h8
  have h3 : (32 : Nat) ^ 8 < 2 ^ 63 := by decide
  omega
theorem fMpacked {n q : Nat} (hn : 200 ≤ n) (hq : q < 16) : f_M_packed n q = some (lN (wvl 0 (wd q))) := by
  obtain ⟨h1, h2, -, h3, h4⟩ := wd_f q hq
  have key : ∀ (R P : List Nat) (f : Nat), wd q = P ++ R → R.length < f → f_M_packed_4 n q f (lN (wvl 0 P)) (nI P.length) = some (lN (wvl 0 (wd q))) := by
    intro R
    induction R with
    | nil =>
      intro P f e hf
      obtain ⟨f, rfl⟩ : ∃ f', f = f' + 1 := ⟨f - 1, by simp at hf; omega⟩
      have hl : (wd q).length = P.length := by rw [e]; simp
      rw [f_M_packed_4, if_pos (show k_slen q ≤ nI P.length from nI_le (a := k_len.getD q 0) (by omega) (by omega)), e, List.append_nil]
    | cons c R ih =>
      intro P f e hf
      rw [List.length_cons] at hf
      obtain ⟨f, rfl⟩ : ∃ f', f = f' + 1 := ⟨f - 1, by omega⟩
      have hl : (wd q).length = P.length + (R.length + 1) := by rw [e]; simp
      have hc : (wd q).getD P.length 0 = c := by rw [List.getD_eq_getElem?_getD, e, at_pos]; rfl
      have hi := h3 c (by rw [e]; simp)
      have hr := isl_r hi
      rw [f_M_packed_4, if_neg (show ¬ k_slen q ≤ nI P.length from nI_ge (b := k_len.getD q 0) (by omega) (by omega)), kgi (kin (by omega) (by omega)), h4 P.length (by omega), hc, ((bv_v c (by omega)).1 hi).2, show (32 : Int64) = lN 32 from rfl, lN_mul, lN_add, klt, klt, nI_1]
      have := ih (P ++ [c]) f (by rw [e]; simp) (by omega)
      rw [wvl_app, List.length_append] at this
      rw [Nat.mul_comm]
      exact this
  exact key (wd q) [] n rfl (by omega)
/-- a word's bytes -/
def tkw (bs : List Nat) (q : tok) : Prop := (∃ P, bs = P ++ q.2.1) ∧ (q.1 = 2 → q.2.1 = q.2.2.2 ++ q.2.2.1 ∧ (∀ c ∈ q.2.2.2, isl c = true) ∧ q.2.2.2.length ≤ 8) ∧ (q.1 ≠ 1 → ∃ P, bs = P ++ q.2.2.1)
def sy (q : tok) (i : Nat) : Bool := decide (q.1 = 2 ∧ q.2.2.2 = wd i)
theorem fMisWord {bs : List Nat} {q : tok} {t : k_St} (hw : tkw bs q) (hK : MK bs q t) (hq6 : q.1 ≤ 5) {n i : Nat} (hn : 200 ≤ n) (hi : i < 16) : f_M_isWord_R n i t = some (sy q i) := by
  obtain ⟨h1, h2, -, h3, h4⟩ := wd_f i hi
  unfold f_M_isWord_R sy
  rw [hK.1]
  by_cases e : q.1 = 2
  · obtain ⟨-, w2, w3⟩ := hw.2.1 e
    rw [if_pos (by rw [e]; rfl), fMpacked hn hi, kcp, hK.2.2.2.1 e]
    by_cases z : q.2.2.2 = wd i
    · rw [if_pos ((lg_cmp_eq _ _).mpr (by rw [z])), decide_eq_true ⟨e, z⟩]
    · rw [if_neg (fun y => z ((wvl_eq w2 h3).mp ((pk_lEQ (wvl_63 w2 w3) (wvl_63 h3 h2)).mp ((lg_cmp_eq _ _).mp y)))), decide_eq_false (fun y => z y.2)]
  · rw [if_neg (fun y => by
      have : nI (mkd q.1) = nI 2 := y
      have := nI_inj (by unfold mkd; split <;> (try split) <;> omega) (by omega) this
      unfold mkd at this
      split at this
      · omega
      · split at this <;> omega), decide_eq_false (fun y => e y.1)]
theorem bv_n : ∀ c, c < 128 → bv c = nI c := by decide +kernel
theorem fsays {bs : List Nat} {q : tok} {t : k_St} (hX : XX bs t) (hw : tkw bs q) (hK : XK bs q t) (hq6 : q.1 ≤ 5) {n i : Nat} (hn : 200 ≤ n) (hi : i < 16) : f_Re_says n i t = some (sy q i) := by
  obtain ⟨h1, h2, h0, h3, h4⟩ := wd_f i hi
  have h900 := hX.1
  unfold f_Re_says sy
  rw [hK.1]
  by_cases e : q.1 = 2
  · obtain ⟨w1, w2, w3⟩ := hw.2.1 e
    obtain ⟨P, hP⟩ := hw.1
    have hl : bs.length = P.length + q.2.1.length := by rw [hP]; simp
    have hl2 : q.2.1.length = q.2.2.2.length + q.2.2.1.length := by rw [w1]; simp
    rw [if_pos (by rw [e]; rfl), hK.2.1, hK.2.2.1, pk_sub (by omega), show bs.length - q.2.2.1.length - (bs.length - q.2.1.length) = q.2.2.2.length by omega]
    by_cases z : q.2.2.2.length = (wd i).length
    · rw [if_pos (show nI q.2.2.2.length = k_slen i by rw [z, h1]; rfl)]
      have key : ∀ (R A B D : List Nat) (f : Nat), q.2.2.2 = A ++ R → wd i = B ++ D → A.length = B.length → R.length < f → f_Re_says_28 n i t f (nI A.length) = some (decide (R = D)) := by
        intro R
        induction R with
        | nil =>
          intro A B D f eA eB hAB hf
          obtain ⟨f, rfl⟩ : ∃ f', f = f' + 1 := ⟨f - 1, by simp at hf; omega⟩
          have l1' : q.2.2.2.length = A.length := by rw [eA]; simp
          have l2' : (wd i).length = B.length + D.length := by rw [eB]; simp
          have : D = [] := List.eq_nil_of_length_eq_zero (by omega)
          subst this
          rw [f_Re_says_28, if_pos (show k_slen i ≤ nI A.length from nI_le (a := k_len.getD i 0) (by omega) (by omega))]
          rfl
        | cons c R ih =>
          intro A B D f eA eB hAB hf
          rw [List.length_cons] at hf
          obtain ⟨f, rfl⟩ : ∃ f', f = f' + 1 := ⟨f - 1, by omega⟩
          have l1' : q.2.2.2.length = A.length + (R.length + 1) := by rw [eA]; simp
          have l2' : (wd i).length = B.length + D.length := by rw [eB]; simp
          match D, eB, l2' with
          | [], eB, l2' => simp at l2'; omega
          | d :: D, eB, l2' =>
            have hd : (wd i).getD A.length 0 = d := by rw [hAB, List.getD_eq_getElem?_getD, eB, at_pos]; rfl
            have hc := isl_r (w2 c (by rw [eA]; simp))
            have hdl := isl_r (h3 d (by rw [eB]; simp))
            have hpos := hX.2.1 (P.length + A.length) c (by
              rw [hP, w1, eA, List.getElem?_append_right (by omega), Nat.add_sub_cancel_left, List.append_assoc]
              exact at_pos)
            rw [List.length_cons] at l2'
            rw [f_Re_says_28, if_neg (show ¬ k_slen i ≤ nI A.length from nI_ge (b := k_len.getD i 0) (by omega) (by omega)), hK.2.1, show bs.length - q.2.1.length = P.length by omega, nI_add, kgi (kin (by omega) (by decide)), kgi (kin (by omega) (by omega)), nI_clamp (n := P.length + A.length) (by omega), hpos.1, bv_n c (by omega), h4 A.length (by omega), hd, klt, nI_1]
            by_cases x : c = d
            · rw [if_pos (by rw [x])]
              have := ih (A ++ [c]) (B ++ [d]) D f (by rw [eA]; simp) (by rw [eB]; simp) (by simp [hAB]) (by omega)
              rw [List.length_append] at this
              rw [x, show decide (d :: R = d :: D) = decide (R = D) by simp]
              exact this
            · rw [if_neg (fun y => x (nI_inj (by omega) (by omega) y)), decide_eq_false (fun y => x (List.cons.inj y).1)]
      have k0 := key q.2.2.2 [] [] (wd i) n rfl rfl rfl (by omega)
      have k0' : f_Re_says_28 n i t n 0 = some (decide (q.2.2.2 = wd i)) := k0
      rw [k0', show decide (q.1 = 2 ∧ q.2.2.2 = wd i) = decide (q.2.2.2 = wd i) by simp [e]]
    · rw [if_neg (show ¬ nI q.2.2.2.length = k_slen i from fun y => z (by rw [h1]; exact nI_inj (by omega) (by omega) y)), decide_eq_false (fun y => z (by rw [y.2]))]
  · rw [if_neg (neL (b := 2) 2 e rfl (by omega) (by omega)), decide_eq_false (fun y => e y.1)]
