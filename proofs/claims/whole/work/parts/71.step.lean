/-! ===== a step of the class's reader ===== -/
abbrev tok : Type := Nat × List Nat × List Nat × List Nat
def XK (bs : List Nat) (q : tok) (t : k_St) : Prop := t.1 18 5 = nI q.1 ∧ t.1 18 1 = nI (bs.length - q.2.1.length) ∧ t.1 18 4 = nI (bs.length - q.2.2.1.length) ∧ (q.1 = 2 → t.2 18 7 = lN (wvl 0 q.2.2.2)) ∧ (q.1 = 3 → t.1 18 6 = nI (nvl 0 q.2.2.2))
theorem tw_len (p : Nat → Bool) (R : List Nat) : (R.takeWhile p).length + (R.dropWhile p).length = R.length := by
  have := congrArg List.length (List.takeWhile_append_dropWhile (p := p) (l := R))
  rw [List.length_append] at this
  exact this
theorem fstep8 {bs : List Nat} {n : Nat} : ∀ (R P : List Nat) (f : Nat) (t : k_St), bs = P ++ R → R.length < f → XX bs t → t.1 18 1 = nI P.length → ∃ P' u, f_Re_step_8 n f t = f_Re_step_46 n u ∧ xr t u ∧ bs = P' ++ R.dropWhile (fun c => c == 32) ∧ u.1 18 1 = nI P'.length := by
  intro R
  induction R with
  | nil =>
    intro P f t hb hf hX h1
    obtain ⟨f, rfl⟩ : ∃ f', f = f' + 1 := ⟨f - 1, by simp at hf; omega⟩
    have hl : bs.length = P.length := by rw [hb]; simp
    have := hX.1
    rw [f_Re_step_8, hX.2.2, h1, if_pos (nI_le (by omega) (by omega))]
    exact ⟨P, t, rfl, xr.rf t, hb, h1⟩
  | cons c R ih =>
    intro P f t hb hf hX h1
    rw [List.length_cons] at hf
    obtain ⟨f, rfl⟩ : ∃ f', f = f' + 1 := ⟨f - 1, by omega⟩
    have hl : bs.length = P.length + (R.length + 1) := by rw [hb]; simp
    have h900 := hX.1
    obtain ⟨hc1, hc2⟩ := hX.2.1 P.length c (by rw [hb]; exact at_pos)
    rw [f_Re_step_8, hX.2.2, h1, if_neg (nI_ge (by omega) (by omega)), kgi (kin (by omega) (by decide)), nI_clamp (n := P.length) (by omega), hc1, List.dropWhile_cons]
    by_cases e : c = 32
    · rw [if_pos ((bv_e c hc2).1.mpr e), klt, nI_1, if_pos (by simpa using e)]
      have tz := xr.si t 1 (nI (P.length + 1)) (by omega)
      obtain ⟨P', u, a, b, c1, c2⟩ := ih (P ++ [c]) f (k_sI t 18 1 (nI (P.length + 1))) (by rw [hb]; simp) (by omega) (hX.xr tz) (by rw [sI1, if_pos ⟨rfl, rfl⟩]; simp)
      exact ⟨P', u, a, tz.tr b, c1, c2⟩
    · rw [if_neg (fun q => e ((bv_e c hc2).1.mp q)), if_neg (by simpa using e)]
      exact ⟨P, t, rfl, xr.rf t, hb, h1⟩
theorem fstep {bs : List Nat} {n : Nat} (hn : 2000 ≤ n) {R P : List Nat} {t : k_St} (hb : bs = P ++ R) (hX : XX bs t) (h4 : t.1 18 4 = nI P.length) : ∃ u, f_Re_step n t = some u ∧ xr t u ∧ XK bs (lx R) u := by
  have h900 := hX.1
  have hbl : bs.length = P.length + R.length := by rw [hb]; simp
  unfold f_Re_step
  rw [klt, h4]
  have tz := xr.si t 1 (nI P.length) (by omega)
  obtain ⟨P', u, a, b, c1, c2⟩ := fstep8 (n := n) R P n (k_sI t 18 1 (nI P.length)) hb (by omega) (hX.xr tz) (by rw [sI1, if_pos ⟨rfl, rfl⟩])
  have tu := tz.tr b
  have hXu := hX.xr tu
  rw [a]
  unfold lx
  generalize R.dropWhile (fun c => c == 32) = S at c1
  have hSl : bs.length = P'.length + S.length := by rw [c1]; simp
  match S, c1, hSl with
  | [], c1, hSl =>
    unfold f_Re_step_46
    rw [List.length_nil] at hSl
    rw [c2, hXu.2.2, if_neg (nI_nlt (by omega) (by omega)), klt, klt, klt]
    have e3 : (k_sI u 18 1 (nI bs.length)).1 18 3 = nI bs.length := by rw [sI1, if_neg (by omega)]; exact hXu.2.2
    rw [e3]
    exact ⟨_, rfl, ((tu.tr (xr.si _ _ _ (by omega))).tr (xr.si _ _ _ (by omega))).tr (xr.si _ _ _ (by omega)), by rw [sI1, if_pos ⟨rfl, rfl⟩]; rfl, by rw [sI1, if_neg (by omega), sI1, if_neg (by omega), sI1, if_pos ⟨rfl, rfl⟩]; rfl, by rw [sI1, if_neg (by omega), sI1, if_pos ⟨rfl, rfl⟩]; rfl, fun q => by simp at q, fun q => by simp at q⟩
  | c :: r, c1, hSl =>
    obtain ⟨hc1, hc2⟩ := hXu.2.1 P'.length c (by rw [c1]; exact at_pos)
    rw [List.length_cons] at hSl
    have hst : bs.length - (c :: r).length = P'.length := by rw [List.length_cons]; omega
    unfold f_Re_step_46
    rw [c2, hXu.2.2, if_pos (nI_lt (by omega) (by omega)), kgi (kin (by omega) (by decide)), nI_clamp (n := P'.length) (by omega), hc1, (bv_l c hc2).1]
    show ∃ u_1, _ ∧ _ ∧ XK bs (if isl c then _ else _) u_1
    by_cases hi : isl c = true
    · rw [if_neg (k_bne hi), if_pos hi]
      unfold f_Re_takeWord
      rw [klt, klt, sL1, c2]
      have uz := (xr.sl u 0).tr (xr.si (k_sL u 18 7 0) 4 (nI P'.length) (by omega))
      obtain ⟨v, d1, d2, d3, d4, d5⟩ := fword13 (n := n) (c :: r) P' n 0 (k_sI (k_sL u 18 7 0) 18 4 (nI P'.length)) c1 (by rw [List.length_cons]; omega) (hXu.xr uz) (by rw [sI1, if_pos ⟨rfl, rfl⟩]) (by rw [sI2, sL2, if_pos ⟨rfl, rfl⟩]; rfl)
      have d3' : v.1 18 1 = nI P'.length := by rw [d3, sI1, if_neg (by omega)]; exact c2
      have hlen := tw_len isl (c :: r)
      rw [List.length_cons] at hlen
      rw [d1]
      unfold f_Re_takeWord_80
      rw [d4, d3', pk_sub (by omega), show P'.length + ((c :: r).takeWhile isl).length - P'.length = ((c :: r).takeWhile isl).length by omega]
      have tv := (tu.tr uz).tr d2
      have fin : ∀ z : Nat, z = (if ((c :: r).takeWhile isl).length ≤ 8 then 2 else 1) → ∃ u, k_cv (k_lt (k_sI v 18 5 (nI z)) (fun t_1 => some t_1)) (fun t_12 => some t_12) = some u ∧ xr t u ∧ XK bs (z, c :: r, (c :: r).dropWhile isl, (c :: r).takeWhile isl) u := by
        intro z _
        refine ⟨_, rfl, tv.tr (xr.si _ _ _ (by omega)), by rw [sI1, if_pos ⟨rfl, rfl⟩], by rw [sI1, if_neg (by omega), d3', hst], ?_, fun _ => d5, fun q => ?_⟩
        · rw [sI1, if_neg (by omega), d4]
          congr 1
          show _ = bs.length - ((c :: r).dropWhile isl).length
          omega
        · exfalso
          have q : z = 3 := q
          split at * <;> omega
      by_cases h8 : ((c :: r).takeWhile isl).length ≤ 8
      · rw [if_neg (show ¬ (8 : Int32) < nI ((c :: r).takeWhile isl).length from nI_nlt (a := 8) h8 (by omega)), if_pos h8]
        exact fin 2 (by rw [if_pos h8])
      · rw [if_pos (show (8 : Int32) < nI ((c :: r).takeWhile isl).length from nI_lt (a := 8) (by omega) (by omega)), if_neg h8]
        exact fin 1 (by rw [if_neg h8])
    · rw [if_pos (k_beq (by simpa using hi)), if_neg hi, kgi (kin (by omega) (by decide)), (bv_l c hc2).2.2.1]
      by_cases hd : isd c = true
      · rw [if_neg (k_bne hd), if_pos hd]
        unfold f_Re_takeWhole
        have e1 : (k_sI u 18 6 0).1 18 1 = nI P'.length := by rw [sI1, if_neg (by omega)]; exact c2
        rw [klt, klt, e1]
        have uz := (xr.si u 6 0 (by omega)).tr (xr.si (k_sI u 18 6 0) 4 (nI P'.length) (by omega))
        obtain ⟨v, d1, d2, d3, d4, d5⟩ := fwhole13 (n := n) (c :: r) P' n 0 (k_sI (k_sI u 18 6 0) 18 4 (nI P'.length)) c1 (by rw [List.length_cons]; omega) (hXu.xr uz) (by rw [sI1, if_pos ⟨rfl, rfl⟩]) (by rw [sI1, if_neg (by omega), sI1, if_pos ⟨rfl, rfl⟩]; rfl)
        have d3' : v.1 18 1 = nI P'.length := by rw [d3, sI1, if_neg (by omega)]; exact e1
        have hlen := tw_len isd (c :: r)
        rw [List.length_cons] at hlen
        rw [d1]
        unfold f_Re_takeWhole_76
        rw [d4, d3', pk_sub (by omega), show P'.length + ((c :: r).takeWhile isd).length - P'.length = ((c :: r).takeWhile isd).length by omega]
        have tv := (tu.tr uz).tr d2
        have fin : ∀ z : Nat, z = (if ((c :: r).takeWhile isd).length ≤ 3 then 3 else 1) → ∃ u, k_cv (k_lt (k_sI v 18 5 (nI z)) (fun t_1 => some t_1)) (fun t_12 => some t_12) = some u ∧ xr t u ∧ XK bs (z, c :: r, (c :: r).dropWhile isd, (c :: r).takeWhile isd) u := by
          intro z _
          refine ⟨_, rfl, tv.tr (xr.si _ _ _ (by omega)), by rw [sI1, if_pos ⟨rfl, rfl⟩], by rw [sI1, if_neg (by omega), d3', hst], ?_, fun q => ?_, fun _ => by rw [sI1, if_neg (by omega)]; exact d5⟩
          · rw [sI1, if_neg (by omega), d4]
            congr 1
            show _ = bs.length - ((c :: r).dropWhile isd).length
            omega
          · exfalso
            have q : z = 2 := q
            split at * <;> omega
        by_cases h8 : ((c :: r).takeWhile isd).length ≤ 3
        · rw [if_neg (show ¬ (3 : Int32) < nI ((c :: r).takeWhile isd).length from nI_nlt (a := 3) h8 (by omega)), if_pos h8]
          exact fin 3 (by rw [if_pos h8])
        · rw [if_pos (show (3 : Int32) < nI ((c :: r).takeWhile isd).length from nI_lt (a := 3) (by omega) (by omega)), if_neg h8]
          exact fin 1 (by rw [if_neg h8])
      · rw [if_pos (k_beq (by simpa using hd)), if_neg hd, kgi (kin (by omega) (by decide)), kgi (kin (by omega) (by decide))]
        have fin : ∀ z : Nat, z ≠ 2 → z ≠ 3 → ∃ w, k_lt (k_sI u 18 5 (nI z)) (fun t_9 => k_lt (k_sI t_9 18 4 ((t_9.1 18 1) + (1 : Int32))) (fun t_10 => some t_10)) = some w ∧ xr t w ∧ XK bs (z, c :: r, r, []) w := by
          intro z z2 z3
          have e1 : (k_sI u 18 5 (nI z)).1 18 1 = nI P'.length := by rw [sI1, if_neg (by omega)]; exact c2
          rw [klt, klt, e1, nI_1]
          refine ⟨_, rfl, (tu.tr (xr.si _ _ _ (by omega))).tr (xr.si _ _ _ (by omega)), by rw [sI1, if_neg (by omega), sI1, if_pos ⟨rfl, rfl⟩], by rw [sI1, if_neg (by omega), e1, hst], ?_, fun q => absurd q z2, fun q => absurd q z3⟩
          rw [sI1, if_pos ⟨rfl, rfl⟩]
          congr 1
          show _ = bs.length - r.length
          omega
        by_cases h59 : c = 59
        · rw [if_pos ((bv_e c hc2).2.1.mpr h59), if_pos h59]
          exact fin 4 (by omega) (by omega)
        · rw [if_neg (fun q => h59 ((bv_e c hc2).2.1.mp q)), if_neg h59]
          by_cases h44 : c = 44
          · rw [if_pos ((bv_e c hc2).2.2.1.mpr h44), if_pos h44]
            exact fin 5 (by omega) (by omega)
          · rw [if_neg (fun q => h44 ((bv_e c hc2).2.2.1.mp q)), if_neg h44]
            exact fin 1 (by omega) (by omega)
