/-! ===== heard, follows ===== -/
theorem fl14 {a : Nat} (h : a ≤ 14) : (nI a = 14) ↔ decide (a = 14) = true := by
  rw [decide_eq_true_eq]
  exact ⟨fun z => nI_inj (b := 14) (by omega) (by omega) z, fun z => by rw [z]; rfl⟩
theorem bit0d {a p : Nat} (ha : a < 2 ^ 31) (hp : p < 32) (h : a.testBit p = true) : ¬ ((nI a >>> (nI p &&& 31)) &&& (1 : Int32) = 0) := fun z => by
  rw [(nI_bit0 ha hp).mp z] at h
  simp at h
section
variable {bs : List Nat} {q : tok} {L : Nat} {T : t_D} {g : Bool} {NP NH : List Nat} {NM : List (Nat × Nat × Nat)} {x0 m0 x m : k_St} {n : Nat}
theorem lnHeard (h : RD bs q L T g NP NH NM x0 m0 x m) (hq : q.1 = 2) (hn : 2000 ≤ n) : LO bs L x0 m0 (f_Re_readHeard n x) (f_M_readHeard_R n m) := by
  have B0 := h.1.1 (by omega)
  have hT := h.2.2.1
  have h14 := hT.2.2.2.2.2.1
  have h5 := hT.2.2.2.2.1
  have h8 := hT.1
  have hs : f_Re_readHeard n x = f_Re_readHeard_19 n 0 (if decide (T 0 5 = 14) = true then 1 else 0) x := by
    unfold f_Re_readHeard
    rw [(h.x0i (i := 5) (by omega) (by omega)).1]
    by_cases e : T 0 5 = 14
    · rw [if_neg (show ¬ nI (T 0 5) < 14 by rw [e]; decide), if_pos (by simpa using e)]
    · rw [if_pos (show nI (T 0 5) < 14 from nI_lt (b := 14) (by omega) (by omega)), if_neg (by simpa using e)]
  rw [hs]
  unfold f_Re_readHeard_19 f_M_readHeard_R
  rw [(h.x0i (i := 5) (by omega) (by omega)).2]
  rcases bfirst (full := decide (T 0 5 = 14)) (a := nI (T 0 5)) (b := 14) B0 (by omega) h.len h.m8 h.ns hn (fl14 h14) with ⟨x1, m1, e1, e2, f1, f2, B1, hfull, hg⟩ | ⟨c, hc, e1, e2⟩
  · have h5' : T 0 5 < 14 := by
      have : T 0 5 ≠ 14 := by simpa using hfull
      omega
    have h1 := h.on f1 f2 B1.w h.2.1.on
    rw [e1, kcl, if_neg nk1, e2, kcv]
    unfold f_M_readKnown_R
    rcases h1.kH B1 hn with ⟨i, hi, q2, a1, a2⟩ | ⟨c, hc, a1, a2⟩
    · obtain ⟨x2, m2, s1, s2, f3, f4, B2⟩ := bstep B1 (by omega) hn
      have h2 := h1.on f3 f4 B2.w h1.2.1.on
      rw [a1, kcl, if_neg (nI_ne_m1 (by omega)), s1, kcv, a2, kcl, s2, kcv, kcl]
      rcases h2.kP B2 hn with ⟨j, hj, q3, a3, a4⟩ | ⟨c, hc, a3, a4⟩
      · have x6 : x2.1 16 i = nI (T 6 i) := h2.sx 6 i (Or.inr (Or.inr (Or.inr (Or.inr (Or.inl ⟨rfl, by omega⟩)))))
        have m6 : m2.1 24 i = nI (T 6 i) := h2.sm 6 i (Or.inr (Or.inr (Or.inr (Or.inr (Or.inl ⟨rfl, by omega⟩)))))
        have h256 := hT.h256 i
        rw [a3, kcl, if_neg (nI_ne_m1 (by omega)), kgi (kin (by omega) (by decide)), a4, kcl, if_neg h2.1.al, kgi (kin (by omega) (by decide)), nI_clamp (n := i) (by omega), x6, m6, fMbit (by omega) (by omega)]
        by_cases hb : (T 6 i).testBit j = true
        · rw [hb, if_neg (bit0d (by omega) (by omega) hb), if_neg nk1, klt (f_M_flaw_R 3 m2), d_heard55 (h2.dd 3)]
          exact h2.bad (by decide)
        · have hb' : (T 6 i).testBit j = false := by simpa using hb
          rw [hb', if_pos ((nI_bit0 (by omega) (by omega)).mpr hb'), if_pos kbf]
          obtain ⟨x3, m3, s3, s4, f5, f6, B3⟩ := bstep B2 (by omega) hn
          have h3 := h2.on f5 f6 B3.w h2.2.1.on
          have x6' : x3.1 16 i = nI (T 6 i) := h3.sx 6 i (Or.inr (Or.inr (Or.inr (Or.inr (Or.inl ⟨rfl, by omega⟩)))))
          have m6' : m3.1 24 i = nI (T 6 i) := h3.sm 6 i (Or.inr (Or.inr (Or.inr (Or.inr (Or.inl ⟨rfl, by omega⟩)))))
          have x5 : (k_sI x3 16 i (nI (T 6 i ||| 2 ^ j))).1 10 5 = nI (T 0 5) := by rw [sI1, if_neg (by omega)]; exact (h3.x0i (by omega) (by omega)).1
          have m5 : (k_sI m3 24 i (nI (T 6 i ||| 2 ^ j))).1 18 5 = nI (T 0 5) := by rw [sI1, if_neg (by omega)]; exact (h3.x0i (by omega) (by omega)).2
          unfold f_M_readHeard_R_55
          rw [s3, kcv, kgi (kin (by omega) (by decide)), kgi (kin (by omega) (by decide)), klt, klt, nI_clamp (n := i) (by omega), x6', nI_shl j (by omega), nI_or, x5, nI_1, s4, kcv, if_neg h3.1.al, kgi (kin (by omega) (by decide)), kgi (kin (by omega) (by decide)), klt, klt, m6', nI_or, m5, nI_1]
          refine LO.ok (h3.put (T' := tu (tu T 6 i (T 6 i ||| 2 ^ j)) 0 5 (T 0 5 + 1)) (fun o k z => by rw [sI1, if_neg (by omega), sI1, if_neg (by omega)]) (fun _ _ _ => rfl) (fun o k z => ⟨by rw [sI1, if_neg (by omega), sI1, if_neg (by omega)], rfl⟩) (hT.heard hi hj h5') (((h3.sx.set 6 i _).set 0 5 _).mono (fun a k d => Or.inl (Or.inl d))) (((h3.sm.set 6 i _).set 0 5 _).mono (fun a k d => Or.inl (Or.inl d))) hg (h3.2.2.2.2.1.keep rfl rfl ?_ ?_ ?_ rfl rfl))
          · rw [sI1, if_neg (by omega), sI1, if_neg (by omega)]
          · intro k; rw [sI1, if_neg (by omega), sI1, if_neg (by omega)]
          · intro k; rw [sI1, if_neg (by omega), sI1, if_neg (by omega)]
      · rw [a3, kcl, if_pos rfl, a4, kcl, if_pos (h2.dd c).1, d_heard55 (h2.dd c)]
        exact h2.bad hc
    · rw [a1, kcl, if_pos rfl, a2, kcl, d_goesOn (h1.dd c), kcv, kcl, d_known (h1.dd c) (by omega), kcl, if_pos (h1.dd c).1, d_heard55 (h1.dd c)]
      exact h1.bad hc
  · rw [e1, kcl, if_pos kbf, e2, kcv, d_readKnown (h.dd c) (by omega), kcl, d_known (h.dd c) (by omega), kcl, if_pos (h.dd c).1, d_heard55 (h.dd c)]
    exact h.bad hc
theorem lnFollows (h : RD bs q L T g NP NH NM x0 m0 x m) (hq : q.1 = 2) (hn : 2000 ≤ n) : LO bs L x0 m0 (f_Re_readFollows n x) (f_M_readFollows_R n m) := by
  have B0 := h.1.1 (by omega)
  have hT := h.2.2.1
  have h14 := hT.2.2.2.1
  have h8 := hT.1
  have hs : f_Re_readFollows n x = f_Re_readFollows_19 n 0 (if decide (T 0 3 = 14) = true then 1 else 0) x := by
    unfold f_Re_readFollows
    rw [(h.x0i (i := 3) (by omega) (by omega)).1]
    by_cases e : T 0 3 = 14
    · rw [if_neg (show ¬ nI (T 0 3) < 14 by rw [e]; decide), if_pos (by simpa using e)]
    · rw [if_pos (show nI (T 0 3) < 14 from nI_lt (b := 14) (by omega) (by omega)), if_neg (by simpa using e)]
  rw [hs]
  unfold f_Re_readFollows_19 f_M_readFollows_R
  rw [(h.x0i (i := 3) (by omega) (by omega)).2]
  rcases bfirst (full := decide (T 0 3 = 14)) (a := nI (T 0 3)) (b := 14) B0 (by omega) h.len h.m8 h.ns hn (fl14 h14) with ⟨x1, m1, e1, e2, f1, f2, B1, hfull, hg⟩ | ⟨c, hc, e1, e2⟩
  · have h5' : T 0 3 < 14 := by
      have : T 0 3 ≠ 14 := by simpa using hfull
      omega
    have h1 := h.on f1 f2 B1.w h.2.1.on
    rw [e1, kcl, if_neg nk1, e2, kcv]
    unfold f_M_readKnown_R
    rcases h1.kP B1 hn with ⟨i, hi, q2, a1, a2⟩ | ⟨c, hc, a1, a2⟩
    · obtain ⟨x2, m2, s1, s2, f3, f4, B2⟩ := bstep B1 (by omega) hn
      have h2 := h1.on f3 f4 B2.w h1.2.1.on
      rw [a1, kcl, if_neg (nI_ne_m1 (by omega)), s1, kcv, a2, kcl, s2, kcv, kcl]
      rcases h2.kP B2 hn with ⟨j, hj, q3, a3, a4⟩ | ⟨c, hc, a3, a4⟩
      · have x6 : x2.1 12 i = nI (T 2 i) := h2.sx 2 i (Or.inr (Or.inr (Or.inl ⟨rfl, by omega⟩)))
        have m6 : m2.1 20 i = nI (T 2 i) := h2.sm 2 i (Or.inr (Or.inr (Or.inl ⟨rfl, by omega⟩)))
        have h256 := hT.f256 i
        have f55 : f_M_readFollows_R_55 n (nI i) (nI j) m2 = some (f_M_flaw_R 3 m2) := by
          unfold f_M_readFollows_R_55
          rw [klt, d_follows60 (h2.dd 3)]
        rw [a3, kcl, if_neg (nI_ne_m1 (by omega)), a4, kcl, if_neg h2.1.al]
        by_cases hij : j = i
        · rw [if_pos (by rw [hij]), if_pos (by rw [hij]), f55]
          exact h2.bad (by decide)
        · unfold f_Te_mayFollowS
          rw [if_neg (fun z => hij (nI_inj (by omega) (by omega) z)), if_neg (fun z => hij (nI_inj (by omega) (by omega) z).symm), kgi (kin (by omega) (by decide)), kgi (kin (by omega) (by decide)), nI_clamp (n := i) (by omega), x6, m6, fMbit (by omega) (by omega)]
          by_cases hb : (T 2 i).testBit j = true
          · rw [hb, if_neg (bit0d (by omega) (by omega) hb), kcp, if_neg nk1, if_neg nk1, f55]
            exact h2.bad (by decide)
          · have hb' : (T 2 i).testBit j = false := by simpa using hb
            rw [hb', if_pos ((nI_bit0 (by omega) (by omega)).mpr hb'), kcp, if_pos kbf, if_pos kbf]
            obtain ⟨x3, m3, s3, s4, f5, f6, B3⟩ := bstep B2 (by omega) hn
            have h3 := h2.on f5 f6 B3.w h2.2.1.on
            have x6' : x3.1 12 i = nI (T 2 i) := h3.sx 2 i (Or.inr (Or.inr (Or.inl ⟨rfl, by omega⟩)))
            have m6' : m3.1 20 i = nI (T 2 i) := h3.sm 2 i (Or.inr (Or.inr (Or.inl ⟨rfl, by omega⟩)))
            have x5 : (k_sI x3 12 i (nI (T 2 i ||| 2 ^ j))).1 10 3 = nI (T 0 3) := by rw [sI1, if_neg (by omega)]; exact (h3.x0i (by omega) (by omega)).1
            have m5 : (k_sI m3 20 i (nI (T 2 i ||| 2 ^ j))).1 18 3 = nI (T 0 3) := by rw [sI1, if_neg (by omega)]; exact (h3.x0i (by omega) (by omega)).2
            unfold f_M_readFollows_R_60
            rw [s3, kcv, kgi (kin (by omega) (by decide)), kgi (kin (by omega) (by decide)), klt, klt, nI_clamp (n := i) (by omega), x6', nI_shl j (by omega), nI_or, x5, nI_1, s4, kcv, if_neg h3.1.al, kgi (kin (by omega) (by decide)), kgi (kin (by omega) (by decide)), klt, klt, m6', nI_or, m5, nI_1]
            refine LO.ok (h3.put (T' := tu (tu T 2 i (T 2 i ||| 2 ^ j)) 0 3 (T 0 3 + 1)) (fun o k z => by rw [sI1, if_neg (by omega), sI1, if_neg (by omega)]) (fun _ _ _ => rfl) (fun o k z => ⟨by rw [sI1, if_neg (by omega), sI1, if_neg (by omega)], rfl⟩) (hT.follows hi hj hij hb' h5') (((h3.sx.set 2 i _).set 0 3 _).mono (fun a k d => Or.inl (Or.inl d))) (((h3.sm.set 2 i _).set 0 3 _).mono (fun a k d => Or.inl (Or.inl d))) hg (h3.2.2.2.2.1.keep rfl rfl ?_ ?_ ?_ rfl rfl))
            · rw [sI1, if_neg (by omega), sI1, if_neg (by omega)]
            · intro k; rw [sI1, if_neg (by omega), sI1, if_neg (by omega)]
            · intro k; rw [sI1, if_neg (by omega), sI1, if_neg (by omega)]
      · rw [a3, kcl, if_pos rfl, a4, kcl, if_pos (h2.dd c).1, d_follows60 (h2.dd c)]
        exact h2.bad hc
    · rw [a1, kcl, if_pos rfl, a2, kcl, d_goesOn (h1.dd c), kcv, kcl, d_known (h1.dd c) (by omega), kcl, if_pos (h1.dd c).1, d_follows60 (h1.dd c)]
      exact h1.bad hc
  · rw [e1, kcl, if_pos kbf, e2, kcv, d_readKnown (h.dd c) (by omega), kcl, d_known (h.dd c) (by omega), kcl, if_pos (h.dd c).1, d_follows60 (h.dd c)]
    exact h.bad hc
end
