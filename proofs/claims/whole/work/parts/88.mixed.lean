/-! ===== mixed ===== -/
theorem Sd.off {o : Nat} {D : Nat → Nat → Prop} {T : t_D} {x : k_St} (h : Sd o D T x) (b j v : Nat) : Sd o (fun a k => D a k ∧ ¬ (a = b ∧ k = j)) (tu T b j v) x := fun a k d => by
  rw [tu_n d.2]
  exact h a k d.1
/-- in the midst of a mixed row: the reference has not told its length yet -/
def RM (bs : List Nat) (q : tok) (L i : Nat) (T : t_D) (NP NH : List Nat) (NM : List (Nat × Nat × Nat)) (x0 m0 x m : k_St) : Prop := BT bs q x m ∧ tl L q ∧ Tp T ∧ T 0 7 = i ∧ Sd 10 (dm T true) T x ∧ Sd 18 (fun a k => dm T true a k ∧ ¬ (a = 0 ∧ k = 7)) T m ∧ RN T NP NH NM x m ∧ x.1 18 8 = 1 ∧ Fx x0 x ∧ Fm m0 m
section
variable {bs : List Nat} {L : Nat} {g : Bool} {NP NH : List Nat} {NM : List (Nat × Nat × Nat)} {x0 m0 : k_St} {n : Nat}
theorem mixL (hn : 2000 ≤ n) : ∀ (f f' i : Nat) (q : tok) (T : t_D) (x m : k_St), 9 ≤ f + i → 9 ≤ f' + i → i ≤ 6 → RM bs q L i T NP NH NM x0 m0 x m → LO bs L x0 m0 (f_Re_readMixed_27 n f (nI i) x) (f_M_readMixed_R_25 n f' (nI i) 1 m) := by
  intro f
  induction f with
  | zero => intro f' i q T x m h; omega
  | succ f ih =>
    intro f' i q T x m hf hf' hi h
    obtain ⟨f', rfl⟩ : ∃ f'', f' = f'' + 1 := ⟨f' - 1, by omega⟩
    obtain ⟨B, hl, hT, hTi, sx, sm, N, h18, fx, fm⟩ := h
    have k8 := N.2.2.1.1
    have h8 := hT.1
    have x2' : x.1 10 2 = nI NP.length := by rw [N.2.2.2.1]; exact sx 0 2 (Or.inl ⟨rfl, by omega, by omega⟩)
    have al := B.w.al
    have dd : ∀ c, dead (f_M_flaw_R c m) := fun c => flaw_dead al c N.len k8
    rw [f_Re_readMixed_27, f_M_readMixed_R_25, if_neg (show ¬ (6 : Int32) < nI i from nI_nlt (a := 6) (by omega) (by omega)), if_neg (show ¬ (1 : Int32) = 0 by decide), x2']
    rcases knP B.1 B.2.2.2.2.1 B.2.2.2.2.2 B.2.2.1 B.2.2.2.1 N.1 N.2.1 N.2.2.1 (n := n) (by omega) with ⟨p, hp, q2, a1, a2⟩ | ⟨c, hc, a1, a2⟩
    · rw [a1, kcl, if_neg (nI_ne_m1 (by have := N.1.1; omega)), a2, kcl]
      have hp' : p < T 0 2 := by rw [← N.2.2.2.1]; exact hp
      by_cases e6 : i = 6
      · rw [if_neg (show ¬ nI i < 6 by rw [e6]; decide), if_pos (show nI i = 6 by rw [e6]; rfl), klt (f_M_flaw_R 5 m), d_mixed46 (dd 5)]
        exact LO.bad (by decide) B.w fx fm N.len k8
      · have i6 : i < 6 := by omega
        rw [if_pos (show nI i < 6 from nI_lt (b := 6) i6 (by omega)), if_neg (neL (b := 6) 6 e6 rfl (by omega) (by omega)), kgi (kin i6 (by decide)), klt, klt, nI_clamp (n := i) (by omega), nI_1]
        have sxa : Sd 10 (fun b j => (dm T true b j ∨ (b = 7 ∧ j = i)) ∨ (b = 0 ∧ j = 7)) (tu (tu T 7 i p) 0 7 (i + 1)) (k_sI (k_sI x 17 i (nI p)) 10 7 (nI (i + 1))) := (sx.set 7 i p).set 0 7 (i + 1)
        have Ba : BT bs q (k_sI (k_sI x 17 i (nI p)) 10 7 (nI (i + 1))) m := B.fr (fun k => ⟨by rw [sI1, if_neg (by omega), sI1, if_neg (by omega)], fun z => by rw [sI1, if_neg (by omega), sI1, if_neg (by omega)], rfl⟩) (fun k => ⟨rfl, rfl, rfl⟩)
        have fxa : Fx x0 (k_sI (k_sI x 17 i (nI p)) 10 7 (nI (i + 1))) := fx.fr (fun o k z => ⟨by rw [sI1, if_neg (by omega), sI1, if_neg (by omega)], rfl⟩)
        have nxa : NX NP NH (k_sI (k_sI x 17 i (nI p)) 10 7 (nI (i + 1))) := N.2.1
        have h18a : (k_sI (k_sI x 17 i (nI p)) 10 7 (nI (i + 1))).1 18 8 = 1 := by rw [sI1, if_neg (by omega), sI1, if_neg (by omega)]; exact h18
        generalize k_sI (k_sI x 17 i (nI p)) 10 7 (nI (i + 1)) = xa at *
        obtain ⟨x2, m2, s1, s2, f1, f2, B2⟩ := bstep Ba (by omega) hn
        have al2 := B2.w.al
        unfold f_M_readMixed_R_46
        rw [s1, kcv, B2.2.2.1.1, s2, kcv, if_neg al2, kgi (kin i6 (by decide)), klt, klt, nI_clamp (n := i) (by omega), nI_1]
        have hD : ∀ a k, ((dm T true a k ∨ (a = 7 ∧ k = i)) ∨ (a = 0 ∧ k = 7)) → a ≤ 7 := fun a k d => by
          rcases d with (d | d) | d
          · exact dm7 d
          · omega
          · omega
        have sx2 := sxa.xr hD f1
        have smb : Sd 18 (fun b j => (dm T true b j ∧ ¬ (b = 0 ∧ j = 7)) ∨ (b = 7 ∧ j = i)) (tu T 7 i p) (k_sI m2 25 i (nI p)) := (sm.mo f2).set 7 i p
        have Bb : BT bs (lx q.2.2.1) x2 (k_sI m2 25 i (nI p)) := B2.fr (fun k => ⟨rfl, fun _ => rfl, rfl⟩) (fun k => ⟨by rw [sI1, if_neg (by omega)], by rw [sI1, if_neg (by omega)], rfl⟩)
        have fmb : Fm m0 (k_sI m2 25 i (nI p)) := (fm.mo f2).fr (fun o k z => ⟨by rw [sI1, if_neg (by omega)], rfl⟩)
        have nm2 := N.2.2.1.mo f2
        have nmb : NMm NM (k_sI m2 25 i (nI p)) := ⟨by rw [sI1, if_neg (by omega)]; exact nm2.1, fun k e z => by rw [sI1, if_neg (by omega), sI1, if_neg (by omega)]; exact nm2.2 k e z⟩
        generalize k_sI m2 25 i (nI p) = mb at *
        unfold f_M_eats_R
        rw [Bb.2.2.2.1.1]
        have hTm := hT.mixed hTi.symm i6 hp'
        by_cases e5 : (lx q.2.2.1).1 = 5
        · rw [if_pos (show nI (lx q.2.2.1).1 = 5 by rw [e5]; rfl), if_pos (show nI (mkd (lx q.2.2.1).1) = 5 by rw [e5]; rfl), if_neg (show ¬ (1 : Int32) = 0 by decide)]
          obtain ⟨x3, m3, s3, s4, f3, f4, B3⟩ := bstep Bb (by omega) hn
          rw [s3, kcv, klt, s4, kcv, kcl, klt]
          refine ih f' (i + 1) (lx (lx q.2.2.1).2.2.1) (tu (tu T 7 i p) 0 7 (i + 1)) x3 m3 (by omega) (by omega) (by omega) ⟨B3, hl.on.on, hTm, rfl, (sx2.xr hD f3).mono (fun a k d => ?_), ((smb.mo f4).off 0 7 (i + 1)).mono (fun a k d => ?_), ⟨N.1, (nxa.xr f1).xr f3, nmb.mo f4, N.2.2.2.1, N.2.2.2.2⟩, ?_, (fxa.xr f1).xr f3, fmb.mo f4⟩
          · have d' : dn (T 0 2) (T 0 4) (i + 1) true a k := d
            rw [← hTi] at d'
            rcases dn_m d' with d' | d'
            · exact Or.inl (Or.inl d')
            · rw [hTi] at d'
              exact Or.inl (Or.inr d')
          · refine ⟨?_, d.2⟩
            have d' : dn (T 0 2) (T 0 4) (i + 1) true a k := d.1
            rw [← hTi] at d'
            rcases dn_m d' with d' | d'
            · exact Or.inl ⟨d', d.2⟩
            · rw [hTi] at d'
              exact Or.inr d'
          · rw [f3.1 18 8 (by omega), f1.1 18 8 (by omega)]
            exact h18a
        · have hm5 : mkd (lx q.2.2.1).1 ≠ 5 ∧ mkd (lx q.2.2.1).1 < 2 ^ 31 := by
            have := Bb.2.2.2.2.2
            unfold mkd
            split <;> (try split) <;> omega
          obtain ⟨f', rfl⟩ : ∃ f'', f' = f'' + 1 := ⟨f' - 1, by omega⟩
          rw [if_neg (neL (b := 5) 5 e5 rfl (by have := Bb.2.2.2.2.2; omega) (by omega)), if_neg (neL (b := 5) 5 hm5.1 rfl hm5.2 (by omega)), if_pos (show (0 : Int32) = 0 from rfl), kcl, klt, f_M_readMixed_R_25, if_pos kbf, klt]
          have smc := smb.set 0 7 (i + 1)
          refine LO.ok (q := lx q.2.2.1) (T := tu (tu T 7 i p) 0 7 (i + 1)) (g := true) (NP := NP) (NH := NH) (NM := NM) ⟨?_, hl.on, hTm, ⟨sx2.mono (fun a k d => ?_), smc.mono (fun a k d => ?_), fun z => by simp at z⟩, ⟨N.1, nxa.xr f1, ?_, N.2.2.2.1, N.2.2.2.2⟩, ?_, fxa.xr f1, ?_⟩
          · exact Bb.w.fr (fun k => ⟨rfl, fun _ => rfl, rfl⟩) (fun k => ⟨by rw [sI1, if_neg (by omega)], by rw [sI1, if_neg (by omega)], rfl⟩)
          · have d' : dn (T 0 2) (T 0 4) (i + 1) true a k := d
            rw [← hTi] at d'
            rcases dn_m d' with d' | d'
            · exact Or.inl (Or.inl d')
            · rw [hTi] at d'
              exact Or.inl (Or.inr d')
          · have d' : dn (T 0 2) (T 0 4) (i + 1) true a k := d
            rw [← hTi] at d'
            rcases dn_m d' with d' | d'
            · by_cases z : a = 0 ∧ k = 7
              · exact Or.inr z
              · exact Or.inl (Or.inl ⟨d', z⟩)
            · rw [hTi] at d'
              exact Or.inl (Or.inr d')
          · exact ⟨by rw [sI1, if_neg (by omega)]; exact nmb.1, fun k e z => by rw [sI1, if_neg (by omega), sI1, if_neg (by omega)]; exact nmb.2 k e z⟩
          · rw [f1.1 18 8 (by omega), h18a]
            rfl
          · exact fmb.fr (fun o k z => ⟨by rw [sI1, if_neg (by omega)], rfl⟩)
    · rw [a1, kcl, if_pos rfl, a2, kcl, d_flaw (dd c), klt, d_mixed46 (dd c)]
      have fin := LO.bad (L := L) hc B.w fx fm N.len k8
      split
      · exact fin
      · exact fin
theorem lnMixed {q : tok} {T : t_D} {x m : k_St} (h : RD bs q L T g NP NH NM x0 m0 x m) (hq : q.1 = 2) (hn : 2000 ≤ n) : LO bs L x0 m0 (f_Re_readMixed n x) (f_M_readMixed_R n m) := by
  have B0 := h.1.1 (by omega)
  have hT := h.2.2.1
  have h6 := hT.2.2.2.2.2.2.2.1
  unfold f_Re_readMixed f_M_readMixed_R
  rw [(h.x0i (i := 7) (by omega) (by omega)).1, (h.x0i (i := 7) (by omega) (by omega)).2]
  by_cases e : T 0 7 = 0
  · rw [if_pos (show nI (T 0 7) ≤ 0 by rw [e]; decide), if_pos (show nI (T 0 7) ≤ 0 by rw [e]; decide)]
    rcases bfirst (full := false) (a := 0) (b := 1) B0 (by omega) h.len h.m8 h.ns hn (by decide) with ⟨x1, m1, e1, e2, f1, f2, B1, -, hg⟩ | ⟨c, hc, e1, e2⟩
    · have e1' : f_Re_passFirstWord n 0 0 x = some (true, x1) := e1
      have h1 := h.on f1 f2 B1.w h.2.1.on
      rw [e1', kcl, if_neg nk1, e2, kcv]
      subst hg
      exact mixL hn n n 0 (lx q.2.2.1) T x1 m1 (by omega) (by omega) (by omega) ⟨B1, h1.2.1, hT, e, h1.sx, h1.sm.mono (fun a k d => d.1), h1.2.2.2.2.1, h1.2.2.2.2.2.1, h1.2.2.2.2.2.2.1, h1.2.2.2.2.2.2.2⟩
    · have e1' : f_Re_passFirstWord n 0 0 x = some (false, k_sI x 18 0 c) := e1
      obtain ⟨n', rfl⟩ : ∃ n', n = n' + 1 := ⟨n - 1, by omega⟩
      rw [e1', kcl, if_pos kbf, e2, kcv, f_M_readMixed_R_25, if_neg (show ¬ (1 : Int32) = 0 by decide), d_known (h.dd c) (by omega), kcl, if_neg (show ¬ (0 : Int32) = 6 by decide), d_mixed46 (h.dd c)]
      exact h.bad hc
  · have n7 : ¬ nI (T 0 7) ≤ 0 := nI_ge (a := 0) (by omega) (by omega)
    have e1 : f_Re_passFirstWord n 1 0 x = some (false, k_sI x 18 0 3) := by
      unfold f_Re_passFirstWord
      rw [if_neg (show ¬ (1 : Int32) = 0 by decide)]
      rfl
    obtain ⟨n', rfl⟩ : ∃ n', n = n' + 1 := ⟨n - 1, by omega⟩
    rw [if_neg n7, if_neg n7, e1, kcl, if_pos kbf, klt (f_M_flaw_R 3 m), d_begins (h.dd 3), kcv, f_M_readMixed_R_25, if_neg (show ¬ (1 : Int32) = 0 by decide), d_known (h.dd 3) (by omega), kcl, if_neg (show ¬ (0 : Int32) = 6 by decide), d_mixed46 (h.dd 3)]
    exact h.bad (by decide)
/-! ===== a line ===== -/
theorem LO.w {fX : Option (Bool × k_St)} {fM : Option k_St} (h : LO bs L x0 m0 fX fM) : LO bs L x0 m0 (k_cl fX (fun r t => some (r, t))) (k_cv fM (fun t => some t)) := by
  rcases h with ⟨q, T, g, NP, NH, NM, x, m, e1, e2, h⟩ | ⟨c, q, x, m, hc, e1, e2, h⟩
  · rw [e1, e2]
    exact Or.inl ⟨q, T, g, NP, NH, NM, x, m, rfl, rfl, h⟩
  · rw [e1, e2]
    exact Or.inr ⟨c, q, x, m, hc, rfl, rfl, h⟩
theorem lnLine {q : tok} {T : t_D} {x m : k_St} (h : RD bs q L T g NP NH NM x0 m0 x m) (B : BT bs q x m) (hn : 2000 ≤ n) : LO bs L x0 m0 (f_Re_readLine n x) (f_M_readLine_R n m) := by
  have ⟨hX, hM, hK, hL, hw, h5⟩ := B
  have fs : ∀ i, i < 16 → f_Re_says n i x = some (sy q i) := fun i hi => fsays hX hw hK h5 (by omega) hi
  have fw : ∀ i, i < 16 → f_M_isWord_R n i m = some (sy q i) := fun i hi => fMisWord hw hL h5 (by omega) hi
  unfold f_Re_readLine f_M_readLine_R
  rw [fs 0 (by omega), fs 1 (by omega), fs 2 (by omega), fs 3 (by omega), fs 4 (by omega), fs 5 (by omega), fs 6 (by omega), fw 0 (by omega), fw 1 (by omega), fw 2 (by omega), fw 3 (by omega), fw 4 (by omega), fw 5 (by omega), fw 6 (by omega), kcp, kcp, kcp, kcp, kcp, kcp, kcp, kcp, kcp, kcp, kcp, kcp, kcp, kcp]
  by_cases h0 : sy q 0 = true
  · rw [if_neg (k_bne h0), if_neg (k_bne h0)]
    exact (lnNurse h (sy_2 h0) hn).w
  have z0 : k_b (sy q 0) = 0 := k_beq (by simpa using h0)
  rw [if_pos z0, if_pos z0]
  by_cases h1 : sy q 1 = true
  · rw [if_neg (k_bne h1), if_neg (k_bne h1)]
    exact (lnPiece h (sy_2 h1) hn).w
  have z1 : k_b (sy q 1) = 0 := k_beq (by simpa using h1)
  rw [if_pos z1, if_pos z1]
  by_cases h2 : sy q 2 = true
  · rw [if_neg (k_bne h2), if_neg (k_bne h2)]
    exact (lnFollows h (sy_2 h2) hn).w
  have z2 : k_b (sy q 2) = 0 := k_beq (by simpa using h2)
  rw [if_pos z2, if_pos z2]
  by_cases h3 : sy q 3 = true
  · rw [if_neg (k_bne h3), if_neg (k_bne h3)]
    exact (lnHouse h (sy_2 h3) hn).w
  have z3 : k_b (sy q 3) = 0 := k_beq (by simpa using h3)
  rw [if_pos z3, if_pos z3]
  by_cases h4 : sy q 4 = true
  · rw [if_neg (k_bne h4), if_neg (k_bne h4)]
    exact (lnHeard h (sy_2 h4) hn).w
  have z4 : k_b (sy q 4) = 0 := k_beq (by simpa using h4)
  rw [if_pos z4, if_pos z4]
  by_cases h5' : sy q 5 = true
  · rw [if_neg (k_bne h5'), if_neg (k_bne h5')]
    exact (lnSilent h (sy_2 h5') hn).w
  have z5 : k_b (sy q 5) = 0 := k_beq (by simpa using h5')
  rw [if_pos z5, if_pos z5]
  by_cases h6 : sy q 6 = true
  · rw [if_neg (k_bne h6), if_neg (k_bne h6)]
    exact (lnMixed h (sy_2 h6) hn).w
  have z6 : k_b (sy q 6) = 0 := k_beq (by simpa using h6)
  rw [if_pos z6, if_pos z6]
  exact h.bad (by decide)
end
