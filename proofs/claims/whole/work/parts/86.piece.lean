/-! ===== a new name ===== -/
theorem NW.p {NP NH : List Nat} {NM : List (Nat × Nat × Nat)} (h : NW NP NH NM) (h8 : NP.length < 8) {w : Nat} (hw : w < 2 ^ 63) (hf : ∀ e ∈ NM, e.1 ≠ w) : NW (NP ++ [w]) NH (NM ++ [(w, 0, NP.length)]) := by
  refine ⟨by simp; omega, h.2.1, by simp [h.2.2.1]; omega, fun i v => ?_, fun i v => ?_, fun e he => ?_, fun e he e' he' z => ?_⟩
  · rw [List.mem_append, List.mem_singleton, ← h.2.2.2.1 i v]
    rcases Nat.lt_trichotomy i NP.length with l | l | l
    · rw [List.getElem?_append_left l]
      exact ⟨Or.inl, fun q => q.elim id (fun q => by simp at q; omega)⟩
    · rw [l, at_pos, List.getElem?_eq_none (by omega)]
      constructor
      · intro q
        right
        simp at q
        rw [q]
      · intro q
        rcases q with q | q
        · simp at q
        · simp at q
          rw [q]
    · rw [List.getElem?_eq_none (by simp; omega), List.getElem?_eq_none (by omega)]
      exact ⟨Or.inl, fun q => q.elim id (fun q => by simp at q; omega)⟩
  · rw [h.2.2.2.2.1 i v, List.mem_append, List.mem_singleton]
    exact ⟨Or.inl, fun q => q.elim id (fun q => by simp at q)⟩
  · rcases List.mem_append.mp he with q | q
    · exact h.2.2.2.2.2.1 e q
    · rw [List.mem_singleton.mp q]
      exact ⟨by simp, hw⟩
  · rcases List.mem_append.mp he with q | q
    · rcases List.mem_append.mp he' with q' | q'
      · exact h.2.2.2.2.2.2 e q e' q' z
      · rw [List.mem_singleton.mp q'] at z
        exact absurd z (hf e q)
    · rcases List.mem_append.mp he' with q' | q'
      · rw [List.mem_singleton.mp q] at z
        exact absurd z.symm (hf e' q')
      · rw [List.mem_singleton.mp q, List.mem_singleton.mp q']
theorem NW.h {NP NH : List Nat} {NM : List (Nat × Nat × Nat)} (h : NW NP NH NM) (h8 : NH.length < 5) {w : Nat} (hw : w < 2 ^ 63) (hf : ∀ e ∈ NM, e.1 ≠ w) : NW NP (NH ++ [w]) (NM ++ [(w, 1, NH.length)]) := by
  refine ⟨h.1, by simp; omega, by simp [h.2.2.1]; omega, fun i v => ?_, fun i v => ?_, fun e he => ?_, fun e he e' he' z => ?_⟩
  · rw [h.2.2.2.1 i v, List.mem_append, List.mem_singleton]
    exact ⟨Or.inl, fun q => q.elim id (fun q => by simp at q)⟩
  · rw [List.mem_append, List.mem_singleton, ← h.2.2.2.2.1 i v]
    rcases Nat.lt_trichotomy i NH.length with l | l | l
    · rw [List.getElem?_append_left l]
      exact ⟨Or.inl, fun q => q.elim id (fun q => by simp at q; omega)⟩
    · rw [l, at_pos, List.getElem?_eq_none (by omega)]
      constructor
      · intro q
        right
        simp at q
        rw [q]
      · intro q
        rcases q with q | q
        · simp at q
        · simp at q
          rw [q]
    · rw [List.getElem?_eq_none (by simp; omega), List.getElem?_eq_none (by omega)]
      exact ⟨Or.inl, fun q => q.elim id (fun q => by simp at q; omega)⟩
  · rcases List.mem_append.mp he with q | q
    · exact h.2.2.2.2.2.1 e q
    · rw [List.mem_singleton.mp q]
      exact ⟨by simp, hw⟩
  · rcases List.mem_append.mp he with q | q
    · rcases List.mem_append.mp he' with q' | q'
      · exact h.2.2.2.2.2.2 e q e' q' z
      · rw [List.mem_singleton.mp q'] at z
        exact absurd z (hf e q)
    · rcases List.mem_append.mp he' with q' | q'
      · rw [List.mem_singleton.mp q] at z
        exact absurd z.symm (hf e' q')
      · rw [List.mem_singleton.mp q, List.mem_singleton.mp q']
theorem at_pos2 {α : Type} {P : List α} {c : α} : (P ++ [c])[P.length]? = some c := by rw [List.getElem?_append_right (Nat.le_refl _)]; simp
theorem get_app {α : Type} {l : List α} {w v : α} {i : Nat} (h : (l ++ [w])[i]? = some v) : l[i]? = some v ∨ (i = l.length ∧ v = w) := by
  rcases Nat.lt_trichotomy i l.length with z | z | z
  · rw [List.getElem?_append_left z] at h
    exact Or.inl h
  · rw [z, at_pos2] at h
    exact Or.inr ⟨z, by simpa using h.symm⟩
  · rw [List.getElem?_eq_none (by simp; omega)] at h
    simp at h
theorem fnames {m : k_St} {k : Nat} (h : m.1 18 8 = nI k) (hk : k < 13) (w : Int64) (s i : Int32) : ∃ u, f_M_names_R w s i m = some u ∧ u.2 26 k = w ∧ u.1 27 k = s ∧ u.1 28 k = i ∧ u.1 18 8 = nI (k + 1) ∧ (∀ o j, ¬ (o = 27 ∧ j = k) → ¬ (o = 28 ∧ j = k) → ¬ (o = 18 ∧ j = 8) → u.1 o j = m.1 o j) ∧ ∀ o j, ¬ (o = 26 ∧ j = k) → u.2 o j = m.2 o j := by
  have e1 : (k_sL m 26 k w).1 18 8 = nI k := h
  have e2 : (k_sI (k_sL m 26 k w) 27 k s).1 18 8 = nI k := by rw [sI1, if_neg (by omega)]; exact h
  have e3 : (k_sI (k_sI (k_sL m 26 k w) 27 k s) 28 k i).1 18 8 = nI k := by rw [sI1, if_neg (by omega), sI1, if_neg (by omega)]; exact h
  unfold f_M_names_R
  rw [h, kgi (kin hk (by decide)), klt, nI_clamp (n := k) (by omega), e1, kgi (kin hk (by decide)), klt, nI_clamp (n := k) (by omega), e2, kgi (kin hk (by decide)), klt, nI_clamp (n := k) (by omega), e3, klt, nI_1]
  refine ⟨_, rfl, ?_, ?_, ?_, ?_, fun o j a b c => ?_, fun o j a => ?_⟩
  · rw [sI2, sI2, sI2, sL2, if_pos ⟨rfl, rfl⟩]
  · rw [sI1, if_neg (by omega), sI1, if_neg (by omega), sI1, if_pos ⟨rfl, rfl⟩]
  · rw [sI1, if_neg (by omega), sI1, if_pos ⟨rfl, rfl⟩]
  · rw [sI1, if_pos ⟨rfl, rfl⟩]
  · rw [sI1, if_neg c, sI1, if_neg b, sI1, if_neg a]
    rfl
  · rw [sI2, sI2, sI2, sL2, if_neg a]
theorem NMm.add {NM : List (Nat × Nat × Nat)} {m u : k_St} (h : NMm NM m) {w s i : Nat} (a : u.2 26 NM.length = lN w) (b : u.1 27 NM.length = nI s) (c : u.1 28 NM.length = nI i) (d : u.1 18 8 = nI (NM.length + 1)) (e : ∀ j, j < NM.length → u.1 27 j = m.1 27 j ∧ u.1 28 j = m.1 28 j ∧ u.2 26 j = m.2 26 j) : NMm (NM ++ [(w, s, i)]) u := by
  refine ⟨by rw [d, List.length_append]; rfl, fun k z hk => ?_⟩
  rcases get_app hk with g | ⟨g1, g2⟩
  · have := e k (List.getElem?_eq_some_iff.mp g).1
    rw [this.1, this.2.1, this.2.2]
    exact h.2 k z g
  · rw [g1, g2]
    exact ⟨a, b, c⟩
/-! ===== piece ===== -/
def kd (q : tok) : Int32 := if sy q 9 then 0 else if sy q 10 then 1 else if sy q 11 then 2 else if sy q 12 then 3 else -1
theorem kd_c (q : tok) : kd q = -1 ∨ ∃ c, c < 4 ∧ kd q = nI c ∧ q.1 = 2 := by
  unfold kd
  by_cases h9 : sy q 9 = true
  · exact Or.inr ⟨0, by omega, by rw [if_pos h9]; rfl, sy_2 h9⟩
  · rw [if_neg h9]
    by_cases h10 : sy q 10 = true
    · exact Or.inr ⟨1, by omega, by rw [if_pos h10]; rfl, sy_2 h10⟩
    · rw [if_neg h10]
      by_cases h11 : sy q 11 = true
      · exact Or.inr ⟨2, by omega, by rw [if_pos h11]; rfl, sy_2 h11⟩
      · rw [if_neg h11]
        by_cases h12 : sy q 12 = true
        · exact Or.inr ⟨3, by omega, by rw [if_pos h12]; rfl, sy_2 h12⟩
        · rw [if_neg h12]
          exact Or.inl rfl
theorem fkind {bs : List Nat} {q : tok} {x m : k_St} (B : BT bs q x m) {n : Nat} (hn : 200 ≤ n) : f_Re_kindHere n x = some (kd q) := by
  obtain ⟨hX, hM, hK, hL, hw, h5⟩ := B
  unfold f_Re_kindHere kd
  rw [fsays hX hw hK h5 hn (show 9 < 16 by omega), fsays hX hw hK h5 hn (show 10 < 16 by omega), fsays hX hw hK h5 hn (show 11 < 16 by omega), fsays hX hw hK h5 hn (show 12 < 16 by omega), kcp, kcp, kcp, kcp]
  cases sy q 9 <;> cases sy q 10 <;> cases sy q 11 <;> cases sy q 12 <;> rfl
/-- what the reference does behind the name -/
def mkind (n : Nat) (r : Int64) (m : k_St) : Option k_St := k_cp (f_M_isWord_R n 9 m) (fun r_4 => (if (k_b r_4) = 0 then k_cp (f_M_isWord_R n 10 m) (fun r_5 => (if (k_b r_5) = 0 then k_cp (f_M_isWord_R n 11 m) (fun r_6 => (if (k_b r_6) = 0 then k_cp (f_M_isWord_R n 12 m) (fun r_7 => (if (k_b r_7) = 0 then f_M_readPiece_R_72 n r (-1 : Int32) m else f_M_readPiece_R_72 n r (3 : Int32) m)) else f_M_readPiece_R_72 n r (2 : Int32) m)) else f_M_readPiece_R_72 n r (1 : Int32) m)) else f_M_readPiece_R_72 n r (0 : Int32) m))
theorem mkind_e {bs : List Nat} {q : tok} {x m : k_St} (B : BT bs q x m) {n : Nat} (hn : 200 ≤ n) (r : Int64) : mkind n r m = f_M_readPiece_R_72 n r (kd q) m := by
  obtain ⟨hX, hM, hK, hL, hw, h5⟩ := B
  unfold mkind kd
  rw [fMisWord hw hL h5 hn (show 9 < 16 by omega), fMisWord hw hL h5 hn (show 10 < 16 by omega), fMisWord hw hL h5 hn (show 11 < 16 by omega), fMisWord hw hL h5 hn (show 12 < 16 by omega), kcp, kcp, kcp, kcp]
  cases sy q 9 <;> cases sy q 10 <;> cases sy q 11 <;> cases sy q 12 <;> rfl
theorem mkind_d {m : k_St} (h : dead m) (n : Nat) (r : Int64) : mkind n r m = some m := by
  unfold mkind
  rw [d_isWord h, d_isWord h, d_isWord h, d_isWord h, kcp, kcp, kcp, kcp, if_pos kbf, if_pos kbf, if_pos kbf, if_pos kbf, d_piece72 h]
theorem flN {a b : Nat} (x : Int32) (hx : x = nI b) (h : a ≤ b) (hb : b < 2 ^ 31) : (nI a = x) ↔ decide (a = b) = true := by
  rw [decide_eq_true_eq, hx]
  exact ⟨fun z => nI_inj (by omega) (by omega) z, fun z => by rw [z]⟩
section
variable {bs : List Nat} {q : tok} {L : Nat} {T : t_D} {g : Bool} {NP NH : List Nat} {NM : List (Nat × Nat × Nat)} {x0 m0 x m : k_St} {n : Nat}
theorem lnPiece (h : RD bs q L T g NP NH NM x0 m0 x m) (hq : q.1 = 2) (hn : 2000 ≤ n) : LO bs L x0 m0 (f_Re_readPiece n x) (f_M_readPiece_R n m) := by
  have B0 := h.1.1 (by omega)
  have hT := h.2.2.1
  have h8 := hT.1
  have N := h.2.2.2.2.1
  have hs : f_Re_readPiece n x = f_Re_readPiece_21 n (nI (T 0 2)) 0 (if decide (T 0 2 = 8) = true then 1 else 0) x := by
    unfold f_Re_readPiece
    rw [(h.x0i (i := 2) (by omega) (by omega)).1, klt]
    by_cases e : T 0 2 = 8
    · rw [if_neg (show ¬ nI (T 0 2) < 8 by rw [e]; decide), if_pos (by simpa using e)]
    · rw [if_pos (show nI (T 0 2) < 8 from nI_lt (b := 8) (by omega) (by omega)), if_neg (by simpa using e)]
  rw [hs]
  show LO bs L x0 m0 (f_Re_readPiece_21 n (nI (T 0 2)) 0 (if decide (T 0 2 = 8) = true then 1 else 0) x) (k_cv (f_M_lineBegins_R n (m.1 18 2) (8 : Int32) m) (fun t_1 => k_cl (f_M_readFresh_R n t_1) (fun r_3 t_2 => mkind n r_3 t_2)))
  unfold f_Re_readPiece_21
  rw [(h.x0i (i := 2) (by omega) (by omega)).2]
  rcases bfirst (full := decide (T 0 2 = 8)) (a := nI (T 0 2)) (b := 8) B0 (by omega) h.len h.m8 h.ns hn (flN 8 rfl h8 (by omega)) with ⟨x1, m1, e1, e2, f1, f2, B1, hfull, hg⟩ | ⟨c, hc, e1, e2⟩
  · have h8' : T 0 2 < 8 := by
      have : T 0 2 ≠ 8 := by simpa using hfull
      omega
    have h1 := h.on f1 f2 B1.w h.2.1.on
    have N1 := h1.2.2.2.2.1
    have hP := N1.2.2.2.1
    rw [e1, kcl, if_neg nk1, e2, kcv]
    rcases frN B1.1 B1.2.2.2.2.1 B1.2.2.2.2.2 B1.2.2.1 B1.2.2.2.1 N1.1 N1.2.1 N1.2.2.1 h1.xP.1 h1.xH.1 (n := n) (by omega) with ⟨q2, a1, a2, a3⟩ | ⟨c, z, hc, a1, a2⟩
    · have w63 : wvl 0 (lx q.2.2.1).2.2.2 < 2 ^ 63 := by
        obtain ⟨-, u2, u3⟩ := B1.2.2.2.2.1.2.1 q2
        exact wvl_63 u2 u3
      have x7 : x1.2 18 7 = lN (wvl 0 (lx q.2.2.1).2.2.2) := B1.2.2.1.2.2.2.1 q2
      generalize wvl 0 (lx q.2.2.1).2.2.2 = w at *
      rw [a1, kcl, if_neg nk1, kgi (kin h8' (by decide)), klt, nI_clamp (n := T 0 2) (by omega), x7, a2]
      have hb : RD bs (lx q.2.2.1) L T g NP NH NM x0 m0 (k_sL x1 19 (T 0 2) (lN w)) m1 := h1.put (fun o k z => rfl) (fun o k z => by rw [sL2, if_neg (by omega)]) (fun o k z => ⟨rfl, rfl⟩) hT (h1.sx.fr (fun a k d => rfl)) h1.sm hg ⟨N1.1, ⟨fun i v z => by
        have := (List.getElem?_eq_some_iff.mp z).1
        rw [sL2, if_neg (by omega)]
        exact N1.2.1.1 i v z, fun i v z => by
        rw [sL2, if_neg (by omega)]
        exact N1.2.1.2 i v z⟩, N1.2.2⟩
      have Bb := hb.1.1 (by omega)
      have w19 : (k_sL x1 19 (T 0 2) (lN w)).2 19 (T 0 2) = lN w := by rw [sL2, if_pos ⟨rfl, rfl⟩]
      generalize k_sL x1 19 (T 0 2) (lN w) = xb at *
      obtain ⟨x2, m2, s1, s2, f3, f4, B2⟩ := bstep Bb (by omega) hn
      have h2 := hb.on f3 f4 B2.w hb.2.1.on
      have w19' : x2.2 19 (T 0 2) = lN w := by rw [f3.2 19 _ (by omega)]; exact w19
      rw [s1, kcv, fkind B2 (by omega), kcp, s2, kcv, kcl, mkind_e B2 (by omega)]
      unfold f_M_readPiece_R_72
      rcases kd_c (lx (lx q.2.2.1).2.2.1) with e | ⟨c, hc, e, q3⟩
      · rw [if_pos e, if_pos e, klt (f_M_flaw_R 1 m2), d_piece83 (h2.dd 1)]
        exact h2.bad (by decide)
      · rw [e, if_neg (nI_ne_m1 (by omega)), if_neg (nI_ne_m1 (by omega))]
        obtain ⟨x3, m3, s3, s4, f5, f6, B3⟩ := bstep B2 (by omega) hn
        have h3 := h2.on f5 f6 B3.w h2.2.1.on
        have w19'' : x3.2 19 (T 0 2) = lN w := by rw [f5.2 19 _ (by omega)]; exact w19'
        have N3 := h3.2.2.2.2.1
        have x2' : (k_sI x3 11 (T 0 2) (nI c)).1 10 2 = nI (T 0 2) := by rw [sI1, if_neg (by omega)]; exact (h3.x0i (by omega) (by omega)).1
        unfold f_M_readPiece_R_83
        have l13 : NM.length < 13 := by have := N3.1.2.1; have := N3.1.2.2.1; omega
        obtain ⟨u, g1, g2, g3, g4, g5, g6, g7⟩ := fnames h3.m8 l13 (lN w) 0 (nI (T 0 2))
        have u2 : u.1 18 2 = nI (T 0 2) := by rw [g6 18 2 (by omega) (by omega) (by omega)]; exact (h3.x0i (by omega) (by omega)).2
        have u2' : (k_sI u 19 (T 0 2) (nI c)).1 18 2 = nI (T 0 2) := by rw [sI1, if_neg (by omega)]; exact u2
        rw [s3, kcv, kgi (kin h8' (by decide)), klt, klt, x2', nI_1, s4, kcv, if_neg h3.1.al, (h3.x0i (i := 2) (by omega) (by omega)).2, g1, kcv, u2, kgi (kin h8' (by decide)), klt, klt, nI_clamp (n := T 0 2) (by omega), u2', nI_1]
        refine LO.ok (h3.put (T' := tu (tu T 1 (T 0 2) c) 0 2 (T 0 2 + 1)) (NP' := NP ++ [w]) (NH' := NH) (NM' := NM ++ [(w, 0, NP.length)]) (fun o k z => by rw [sI1, if_neg (by omega), sI1, if_neg (by omega)]) (fun _ _ _ => rfl) (fun o k z => ⟨by rw [sI1, if_neg (by omega), sI1, if_neg (by omega)]; exact g6 o k (by omega) (by omega) (by omega), g7 o k (by omega)⟩) (hT.piece rfl h8' hc) (((h3.sx.set 1 (T 0 2) c).set 0 2 (T 0 2 + 1)).mono (fun a k d => ?_)) ((((h3.sm.fr (y := u) (fun a k d => ?_)).set 1 (T 0 2) c).set 0 2 (T 0 2 + 1)).mono (fun a k d => ?_)) hg ⟨N3.1.p (by omega) w63 a3, ⟨fun i v z => ?_, fun i v z => ?_⟩, N3.2.2.1.add ?_ ?_ ?_ ?_ (fun j hj => ?_), ?_, N3.2.2.2.2⟩)
        · rcases dn_p d with d | d
          · exact Or.inl (Or.inl d)
          · exact Or.inl (Or.inr d)
        · have := dm7 d
          refine g6 _ _ (by omega) (by omega) (fun z => ?_)
          rcases d with d | d | d | d | d | d | d <;> omega
        · rcases dn_p d with d | d
          · exact Or.inl (Or.inl d)
          · exact Or.inl (Or.inr d)
        · rcases get_app z with z | ⟨z1, z2⟩
          · exact N3.2.1.1 i v z
          · rw [z1, z2, hP]
            exact w19''
        · exact N3.2.1.2 i v z
        · exact g2
        · rw [sI1, if_neg (by omega), sI1, if_neg (by omega)]
          exact g3
        · rw [sI1, if_neg (by omega), sI1, if_neg (by omega), hP]
          exact g4
        · rw [sI1, if_neg (by omega), sI1, if_neg (by omega)]
          exact g5
        · exact ⟨by rw [sI1, if_neg (by omega), sI1, if_neg (by omega)]; exact g6 27 j (by omega) (by omega) (by omega), by rw [sI1, if_neg (by omega), sI1, if_neg (by omega)]; exact g6 28 j (by omega) (by omega) (by omega), g7 26 j (by omega)⟩
        · show (NP ++ [w]).length = T 0 2 + 1
          rw [List.length_append, hP]
          rfl
    · rw [a1, kcl, if_pos kbf, a2, kcl, mkind_d (h1.dd c)]
      exact h1.bad hc
  · rw [e1, kcl, if_pos kbf, e2, kcv, d_fresh (h.dd c) (by omega), kcl, mkind_d (h.dd c)]
    exact h.bad hc
end
