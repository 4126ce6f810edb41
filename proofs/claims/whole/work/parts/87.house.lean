/-! ===== house ===== -/
section
variable {bs : List Nat} {q : tok} {L : Nat} {T : t_D} {g : Bool} {NP NH : List Nat} {NM : List (Nat × Nat × Nat)} {x0 m0 x m : k_St} {n : Nat}
/-- the class writes a cell that isn't told of yet -/
theorem RD.pre (h : RD bs q L T g NP NH NM x0 m0 x m) (hg : g = true) {a : Nat} (ha : a = 3 ∨ a = 4 ∨ a = 5) (v : Int32) : RD bs q L T g NP NH NM x0 m0 (k_sI x (10 + a) (T 0 4) v) m := by
  have N := h.2.2.2.2.1
  refine h.put (fun o k z => by rw [sI1, if_neg (by omega)]) (fun o k z => rfl) (fun o k z => ⟨rfl, rfl⟩) h.2.2.1 (h.sx.fr (fun b k d => ?_)) h.sm hg ⟨N.1, N.2.1, N.2.2⟩
  rw [sI1, if_neg]
  rintro ⟨z1, z2⟩
  rcases d with d | d | d | d | d | d | d <;> omega
/-- a part of a line: word, whole; the class tests, the reference goes on -/
theorem RD.part (h : RD bs q L T g NP NH NM x0 m0 x m) {i a b : Nat} (hn : 2000 ≤ n) (hi : i < 16) (ha : a ≤ 1000) (hb : b ≤ 1000) :
    (∃ v x1 x' m' q', a ≤ v ∧ v ≤ b ∧ f_Re_passWord n i x = some (true, x1) ∧ f_Re_passWhole n (nI a) (nI b) x1 = some (true, x') ∧ x'.1 18 6 = nI v ∧ f_M_readPart_R n i (nI a) (nI b) m = some (nI v, m') ∧ xr x x1 ∧ xr x x' ∧ mo m m' ∧ RD bs q' L T g NP NH NM x0 m0 x' m') ∨
    ∃ (c : Int32) (x' m' : k_St), (f_Re_passWord n i x = some (false, k_sI x' 18 0 c) ∨ ∃ x1, f_Re_passWord n i x = some (true, x1) ∧ xr x x1 ∧ f_Re_passWhole n (nI a) (nI b) x1 = some (false, k_sI x' 18 0 c)) ∧ f_M_readPart_R n i (nI a) (nI b) m = some (nI a, f_M_flaw_R c m') ∧ dead (f_M_flaw_R c m') ∧ LO bs L x0 m0 (some (false, k_sI x' 18 0 c)) (some (f_M_flaw_R c m')) := by
  rcases bpart h.1 h.2.1 h.len h.m8 hn hi ha hb with ⟨v, x1, x', m', q', v1, v2, e1, e2, e3, e4, f1, f2, f3, B, l⟩ | ⟨c, q', x', m', hc, e1, e2, f1, f2, B⟩
  · exact Or.inl ⟨v, x1, x', m', q', v1, v2, e1, e2, e3, e4, f1, f2, f3, h.on f2 f3 B l⟩
  · right
    have k8 : m'.1 18 8 = nI NM.length := by rw [f2.1 18 8 (by omega)]; exact h.m8
    exact ⟨c, x', m', e1, e2, flaw_dead B.al c h.len k8, LO.bad hc B (h.2.2.2.2.2.2.1.xr f1) (h.2.2.2.2.2.2.2.mo f2) h.len k8⟩
/-- what the reference does behind the name -/
def mhouse (n : Nat) (r_3 : Int64) (t_2 : k_St) : Option k_St := k_cl (f_M_readPart_R n 13 (0 : Int32) (99 : Int32) t_2) (fun r_5 t_4 => k_cl (f_M_readPart_R n 14 (0 : Int32) (23 : Int32) t_4) (fun r_7 t_6 => k_cl (f_M_readPart_R n 15 r_7 (23 : Int32) t_6) (fun r_9 t_8 => (if (t_8.1 0 9) = (6 : Int32) then some t_8 else k_cv (f_M_names_R r_3 (1 : Int32) (t_8.1 18 4) t_8) (fun t_10 => k_gi (t_10.1 18 4) 5 (k_lt (k_sI t_10 21 (t_10.1 18 4).toNatClampNeg r_5) (fun t_12 => k_gi (t_12.1 18 4) 5 (k_lt (k_sI t_12 22 (t_12.1 18 4).toNatClampNeg r_7) (fun t_14 => k_gi (t_14.1 18 4) 5 (k_lt (k_sI t_14 23 (t_14.1 18 4).toNatClampNeg r_9) (fun t_16 => k_lt (k_sI t_16 18 4 ((t_16.1 18 4) + (1 : Int32))) (fun t_17 => some t_17))))))))))))
theorem mhouse_d {t : k_St} (h : dead t) (n : Nat) (r : Int64) : mhouse n r t = some t := by
  unfold mhouse
  rw [d_part h, kcl, d_part h, kcl, d_part h, kcl, if_pos h.1]
theorem lnHouse (h : RD bs q L T g NP NH NM x0 m0 x m) (hq : q.1 = 2) (hn : 2000 ≤ n) : LO bs L x0 m0 (f_Re_readHouse n x) (f_M_readHouse_R n m) := by
  have B0 := h.1.1 (by omega)
  have hT := h.2.2.1
  have h5 := hT.2.2.2.2.1
  have N := h.2.2.2.2.1
  have hs : f_Re_readHouse n x = f_Re_readHouse_20 n (nI (T 0 4)) 0 (if decide (T 0 4 = 5) = true then 1 else 0) x := by
    unfold f_Re_readHouse
    rw [(h.x0i (i := 4) (by omega) (by omega)).1, klt]
    by_cases e : T 0 4 = 5
    · rw [if_neg (show ¬ nI (T 0 4) < 5 by rw [e]; decide), if_pos (by simpa using e)]
    · rw [if_pos (show nI (T 0 4) < 5 from nI_lt (b := 5) (by omega) (by omega)), if_neg (by simpa using e)]
  rw [hs]
  show LO bs L x0 m0 (f_Re_readHouse_20 n (nI (T 0 4)) 0 (if decide (T 0 4 = 5) = true then 1 else 0) x) (k_cv (f_M_lineBegins_R n (m.1 18 4) (5 : Int32) m) (fun t_1 => k_cl (f_M_readFresh_R n t_1) (fun r_3 t_2 => mhouse n r_3 t_2)))
  unfold f_Re_readHouse_20
  rw [(h.x0i (i := 4) (by omega) (by omega)).2]
  rcases bfirst (full := decide (T 0 4 = 5)) (a := nI (T 0 4)) (b := 5) B0 (by omega) h.len h.m8 h.ns hn (flN 5 rfl h5 (by omega)) with ⟨x1, m1, e1, e2, f1, f2, B1, hfull, hg⟩ | ⟨c, hc, e1, e2⟩
  · have h5' : T 0 4 < 5 := by
      have : T 0 4 ≠ 5 := by simpa using hfull
      omega
    have h1 := h.on f1 f2 B1.w h.2.1.on
    have N1 := h1.2.2.2.2.1
    have hH := N1.2.2.2.2
    rw [e1, kcl, if_neg nk1, e2, kcv]
    rcases frN B1.1 B1.2.2.2.2.1 B1.2.2.2.2.2 B1.2.2.1 B1.2.2.2.1 N1.1 N1.2.1 N1.2.2.1 h1.xP.1 h1.xH.1 (n := n) (by omega) with ⟨q2, a1, a2, a3⟩ | ⟨c, z, hc, a1, a2⟩
    · have w63 : wvl 0 (lx q.2.2.1).2.2.2 < 2 ^ 63 := by
        obtain ⟨-, u2, u3⟩ := B1.2.2.2.2.1.2.1 q2
        exact wvl_63 u2 u3
      have x7 : x1.2 18 7 = lN (wvl 0 (lx q.2.2.1).2.2.2) := B1.2.2.1.2.2.2.1 q2
      generalize wvl 0 (lx q.2.2.1).2.2.2 = w at *
      rw [a1, kcl, if_neg nk1, kgi (kin h5' (by decide)), klt, nI_clamp (n := T 0 4) (by omega), x7, a2]
      have hb : RD bs (lx q.2.2.1) L T g NP NH NM x0 m0 (k_sL x1 20 (T 0 4) (lN w)) m1 := h1.put (fun o k z => rfl) (fun o k z => by rw [sL2, if_neg (by omega)]) (fun o k z => ⟨rfl, rfl⟩) hT (h1.sx.fr (fun a k d => rfl)) h1.sm hg ⟨N1.1, ⟨fun i v z => by
        rw [sL2, if_neg (by omega)]
        exact N1.2.1.1 i v z, fun i v z => by
        have := (List.getElem?_eq_some_iff.mp z).1
        rw [sL2, if_neg (by omega)]
        exact N1.2.1.2 i v z⟩, N1.2.2⟩
      have Bb := hb.1.1 (by omega)
      have w20 : (k_sL x1 20 (T 0 4) (lN w)).2 20 (T 0 4) = lN w := by rw [sL2, if_pos ⟨rfl, rfl⟩]
      generalize k_sL x1 20 (T 0 4) (lN w) = xb at *
      obtain ⟨x2, m2, s1, s2, f3, f4, B2⟩ := bstep Bb (by omega) hn
      have h2 := hb.on f3 f4 B2.w hb.2.1.on
      have w20' : x2.2 20 (T 0 4) = lN w := by rw [f3.2 20 _ (by omega)]; exact w20
      rw [s1, kcv, s2, kcv, kcl]
      unfold mhouse
      rcases h2.part (n := n) (i := 13) (a := 0) (b := 99) hn (by omega) (by omega) (by omega) with ⟨va, y1, y2, n2, q3, -, va2, c1, c2, c3, c4, c5, c6, c7, h3⟩ | ⟨c, y2, n2, ee, c4, hd, fin⟩
      · have c2' : f_Re_passWhole n 0 99 y1 = some (true, y2) := c2
        have c4' : f_M_readPart_R n 13 0 99 m2 = some (nI va, n2) := c4
        rw [c1, kcl, if_neg nk1, c2', kcl, if_neg nk1, kgi (kin h5' (by decide)), klt, c3, c4', kcl]
        have h4 := h3.pre hg (a := 3) (by omega) (nI va)
        have p13 : (k_sI y2 13 (T 0 4) (nI va)).1 13 (T 0 4) = nI va := by rw [sI1, if_pos ⟨rfl, rfl⟩]
        have w20a : (k_sI y2 13 (T 0 4) (nI va)).2 20 (T 0 4) = lN w := by show y2.2 20 _ = _; rw [c6.2 20 _ (by omega)]; exact w20'
        have h4' : RD bs q3 L T g NP NH NM x0 m0 (k_sI y2 13 (T 0 4) (nI va)) n2 := h4
        clear h4
        generalize k_sI y2 13 (T 0 4) (nI va) = xc at *
        rcases h4'.part (n := n) (i := 14) (a := 0) (b := 23) hn (by omega) (by omega) (by omega) with ⟨vb, y3, y4, n4, q4, -, vb2, d1, d2, d3, d4, d5, d6, d7, h5a⟩ | ⟨c, y4, n4, ee, d4, hd, fin⟩
        · have d2' : f_Re_passWhole n 0 23 y3 = some (true, y4) := d2
          have d4' : f_M_readPart_R n 14 0 23 n2 = some (nI vb, n4) := d4
          rw [d1, kcl, if_neg nk1, d2', kcl, if_neg nk1, kgi (kin h5' (by decide)), klt, d3, d4', kcl]
          have h6 : RD bs q4 L T g NP NH NM x0 m0 (k_sI y4 14 (T 0 4) (nI vb)) n4 := h5a.pre hg (a := 4) (by omega) (nI vb)
          have p14 : (k_sI y4 14 (T 0 4) (nI vb)).1 14 (T 0 4) = nI vb := by rw [sI1, if_pos ⟨rfl, rfl⟩]
          have p13' : (k_sI y4 14 (T 0 4) (nI vb)).1 13 (T 0 4) = nI va := by rw [sI1, if_neg (by omega), d6.1 13 _ (by omega)]; exact p13
          have w20b : (k_sI y4 14 (T 0 4) (nI vb)).2 20 (T 0 4) = lN w := by show y4.2 20 _ = _; rw [d6.2 20 _ (by omega)]; exact w20a
          generalize k_sI y4 14 (T 0 4) (nI vb) = xd at *
          rcases h6.part (n := n) (i := 15) (a := vb) (b := 23) hn (by omega) (by omega) (by omega) with ⟨vc, y5, y6, n6, q5, vc1, vc2, k1, k2, k3, k4, k5, k6, k7, h7⟩ | ⟨c, y6, n6, ee, k4, hd, fin⟩
          · have k2' : f_Re_passWhole n (nI vb) 23 y5 = some (true, y6) := k2
            have k4' : f_M_readPart_R n 15 (nI vb) 23 n4 = some (nI vc, n6) := k4
            have y14 : y5.1 14 (T 0 4) = nI vb := by rw [k5.1 14 _ (by omega)]; exact p14
            have N7 := h7.2.2.2.2.1
            have l13 : NM.length < 13 := by have := N7.1.1; have := N7.1.2.1; have := N7.1.2.2.1; omega
            obtain ⟨u, g1, g2, g3, g4, g5, g6, g7⟩ := fnames h7.m8 l13 (lN w) 1 (nI (T 0 4))
            have u4 : u.1 18 4 = nI (T 0 4) := by rw [g6 18 4 (by omega) (by omega) (by omega)]; exact (h7.x0i (by omega) (by omega)).2
            have u4a : (k_sI u 21 (T 0 4) (nI va)).1 18 4 = nI (T 0 4) := by rw [sI1, if_neg (by omega)]; exact u4
            have u4b : (k_sI (k_sI u 21 (T 0 4) (nI va)) 22 (T 0 4) (nI vb)).1 18 4 = nI (T 0 4) := by rw [sI1, if_neg (by omega)]; exact u4a
            have u4c : (k_sI (k_sI (k_sI u 21 (T 0 4) (nI va)) 22 (T 0 4) (nI vb)) 23 (T 0 4) (nI vc)).1 18 4 = nI (T 0 4) := by rw [sI1, if_neg (by omega)]; exact u4b
            have x4' : (k_sI y6 15 (T 0 4) (nI vc)).1 10 4 = nI (T 0 4) := by rw [sI1, if_neg (by omega)]; exact (h7.x0i (by omega) (by omega)).1
            have p13b : y6.1 13 (T 0 4) = nI va := by rw [k6.1 13 _ (by omega)]; exact p13'
            have p14b : y6.1 14 (T 0 4) = nI vb := by rw [k6.1 14 _ (by omega)]; exact p14
            have w20c : y6.2 20 (T 0 4) = lN w := by rw [k6.2 20 _ (by omega)]; exact w20b
            rw [k1, kcl, if_neg nk1, kgi (kin h5' (by decide)), y14, k2', kcl, if_neg nk1, kgi (kin h5' (by decide)), klt, klt, k3, x4', nI_1, k4', kcl, if_neg h7.1.al, (h7.x0i (i := 4) (by omega) (by omega)).2, g1, kcv, u4, kgi (kin h5' (by decide)), klt, nI_clamp (n := T 0 4) (by omega), u4a, kgi (kin h5' (by decide)), klt, nI_clamp (n := T 0 4) (by omega), u4b, kgi (kin h5' (by decide)), klt, nI_clamp (n := T 0 4) (by omega), u4c, klt, nI_1]
            refine LO.ok (h7.put (T' := tu (tu (tu (tu T 3 (T 0 4) va) 4 (T 0 4) vb) 5 (T 0 4) vc) 0 4 (T 0 4 + 1)) (NP' := NP) (NH' := NH ++ [w]) (NM' := NM ++ [(w, 1, NH.length)]) (fun o k z => by rw [sI1, if_neg (by omega), sI1, if_neg (by omega)]) (fun _ _ _ => rfl) (fun o k z => ⟨by rw [sI1, if_neg (by omega), sI1, if_neg (by omega), sI1, if_neg (by omega), sI1, if_neg (by omega)]; exact g6 o k (by omega) (by omega) (by omega), g7 o k (by omega)⟩) (hT.house rfl h5' va2 vc1 vc2) (((((h7.sx.add 3 (T 0 4) va p13b).add 4 (T 0 4) vb p14b).set 5 (T 0 4) vc).set 0 4 (T 0 4 + 1)).mono (fun a k d => ?_)) ((((((h7.sm.fr (y := u) (fun a k d => ?_)).set 3 (T 0 4) va).set 4 (T 0 4) vb).set 5 (T 0 4) vc).set 0 4 (T 0 4 + 1)).mono (fun a k d => ?_)) hg ⟨N7.1.h (by omega) w63 a3, ⟨fun i v z => ?_, fun i v z => ?_⟩, N7.2.2.1.add ?_ ?_ ?_ ?_ (fun j hj => ?_), N7.2.2.2.1, ?_⟩)
            · rcases dn_h d with d | ⟨d | d | d, z⟩
              · exact Or.inl (Or.inl (Or.inl (Or.inl d)))
              · exact Or.inl (Or.inl (Or.inl (Or.inr ⟨d, z⟩)))
              · exact Or.inl (Or.inl (Or.inr ⟨d, z⟩))
              · exact Or.inl (Or.inr ⟨d, z⟩)
            · have := dm7 d
              refine g6 _ _ (by omega) (by omega) (fun z => ?_)
              rcases d with d | d | d | d | d | d | d <;> omega
            · rcases dn_h d with d | ⟨d | d | d, z⟩
              · exact Or.inl (Or.inl (Or.inl (Or.inl d)))
              · exact Or.inl (Or.inl (Or.inl (Or.inr ⟨d, z⟩)))
              · exact Or.inl (Or.inl (Or.inr ⟨d, z⟩))
              · exact Or.inl (Or.inr ⟨d, z⟩)
            · exact N7.2.1.1 i v z
            · rcases get_app z with z | ⟨z1, z2⟩
              · exact N7.2.1.2 i v z
              · rw [z1, z2, hH]
                exact w20c
            · exact g2
            · rw [sI1, if_neg (by omega), sI1, if_neg (by omega), sI1, if_neg (by omega), sI1, if_neg (by omega)]
              exact g3
            · rw [sI1, if_neg (by omega), sI1, if_neg (by omega), sI1, if_neg (by omega), sI1, if_neg (by omega), hH]
              exact g4
            · rw [sI1, if_neg (by omega), sI1, if_neg (by omega), sI1, if_neg (by omega), sI1, if_neg (by omega)]
              exact g5
            · exact ⟨by rw [sI1, if_neg (by omega), sI1, if_neg (by omega), sI1, if_neg (by omega), sI1, if_neg (by omega)]; exact g6 27 j (by omega) (by omega) (by omega), by rw [sI1, if_neg (by omega), sI1, if_neg (by omega), sI1, if_neg (by omega), sI1, if_neg (by omega)]; exact g6 28 j (by omega) (by omega) (by omega), g7 26 j (by omega)⟩
            · show (NH ++ [w]).length = T 0 4 + 1
              rw [List.length_append, hH]
              rfl
          · have k4' : f_M_readPart_R n 15 (nI vb) 23 n4 = some (nI vb, f_M_flaw_R c n6) := k4
            rw [k4', kcl, if_pos hd.1]
            rcases ee with ee | ⟨y5, ee, ff, ee2⟩
            · rw [ee, kcl, if_pos kbf]
              exact fin
            · have ee2' : f_Re_passWhole n (nI vb) 23 y5 = some (false, k_sI y6 18 0 c) := ee2
              have y14 : y5.1 14 (T 0 4) = nI vb := by rw [ff.1 14 _ (by omega)]; exact p14
              rw [ee, kcl, if_neg nk1, kgi (kin h5' (by decide)), y14, ee2', kcl, if_pos kbf]
              exact fin
        · have d4' : f_M_readPart_R n 14 0 23 n2 = some (0, f_M_flaw_R c n4) := d4
          rw [d4', kcl, d_part hd, kcl, if_pos hd.1]
          rcases ee with ee | ⟨y5, ee, ff, ee2⟩
          · rw [ee, kcl, if_pos kbf]
            exact fin
          · have ee2' : f_Re_passWhole n 0 23 y5 = some (false, k_sI y4 18 0 c) := ee2
            rw [ee, kcl, if_neg nk1, ee2', kcl, if_pos kbf]
            exact fin
      · have c4' : f_M_readPart_R n 13 0 99 m2 = some (0, f_M_flaw_R c n2) := c4
        rw [c4', kcl, d_part hd, kcl, d_part hd, kcl, if_pos hd.1]
        rcases ee with ee | ⟨y5, ee, ff, ee2⟩
        · rw [ee, kcl, if_pos kbf]
          exact fin
        · have ee2' : f_Re_passWhole n 0 99 y5 = some (false, k_sI y2 18 0 c) := ee2
          rw [ee, kcl, if_neg nk1, ee2', kcl, if_pos kbf]
          exact fin
    · rw [a1, kcl, if_pos kbf, a2, kcl, mhouse_d (h1.dd c)]
      exact h1.bad hc
  · rw [e1, kcl, if_pos kbf, e2, kcv, d_fresh (h.dd c) (by omega), kcl, mhouse_d (h.dd c)]
    exact h.bad hc
end
