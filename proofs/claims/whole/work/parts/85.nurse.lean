/-! ===== nurse ===== -/
theorem d_nurse16 {t : k_St} (h : dead t) (n : Nat) : f_M_readNurse_R_16 n t = some t := by
  unfold f_M_readNurse_R_16
  rw [d_goesOn h, kcv, d_part h, kcl, d_part h, kcl, if_pos h.1]
theorem Sd.xr {D : Nat → Nat → Prop} {T : t_D} {x y : k_St} (h : Sd 10 D T x) (hD : ∀ a k, D a k → a ≤ 7) (e : xr x y) : Sd 10 D T y := h.fr (fun a k d => e.1 _ k (by have := hD a k d; omega))
theorem Sd.mo {D : Nat → Nat → Prop} {T : t_D} {x y : k_St} (h : Sd 18 D T x) (e : mo x y) : Sd 18 D T y := h.fr (fun a k d => e.1 _ k (by omega))
section
variable {bs : List Nat} {q : tok} {L : Nat} {T : t_D} {g : Bool} {NP NH : List Nat} {NM : List (Nat × Nat × Nat)} {x0 m0 x m : k_St} {n : Nat}
theorem lnNurse (h : RD bs q L T g NP NH NM x0 m0 x m) (hq : q.1 = 2) (hn : 2000 ≤ n) : LO bs L x0 m0 (f_Re_readNurse n x) (f_M_readNurse_R n m) := by
  have B0 := h.1.1 (by omega)
  have hT := h.2.2.1
  have hns := h.ns
  unfold f_Re_readNurse f_M_readNurse_R
  cases g with
  | true =>
    rw [hns.1, if_neg (by decide), if_neg (fun z => by simpa using hns.2.mp z), klt (f_M_flaw_R 3 m), d_nurse16 (h.dd 3)]
    exact h.bad (by decide)
  | false =>
    rw [hns.1, if_pos (by rfl), if_pos (hns.2.mpr rfl), klt]
    have hfx : Fx x0 (k_sI x 18 8 1) := h.2.2.2.2.2.2.1.fr (fun o k z => ⟨by rw [sI1, if_neg (by omega)], rfl⟩)
    have hsx : Sd 10 (dm T false) T (k_sI x 18 8 1) := h.sx.fr (fun a k d => by rw [sI1, if_neg (by have := dm7 d; omega)])
    have h18 : (k_sI x 18 8 1).1 18 8 = 1 := by rw [sI1, if_pos ⟨rfl, rfl⟩]
    have Ba : BT bs q (k_sI x 18 8 1) m := B0.fr (fun k => ⟨by rw [sI1, if_neg (by omega)], fun z => by rw [sI1, if_neg (by omega)], rfl⟩) (fun k => ⟨rfl, rfl, rfl⟩)
    have hnx : NX NP NH (k_sI x 18 8 1) := h.2.2.2.2.1.2.1
    generalize k_sI x 18 8 1 = xa at *
    obtain ⟨x1, m1, s1, s2, f1, f2, B1⟩ := bstep Ba (by omega) hn
    have l1 := h.2.1.on
    have k1 : m1.1 18 8 = nI NM.length := by rw [f2.1 18 8 (by omega)]; exact h.m8
    unfold f_M_readNurse_R_16
    rw [s1, kcv, s2, kcv]
    rcases bpart (n := n) (i := 7) (a := 0) (b := 4) B1.w l1 h.len k1 hn (by omega) (by omega) (by omega) with ⟨v, xw, x2, m2, q2, v1, v2, e1, e2, e3, e4, f3, f4, f5, B2, l2⟩ | ⟨c, q2, x2, m2, hc, ee, e4, f4, f5, B2⟩
    · have e2' : f_Re_passWhole n 0 4 xw = some (true, x2) := e2
      have e4' : f_M_readPart_R n 7 0 4 m1 = some (nI v, m2) := e4
      have k2 : m2.1 18 8 = nI NM.length := by rw [f5.1 18 8 (by omega)]; exact k1
      rw [e1, kcl, if_neg nk1, e2', kcl, if_neg nk1, klt, e3, e4', kcl]
      have Bb : BW bs q2 (k_sI x2 10 0 (nI v)) m2 := B2.fr (fun k => ⟨by rw [sI1, if_neg (by omega)], fun z => by rw [sI1, if_neg (by omega)], rfl⟩) (fun k => ⟨rfl, rfl, rfl⟩)
      have fx2 : Fx x0 (k_sI x2 10 0 (nI v)) := ((hfx.xr f1).xr f4).fr (fun o k z => ⟨by rw [sI1, if_neg (by omega)], rfl⟩)
      have sx2 : Sd 10 (fun b j => dm T false b j ∨ (b = 0 ∧ j = 0)) (tu T 0 0 v) (k_sI x2 10 0 (nI v)) := ((hsx.xr (fun a k d => dm7 d) f1).xr (fun a k d => dm7 d) f4).set 0 0 v
      have h18b : (k_sI x2 10 0 (nI v)).1 18 8 = 1 := by rw [sI1, if_neg (by omega), f4.1 18 8 (by omega), f1.1 18 8 (by omega)]; exact h18
      have nx2a : NX NP NH x2 := (hnx.xr f1).xr f4
      have nx2 : NX NP NH (k_sI x2 10 0 (nI v)) := nx2a
      generalize k_sI x2 10 0 (nI v) = xb at *
      rcases bpart (n := n) (i := 8) (a := 0) (b := 100) Bb l2 h.len k2 hn (by omega) (by omega) (by omega) with ⟨w, xw', x3, m3, q3, w1, w2, e5, e6, e7, e8, f6, f7, f8, B3, l3⟩ | ⟨c, q3, x3, m3, hc, ee, e8, f7, f8, B3⟩
      · have e6' : f_Re_passWhole n 0 100 xw' = some (true, x3) := e6
        have e8' : f_M_readPart_R n 8 0 100 m2 = some (nI w, m3) := e8
        rw [e5, kcl, if_neg nk1, e6', kcl, if_neg nk1, klt, e7, e8', kcl, if_neg B3.al, klt, klt]
        have mf := (f2.tr f5).tr f8
        have N := h.2.2.2.2.1
        have fm3 : Fm m0 m3 := h.2.2.2.2.2.2.2.mo mf
        have nm3 := N.2.2.1.mo mf
        refine LO.ok (q := q3) (T := tu (tu T 0 0 v) 0 1 w) (g := true) (NP := NP) (NH := NH) (NM := NM) ⟨?_, l3, hT.nurse v2 w2, ⟨?_, ?_, fun z => by simp at z⟩, ⟨N.1, ?_, ?_, N.2.2.2.1, N.2.2.2.2⟩, ?_, ?_, ?_⟩
        · exact B3.fr (fun k => ⟨by rw [sI1, if_neg (by omega)], fun z => by rw [sI1, if_neg (by omega)], rfl⟩) (fun k => ⟨by rw [sI1, if_neg (by omega), sI1, if_neg (by omega)], by rw [sI1, if_neg (by omega), sI1, if_neg (by omega)], rfl⟩)
        · refine ((sx2.xr (fun a k d => ?_) f7).set 0 1 w).mono (fun a k d => ?_)
          · rcases d with d | d
            · exact dm7 d
            · omega
          · rcases dn_g (g := false) d with d | d
            · exact Or.inl (Or.inl d)
            · by_cases z : k = 0
              · exact Or.inl (Or.inr ⟨d.1, z⟩)
              · exact Or.inr ⟨d.1, by omega⟩
        · refine (((h.sm.mo mf).set 0 0 v).set 0 1 w).mono (fun a k d => ?_)
          rcases dn_g (g := false) d with d | d
          · exact Or.inl (Or.inl d)
          · by_cases z : k = 0
            · exact Or.inl (Or.inr ⟨d.1, z⟩)
            · exact Or.inr ⟨d.1, by omega⟩
        · have nx3 : NX NP NH x3 := nx2.xr f7
          exact nx3
        · exact ⟨by rw [sI1, if_neg (by omega), sI1, if_neg (by omega)]; exact nm3.1, fun k e z => by rw [sI1, if_neg (by omega), sI1, if_neg (by omega), sI1, if_neg (by omega), sI1, if_neg (by omega)]; exact nm3.2 k e z⟩
        · rw [sI1, if_neg (by omega), f7.1 18 8 (by omega), h18b]
          rfl
        · exact (fx2.xr f7).fr (fun o k z => ⟨by rw [sI1, if_neg (by omega)], rfl⟩)
        · exact fm3.fr (fun o k z => ⟨by rw [sI1, if_neg (by omega), sI1, if_neg (by omega)], rfl⟩)
      · have e8' : f_M_readPart_R n 8 0 100 m2 = some (0, f_M_flaw_R c m3) := e8
        have mf := (f2.tr f5).tr f8
        have k3 : m3.1 18 8 = nI NM.length := by rw [mf.1 18 8 (by omega)]; exact h.m8
        have hd := flaw_dead B3.al c h.len k3
        rw [e8', kcl, if_pos hd.1]
        have fin := LO.bad (L := L) hc B3 (fx2.xr f7) (h.2.2.2.2.2.2.2.mo mf) h.len k3
        rcases ee with ee | ⟨xw', ee, -, ee2⟩
        · rw [ee, kcl, if_pos kbf]
          exact fin
        · have ee2' : f_Re_passWhole n 0 100 xw' = some (false, k_sI x3 18 0 c) := ee2
          rw [ee, kcl, if_neg nk1, ee2', kcl, if_pos kbf]
          exact fin
    · have e4' : f_M_readPart_R n 7 0 4 m1 = some (0, f_M_flaw_R c m2) := e4
      have mf := f2.tr f5
      have k3 : m2.1 18 8 = nI NM.length := by rw [mf.1 18 8 (by omega)]; exact h.m8
      have hd := flaw_dead B2.al c h.len k3
      rw [e4', kcl, d_part hd, kcl, if_pos hd.1]
      have fin := LO.bad (L := L) hc B2 ((hfx.xr f1).xr f4) (h.2.2.2.2.2.2.2.mo mf) h.len k3
      rcases ee with ee | ⟨xw', ee, -, ee2⟩
      · rw [ee, kcl, if_pos kbf]
        exact fin
      · have ee2' : f_Re_passWhole n 0 4 xw' = some (false, k_sI x2 18 0 c) := ee2
        rw [ee, kcl, if_neg nk1, ee2', kcl, if_pos kbf]
        exact fin
end
