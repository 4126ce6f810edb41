/-! ===== lines: both ===== -/
theorem nvl_lt : ∀ (l : List Nat) (w : Nat), (∀ c ∈ l, isd c = true) → nvl w l < (w + 1) * 10 ^ l.length
  | [], w, _ => by simp [nvl]
  | c :: l, w, h => by
    have hc := isd_r (h c (by simp))
    have i := nvl_lt l (w * 10 + (c - 48)) (fun d hd => h d (by simp [hd]))
    show nvl (w * 10 + (c - 48)) l < _
    rw [List.length_cons, Nat.pow_succ, Nat.mul_comm (10 ^ l.length) 10, ← Nat.mul_assoc]
    exact Nat.lt_of_lt_of_le i (Nat.mul_le_mul_right _ (by omega))
theorem nvl_3 {l : List Nat} (h : ∀ c ∈ l, isd c = true) (h3 : l.length ≤ 3) : nvl 0 l < 2000 := by
  have := nvl_lt l 0 h
  have : 10 ^ l.length ≤ 10 ^ 3 := Nat.pow_le_pow_right (by omega) h3
  omega
theorem lx_len (R : List Nat) : (lx R).2.2.1.length ≤ (lx R).2.1.length ∧ (lx R).2.1.length ≤ R.length ∧ ((lx R).1 = 4 → (lx R).2.2.1.length < (lx R).2.1.length) ∧ ((lx R).1 = 3 → nvl 0 (lx R).2.2.2 < 2000) := by
  obtain ⟨A, hA⟩ := dw_suf (fun c => c == 32) R
  unfold lx
  generalize R.dropWhile (fun c => c == 32) = S at hA
  match S, hA with
  | [], hA => exact ⟨by decide, by simp, fun q => absurd q (by decide), fun q => absurd q (by decide)⟩
  | c :: r, hA =>
    have hS : (c :: r).length ≤ R.length := by rw [hA, List.length_append]; omega
    have hl1 := tw_len isl (c :: r)
    have hl2 := tw_len isd (c :: r)
    show ((if isl c then _ else _ : tok).2.2.1.length ≤ (if isl c then _ else _ : tok).2.1.length) ∧ (if isl c then _ else _ : tok).2.1.length ≤ _ ∧ ((if isl c then _ else _ : tok).1 = 4 → (if isl c then _ else _ : tok).2.2.1.length < (if isl c then _ else _ : tok).2.1.length) ∧ ((if isl c then _ else _ : tok).1 = 3 → nvl 0 (if isl c then _ else _ : tok).2.2.2 < 2000)
    by_cases hi : isl c = true
    · rw [if_pos hi]
      refine ⟨?_, hS, fun q => ?_, fun q => ?_⟩
      · show ((c :: r).dropWhile isl).length ≤ (c :: r).length
        omega
      · exfalso
        have q : (if ((c :: r).takeWhile isl).length ≤ 8 then 2 else 1) = 4 := q
        split at q <;> omega
      · exfalso
        have q : (if ((c :: r).takeWhile isl).length ≤ 8 then 2 else 1) = 3 := q
        split at q <;> omega
    · rw [if_neg hi]
      by_cases hd : isd c = true
      · rw [if_pos hd]
        refine ⟨?_, hS, fun q => ?_, fun q => ?_⟩
        · show ((c :: r).dropWhile isd).length ≤ (c :: r).length
          omega
        · exfalso
          have q : (if ((c :: r).takeWhile isd).length ≤ 3 then 3 else 1) = 4 := q
          split at q <;> omega
        · have q : (if ((c :: r).takeWhile isd).length ≤ 3 then 3 else 1) = 3 := q
          split at q
          · rename_i h3
            exact nvl_3 (tw_all isd _) h3
          · omega
      · rw [if_neg hd]
        by_cases h59 : c = 59
        · rw [if_pos h59]
          exact ⟨by simp, hS, fun _ => by simp, fun q => by simp at q⟩
        · rw [if_neg h59]
          by_cases h44 : c = 44
          · rw [if_pos h44]
            exact ⟨by simp, hS, fun q => by simp at q, fun q => by simp at q⟩
          · rw [if_neg h44]
            exact ⟨by simp, hS, fun q => by simp at q, fun q => by simp at q⟩
/-- q is a token of the text, and no more than L bytes stand from it on -/
def tl (L : Nat) (q : tok) : Prop := (∃ R, q = lx R) ∧ q.2.1.length ≤ L
theorem tl.on {L : Nat} {q : tok} (h : tl L q) : tl L (lx q.2.2.1) := by
  obtain ⟨⟨R, e⟩, l⟩ := h
  have a := lx_len R
  have b := lx_len q.2.2.1
  rw [← e] at a
  exact ⟨⟨_, rfl⟩, by omega⟩
theorem tl.sc {L : Nat} {q : tok} (h : tl L q) (h4 : q.1 = 4) : 1 ≤ L ∧ tl (L - 1) (lx q.2.2.1) := by
  obtain ⟨⟨R, e⟩, l⟩ := h
  have a := lx_len R
  have b := lx_len q.2.2.1
  rw [← e] at a
  have := a.2.2.1 h4
  exact ⟨by omega, ⟨_, rfl⟩, by omega⟩
theorem tl.v {L : Nat} {q : tok} (h : tl L q) : q.1 = 3 → nvl 0 q.2.2.2 < 2000 := by
  obtain ⟨⟨R, e⟩, l⟩ := h
  have a := lx_len R
  rw [← e] at a
  exact a.2.2.2
/-- both stand at q; if it is a whole, the class may have put the value of an earlier one back -/
def BW (bs : List Nat) (q : tok) (x m : k_St) : Prop := (q.1 ≠ 3 → BT bs q x m) ∧ XX bs x ∧ MX bs m ∧ MK bs q m ∧ tkw bs q ∧ q.1 ≤ 5 ∧ x.1 18 5 = nI q.1 ∧ x.1 18 1 = nI (bs.length - q.2.1.length)
theorem BT.w {bs : List Nat} {q : tok} {x m : k_St} (h : BT bs q x m) : BW bs q x m := ⟨fun _ => h, h.1, h.2.1, h.2.2.2.1, h.2.2.2.2.1, h.2.2.2.2.2, h.2.2.1.1, h.2.2.1.2.1⟩
theorem XX.fr {bs : List Nat} {x y : k_St} (h : XX bs x) (e : ∀ k, y.1 1 k = x.1 1 k ∧ (k ≠ 8 → y.1 18 k = x.1 18 k) ∧ y.2 18 k = x.2 18 k) : XX bs y := ⟨h.1, fun i c hi => by rw [(e i).1]; exact h.2.1 i c hi, by rw [(e 3).2.1 (by decide)]; exact h.2.2⟩
theorem MX.fr {bs : List Nat} {m u : k_St} (h : MX bs m) (e : ∀ k, u.1 1 k = m.1 1 k ∧ u.1 0 k = m.1 0 k ∧ u.2 0 k = m.2 0 k) : MX bs u := ⟨h.1, fun i c hi => by rw [(e i).1]; exact h.2.1 i c hi, by rw [(e 7).2.1]; exact h.2.2⟩
theorem MK.fr {bs : List Nat} {q : tok} {m u : k_St} (h : MK bs q m) (e : ∀ k, u.1 1 k = m.1 1 k ∧ u.1 0 k = m.1 0 k ∧ u.2 0 k = m.2 0 k) : MK bs q u := ⟨by rw [(e 9).2.1]; exact h.1, by rw [(e 10).2.1]; exact h.2.1, fun z => by rw [(e 8).2.1]; exact h.2.2.1 z, fun z => by rw [(e 14).2.2]; exact h.2.2.2.1 z, fun z => by rw [(e 11).2.1]; exact h.2.2.2.2 z⟩
theorem XK.fr {bs : List Nat} {q : tok} {x y : k_St} (h : XK bs q x) (e : ∀ k, y.1 1 k = x.1 1 k ∧ (k ≠ 8 → y.1 18 k = x.1 18 k) ∧ y.2 18 k = x.2 18 k) : XK bs q y := ⟨by rw [(e 5).2.1 (by decide)]; exact h.1, by rw [(e 1).2.1 (by decide)]; exact h.2.1, by rw [(e 4).2.1 (by decide)]; exact h.2.2.1, fun z => by rw [(e 7).2.2]; exact h.2.2.2.1 z, fun z => by rw [(e 6).2.1 (by decide)]; exact h.2.2.2.2 z⟩
theorem BT.fr {bs : List Nat} {q : tok} {x m y u : k_St} (h : BT bs q x m) (e : ∀ k, y.1 1 k = x.1 1 k ∧ (k ≠ 8 → y.1 18 k = x.1 18 k) ∧ y.2 18 k = x.2 18 k) (f : ∀ k, u.1 1 k = m.1 1 k ∧ u.1 0 k = m.1 0 k ∧ u.2 0 k = m.2 0 k) : BT bs q y u := ⟨h.1.fr e, h.2.1.fr f, h.2.2.1.fr e, h.2.2.2.1.fr f, h.2.2.2.2.1, h.2.2.2.2.2⟩
theorem BW.fr {bs : List Nat} {q : tok} {x m y u : k_St} (h : BW bs q x m) (e : ∀ k, y.1 1 k = x.1 1 k ∧ (k ≠ 8 → y.1 18 k = x.1 18 k) ∧ y.2 18 k = x.2 18 k) (f : ∀ k, u.1 1 k = m.1 1 k ∧ u.1 0 k = m.1 0 k ∧ u.2 0 k = m.2 0 k) : BW bs q y u := ⟨fun z => (h.1 z).fr e f, h.2.1.fr e, h.2.2.1.fr f, h.2.2.2.1.fr f, h.2.2.2.2.1, h.2.2.2.2.2.1, by rw [(e 5).2.1 (by decide)]; exact h.2.2.2.2.2.2.1, by rw [(e 1).2.1 (by decide)]; exact h.2.2.2.2.2.2.2⟩
theorem BW.al {bs : List Nat} {q : tok} {x m : k_St} (h : BW bs q x m) : m.1 0 9 ≠ 6 := h.2.2.2.1.al h.2.2.2.2.2.1
/-- what reading leaves alone -/
def Fx (x0 x : k_St) : Prop := ∀ o k, (o < 10 ∨ 20 < o ∨ (o = 18 ∧ k = 0)) → x.1 o k = x0.1 o k ∧ x.2 o k = x0.2 o k
def Fm (m0 m : k_St) : Prop := ∀ o k, ((o = 0 ∧ (k < 7 ∨ k = 12 ∨ 14 < k)) ∨ (1 ≤ o ∧ o < 18)) → m.1 o k = m0.1 o k ∧ m.2 o k = m0.2 o k
theorem Fx.xr {x0 x y : k_St} (h : Fx x0 x) (e : xr x y) : Fx x0 y := fun o k a => ⟨by rw [e.1 o k (by omega)]; exact (h o k a).1, by rw [e.2 o k (by omega)]; exact (h o k a).2⟩
theorem Fm.mo {m0 m u : k_St} (h : Fm m0 m) (e : mo m u) : Fm m0 u := fun o k a => ⟨by rw [e.1 o k (by omega)]; exact (h o k a).1, by rw [e.2 o k (by omega)]; exact (h o k a).2⟩
theorem Fx.fr {x0 x y : k_St} (h : Fx x0 x) (e : ∀ o k, (o < 10 ∨ 20 < o ∨ (o = 18 ∧ k = 0)) → y.1 o k = x.1 o k ∧ y.2 o k = x.2 o k) : Fx x0 y := fun o k a => ⟨by rw [(e o k a).1]; exact (h o k a).1, by rw [(e o k a).2]; exact (h o k a).2⟩
theorem Fm.fr {m0 m u : k_St} (h : Fm m0 m) (e : ∀ o k, o < 18 → u.1 o k = m.1 o k ∧ u.2 o k = m.2 o k) : Fm m0 u := fun o k a => ⟨by rw [(e o k (by omega)).1]; exact (h o k a).1, by rw [(e o k (by omega)).2]; exact (h o k a).2⟩
def RN (T : t_D) (NP NH : List Nat) (NM : List (Nat × Nat × Nat)) (x m : k_St) : Prop := NW NP NH NM ∧ NX NP NH x ∧ NMm NM m ∧ NP.length = T 0 2 ∧ NH.length = T 0 4
def RD (bs : List Nat) (q : tok) (L : Nat) (T : t_D) (g : Bool) (NP NH : List Nat) (NM : List (Nat × Nat × Nat)) (x0 m0 x m : k_St) : Prop := BW bs q x m ∧ tl L q ∧ Tp T ∧ (Sd 10 (dm T g) T x ∧ Sd 18 (dm T g) T m ∧ (g = false → m.1 18 0 = -1 ∧ T 0 2 = 0)) ∧ RN T NP NH NM x m ∧ (x.1 18 8 = if g then 1 else 0) ∧ Fx x0 x ∧ Fm m0 m
theorem RN.len {T : t_D} {NP NH : List Nat} {NM : List (Nat × Nat × Nat)} {x m : k_St} (h : RN T NP NH NM x m) : NM.length ≤ 13 := by
  have hN := h.1
  have := hN.1
  have := hN.2.1
  have := hN.2.2.1
  omega
section
variable {bs : List Nat} {q q' : tok} {L : Nat} {T T' : t_D} {g : Bool} {NP NH NP' NH' : List Nat} {NM NM' : List (Nat × Nat × Nat)} {x0 m0 x m x' m' : k_St}
theorem RD.len (h : RD bs q L T g NP NH NM x0 m0 x m) : NM.length ≤ 13 := h.2.2.2.2.1.len
theorem RD.m8 (h : RD bs q L T g NP NH NM x0 m0 x m) : m.1 18 8 = nI NM.length := h.2.2.2.2.1.2.2.1.1
theorem RD.sx (h : RD bs q L T g NP NH NM x0 m0 x m) : Sd 10 (dm T g) T x := h.2.2.2.1.1
theorem RD.sm (h : RD bs q L T g NP NH NM x0 m0 x m) : Sd 18 (dm T g) T m := h.2.2.2.1.2.1
theorem RD.ns (h : RD bs q L T g NP NH NM x0 m0 x m) : NS g x m := by
  refine ⟨h.2.2.2.2.2.1, ?_⟩
  cases g with
  | false => exact ⟨fun _ => rfl, fun _ => (h.2.2.2.1.2.2 rfl).1⟩
  | true =>
    have hT := h.2.2.1.2.1
    have e : m.1 18 0 = nI (T 0 0) := h.sm 0 0 (Or.inr (Or.inl ⟨rfl, by omega, rfl⟩))
    rw [e]
    exact ⟨fun q => absurd q (nI_ne_m1 (by omega)), fun q => by simp at q⟩
theorem RD.on (h : RD bs q L T g NP NH NM x0 m0 x m) (a : xr x x') (b : mo m m') (c : BW bs q' x' m') (d : tl L q') : RD bs q' L T g NP NH NM x0 m0 x' m' :=
  ⟨c, d, h.2.2.1, ⟨h.sx.fr (fun a' k hd => a.1 _ k (by have := dm7 hd; omega)), h.sm.fr (fun a' k hd => b.1 _ k (by have := dm7 hd; omega)), fun z => by rw [b.1 18 0 (by omega)]; exact h.2.2.2.1.2.2 z⟩, ⟨h.2.2.2.2.1.1, h.2.2.2.2.1.2.1.xr a, h.2.2.2.2.1.2.2.1.mo b, h.2.2.2.2.1.2.2.2⟩, by rw [a.1 18 8 (by omega)]; exact h.2.2.2.2.2.1, h.2.2.2.2.2.2.1.xr a, h.2.2.2.2.2.2.2.mo b⟩
theorem RD.put (h : RD bs q L T g NP NH NM x0 m0 x m) (hx : ∀ o k, ¬ (10 ≤ o ∧ o ≤ 17) → x'.1 o k = x.1 o k) (hx2 : ∀ o k, ¬ (o = 19 ∨ o = 20) → x'.2 o k = x.2 o k) (hm : ∀ o k, o < 18 → m'.1 o k = m.1 o k ∧ m'.2 o k = m.2 o k) (hT : Tp T') (a : Sd 10 (dm T' g) T' x') (b : Sd 18 (dm T' g) T' m') (c : g = true) (hN : RN T' NP' NH' NM' x' m') : RD bs q L T' g NP' NH' NM' x0 m0 x' m' :=
  ⟨h.1.fr (fun k => ⟨hx 1 k (by omega), fun _ => hx 18 k (by omega), hx2 18 k (by omega)⟩) (fun k => ⟨(hm 1 k (by omega)).1, (hm 0 k (by omega)).1, (hm 0 k (by omega)).2⟩), h.2.1, hT, ⟨a, b, fun z => by rw [c] at z; simp at z⟩, hN, by rw [hx 18 8 (by omega)]; exact h.2.2.2.2.2.1, h.2.2.2.2.2.2.1.fr (fun o k z => ⟨hx o k (by omega), hx2 o k (by omega)⟩), h.2.2.2.2.2.2.2.fr (fun o k z => hm o k z)⟩
theorem RN.keep (h : RN T NP NH NM x m) (hx2 : x'.2 = x.2) (hm2 : m'.2 = m.2) (h8 : m'.1 18 8 = m.1 18 8) (h27 : ∀ k, m'.1 27 k = m.1 27 k) (h28 : ∀ k, m'.1 28 k = m.1 28 k) (e2 : T' 0 2 = T 0 2) (e4 : T' 0 4 = T 0 4) : RN T' NP NH NM x' m' :=
  ⟨h.1, ⟨fun i w z => by rw [hx2]; exact h.2.1.1 i w z, fun i w z => by rw [hx2]; exact h.2.1.2 i w z⟩, ⟨by rw [h8]; exact h.2.2.1.1, fun k e z => by rw [hm2, h27, h28]; exact h.2.2.1.2 k e z⟩, by rw [e2]; exact h.2.2.2.1, by rw [e4]; exact h.2.2.2.2⟩
/-- a line's outcome: both go on, or both fail at the same place for the same fault -/
def LO (bs : List Nat) (L : Nat) (x0 m0 : k_St) (fX : Option (Bool × k_St)) (fM : Option k_St) : Prop := (∃ q T g NP NH NM x m, fX = some (true, x) ∧ fM = some m ∧ RD bs q L T g NP NH NM x0 m0 x m) ∨ ∃ c q x m, 0 < c ∧ fX = some (false, k_sI x 18 0 c) ∧ fM = some (f_M_flaw_R c m) ∧ BW bs q x m ∧ Fx x0 x ∧ Fm m0 m ∧ ∃ k, k ≤ 13 ∧ m.1 18 8 = nI k
theorem LO.ok (h : RD bs q L T g NP NH NM x0 m0 x m) : LO bs L x0 m0 (some (true, x)) (some m) := Or.inl ⟨q, T, g, NP, NH, NM, x, m, rfl, rfl, h⟩
theorem LO.bad {c : Int32} (hc : 0 < c) (h : BW bs q x m) (a : Fx x0 x) (b : Fm m0 m) {k : Nat} (hk : k ≤ 13) (h8 : m.1 18 8 = nI k) : LO bs L x0 m0 (some (false, k_sI x 18 0 c)) (some (f_M_flaw_R c m)) := Or.inr ⟨c, q, x, m, hc, rfl, rfl, h, a, b, k, hk, h8⟩
theorem RD.bad (h : RD bs q L T g NP NH NM x0 m0 x m) {c : Int32} (hc : 0 < c) : LO bs L x0 m0 (some (false, k_sI x 18 0 c)) (some (f_M_flaw_R c m)) := LO.bad hc h.1 h.2.2.2.2.2.2.1 h.2.2.2.2.2.2.2 h.len h.m8
theorem RD.dd (h : RD bs q L T g NP NH NM x0 m0 x m) (c : Int32) : dead (f_M_flaw_R c m) := flaw_dead h.1.al c h.len h.m8
end
theorem bwordW {bs : List Nat} {q : tok} {x m : k_St} (h : BW bs q x m) {k : Nat} (hk : k ≤ 13) (h8 : m.1 18 8 = nI k) {n i : Nat} (hn : 2000 ≤ n) (hi : i < 16) : (∃ x' m', f_Re_passWord n i x = some (true, x') ∧ f_M_needs_R n i m = some m' ∧ xr x x' ∧ mo m m' ∧ BT bs (lx q.2.2.1) x' m') ∨ (f_Re_passWord n i x = some (false, k_sI x 18 0 1) ∧ f_M_needs_R n i m = some (f_M_flaw_R 1 m)) := by
  by_cases e : q.1 = 3
  · right
    have s : f_Re_says n i x = some false := by unfold f_Re_says; rw [h.2.2.2.2.2.2.1, e, if_neg (by decide)]
    have s2 : sy q i = false := by unfold sy; simp [e]
    have hd := flaw_dead h.al 1 hk h8
    unfold f_Re_passWord f_M_needs_R
    rw [s, fMisWord h.2.2.2.2.1 h.2.2.2.1 h.2.2.2.2.2.1 (by omega) hi, s2, kcp, kcp, if_pos (show k_b false = 0 from rfl), if_pos (show k_b false = 0 from rfl), klt (f_M_flaw_R 1 m), d_goesOn hd, kcv]
    exact ⟨rfl, rfl⟩
  · exact bword (h.1 e) hk h8 hn hi
theorem bpart {bs : List Nat} {q : tok} {x m : k_St} (h : BW bs q x m) {L : Nat} (hl : tl L q) {k : Nat} (hk : k ≤ 13) (h8 : m.1 18 8 = nI k) {n i a b : Nat} (hn : 2000 ≤ n) (hi : i < 16) (ha : a ≤ 1000) (hb : b ≤ 1000) :
    (∃ v x1 x' m' q', a ≤ v ∧ v ≤ b ∧ f_Re_passWord n i x = some (true, x1) ∧ f_Re_passWhole n (nI a) (nI b) x1 = some (true, x') ∧ x'.1 18 6 = nI v ∧ f_M_readPart_R n i (nI a) (nI b) m = some (nI v, m') ∧ xr x x1 ∧ xr x x' ∧ mo m m' ∧ BW bs q' x' m' ∧ tl L q') ∨
    ∃ c q' x' m', 0 < c ∧ (f_Re_passWord n i x = some (false, k_sI x' 18 0 c) ∨ ∃ x1, f_Re_passWord n i x = some (true, x1) ∧ xr x x1 ∧ f_Re_passWhole n (nI a) (nI b) x1 = some (false, k_sI x' 18 0 c)) ∧ f_M_readPart_R n i (nI a) (nI b) m = some (nI a, f_M_flaw_R c m') ∧ xr x x' ∧ mo m m' ∧ BW bs q' x' m' := by
  unfold f_M_readPart_R
  rcases bwordW h hk h8 hn hi with ⟨x1, m1, e1, e2, f1, f2, B⟩ | ⟨e1, e2⟩
  · have hl1 := hl.on
    have h81 : m1.1 18 8 = nI k := by rw [f2.1 18 8 (by omega)]; exact h8
    rw [e2, kcv]
    rcases bwhole B hk h81 hn ha hb hl1.v with ⟨v, x2, m2, -, v1, v2, g1, g2, g3, g4, g5, q', rfl, g7⟩ | ⟨c, hc, g1, g2⟩
    · left
      rw [g3, kcl]
      exact ⟨v, x1, x2, m2, _, v1, v2, e1, g1, g2, rfl, f1, f1.tr g4, f2.tr g5, g7, hl1.on⟩
    · right
      rw [g2, kcl]
      exact ⟨c, _, x1, m1, hc, Or.inr ⟨x1, e1, f1, g1⟩, rfl, f1, f2, B.w⟩
  · right
    have hd := flaw_dead h.al 1 hk h8
    rw [e2, kcv, d_whole hd, kcl]
    exact ⟨1, q, x, m, by decide, Or.inl e1, rfl, xr.rf x, mo.rf m, h⟩
