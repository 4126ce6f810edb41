/-! ===== the reference's way from TALE to TALE ===== -/
def us (rp : List Nat) : Nat := ta_bits rp.reverse
def kg (T : t_D) (rp : List Nat) : Nat := rp.foldr (fun p k => if T 1 p = 2 then k + 1 else k) 0
def ok (T : t_D) : List Nat → Prop
  | [] => True
  | q :: rp => q < T 0 2 ∧ (us rp).testBit q = false ∧ ok T rp
theorem us_cons (q : Nat) (rp : List Nat) : us (q :: rp) = us rp ||| 2 ^ q := by rw [us, List.reverse_cons, ta_bits_app]; rfl
theorem kg_cons (T : t_D) (q : Nat) (rp : List Nat) : kg T (q :: rp) = if T 1 q = 2 then kg T rp + 1 else kg T rp := rfl
theorem ok_pc {T : t_D} (w : Tw T) : ∀ rp, ok T rp → us rp < 256 ∧ pc8 (us rp) = rp.length
  | [], _ => by decide
  | q :: rp, h => by
    obtain ⟨h1, h2, h3⟩ := h
    obtain ⟨a, b⟩ := ok_pc w rp h3
    obtain ⟨c, d⟩ := pc8_add (us rp) a q (by have := w.1.2; omega) h2
    rw [us_cons, List.length_cons]
    exact ⟨d, by omega⟩
theorem ok_len {T : t_D} (w : Tw T) {rp : List Nat} (h : ok T rp) : rp.length ≤ 8 := by
  have := (ok_pc w rp h).2
  have := pc8_le (us rp)
  omega
theorem kg_le (T : t_D) (rp : List Nat) : kg T rp ≤ rp.length := by
  induction rp with
  | nil => exact Nat.le_refl 0
  | cons q rp ih => rw [kg_cons, List.length_cons]; split <;> omega
theorem ok_mem {T : t_D} : ∀ {rp : List Nat}, ok T rp → ∀ p ∈ rp, p < T 0 2
  | [], _, p, hp => by cases hp
  | q :: rp, h, p, hp => by
    rcases List.mem_cons.mp hp with rfl | hp
    · exact h.1
    · exact ok_mem h.2.2 p hp
def Ps (T : t_D) (S : Nat) (t : k_St) (rp : List Nat) (c : Nat) : Prop := MTT T t ∧ t.1 0 25 = nI S ∧ t.1 0 22 = nI rp.length ∧ t.1 0 23 = nI (us rp) ∧ t.1 0 24 = nI (kg T rp) ∧ (∀ i p, rp.reverse[i]? = some p → t.1 6 i = nI p) ∧ t.1 6 rp.length = nI c ∧ ok T rp
/-- what the walk leaves alone -/
def mw (t u : k_St) : Prop := u.2 = t.2 ∧ ∀ o k, ¬ (o = 0 ∧ 22 ≤ k ∧ k ≤ 24) → o ≠ 6 → u.1 o k = t.1 o k
theorem mw.rf (t : k_St) : mw t t := ⟨rfl, fun _ _ _ _ => rfl⟩
theorem mw.tr {t u v : k_St} (h : mw t u) (g : mw u v) : mw t v := ⟨g.1.trans h.1, fun o k a b => (g.2 o k a b).trans (h.2 o k a b)⟩
theorem mw.set0 (t : k_St) (j : Nat) (x : Int32) (h : 22 ≤ j ∧ j ≤ 24) : mw t (k_sI t 0 j x) := ⟨rfl, fun o k a b => by rw [sI1, if_neg (by omega)]⟩
theorem mw.set6 (t : k_St) (j : Nat) (x : Int32) : mw t (k_sI t 6 j x) := ⟨rfl, fun o k a b => by rw [sI1, if_neg (by omega)]⟩
theorem MTT.mw {T : t_D} {t u : k_St} (h : MTT T t) (e : mw t u) : MTT T u := h.same (fun o k a b => e.2 o k (by omega) (by omega))
def ta_gp (T : t_D) (S : Nat) (rp : List Nat) (p : Nat) : List (List Nat) := match rp with
  | [] => if ta_fit0 T S p then ta_ext T S 8 p (2 ^ p) 0 [p] else []
  | q :: r => if ta_fit T S (us (q :: r)) (kg T (q :: r)) q p then (if T 1 p = 3 then [(q :: r).reverse ++ [p]] else ta_ext T S (8 - (q :: r).length) p (us (q :: r) ||| 2 ^ p) (if T 1 p = 2 then kg T (q :: r) + 1 else kg T (q :: r)) ((q :: r).reverse ++ [p])) else []
def ta_rem (T : t_D) (S : Nat) : List Nat → Nat → List (List Nat)
  | [], c => (List.range' c (T 0 2 - c)).flatMap (ta_gp T S [])
  | q :: rp, c => (List.range' c (T 0 2 - c)).flatMap (ta_gp T S (q :: rp)) ++ ta_rem T S rp (q + 1)
theorem ta_rem_all (T : t_D) (S : Nat) : ta_rem T S [] 0 = ta_all T S := by
  rw [ta_rem, ta_all, List.range_eq_range', Nat.sub_zero]
  rfl
theorem ta_rem_step {T : t_D} {S : Nat} {rp : List Nat} {c : Nat} (h : c < T 0 2) : ta_rem T S rp c = ta_gp T S rp c ++ ta_rem T S rp (c + 1) := by
  obtain ⟨z, hz⟩ : ∃ z, T 0 2 - c = z + 1 := ⟨T 0 2 - c - 1, by omega⟩
  have hz2 : T 0 2 - (c + 1) = z := by omega
  cases rp with
  | nil => rw [ta_rem, ta_rem, hz, hz2, List.range'_succ, List.flatMap_cons]
  | cons q rp => rw [ta_rem, ta_rem, hz, hz2, List.range'_succ, List.flatMap_cons, List.append_assoc]
theorem ta_rem_end {T : t_D} {S : Nat} {q : Nat} {rp : List Nat} {c : Nat} (h : T 0 2 ≤ c) : ta_rem T S (q :: rp) c = ta_rem T S rp (q + 1) := by
  rw [ta_rem, show T 0 2 - c = 0 by omega]
  rfl
theorem ta_rem_end0 {T : t_D} {S : Nat} {c : Nat} (h : T 0 2 ≤ c) : ta_rem T S [] c = [] := by
  rw [ta_rem, show T 0 2 - c = 0 by omega]
  rfl
def fitp (T : t_D) (S : Nat) (rp : List Nat) (p : Nat) : Bool := match rp with
  | [] => ta_fit0 T S p
  | q :: r => ta_fit T S (us (q :: r)) (kg T (q :: r)) q p
theorem fitp_us {T : t_D} {S : Nat} {rp : List Nat} {p : Nat} (h : fitp T S rp p = true) : (us rp).testBit p = false := by
  cases rp with
  | nil => simp [us, ta_bits]
  | cons q rp =>
    simp only [fitp, ta_fit, Bool.and_eq_true, Bool.not_eq_true'] at h
    exact h.1.1.1.2
theorem ta_gp_no {T : t_D} {S : Nat} {rp : List Nat} {p : Nat} (h : fitp T S rp p = false) : ta_gp T S rp p = [] := by
  cases rp with
  | nil => simp only [fitp] at h; simp [ta_gp, h]
  | cons q rp => simp only [fitp] at h; simp [ta_gp, h]
theorem ta_gp_end {T : t_D} {S : Nat} {q : Nat} {rp : List Nat} {p : Nat} (h : fitp T S (q :: rp) p = true) (h3 : T 1 p = 3) : ta_gp T S (q :: rp) p = [(p :: q :: rp).reverse] := by
  simp only [fitp] at h
  rw [ta_gp, if_pos h, if_pos h3, List.reverse_cons (a := p)]
theorem ta_gp_on {T : t_D} (w : Tw T) {S : Nat} {rp : List Nat} {p : Nat} (hp : p < T 0 2) (hok : ok T rp) (h : fitp T S rp p = true) (h3 : rp = [] ∨ T 1 p ≠ 3) : ta_gp T S rp p = (List.range' 0 (T 0 2)).flatMap (ta_gp T S (p :: rp)) := by
  have hl := ok_len w (rp := p :: rp) ⟨hp, fitp_us h, hok⟩
  rw [← List.range_eq_range']
  cases rp with
  | nil =>
    have h2 : ¬ T 1 p = 2 := by simp [fitp, ta_fit0] at h; omega
    simp only [fitp] at h
    rw [ta_gp, if_pos h, ta_ext]
    apply flat_congr
    intro x _
    rw [ta_gp, us_cons, kg_cons, if_neg h2]
    simp [us, ta_bits, kg]
  | cons q rp =>
    simp only [fitp] at h
    have h3' : ¬ T 1 p = 3 := by
      rcases h3 with e | e
      · cases e
      · exact e
    obtain ⟨e, he⟩ : ∃ e, 8 - (q :: rp).length = e + 1 := ⟨8 - (q :: rp).length - 1, by rw [List.length_cons] at hl; omega⟩
    have he2 : 8 - (p :: q :: rp).length = e := by rw [List.length_cons]; omega
    rw [ta_gp, if_pos h, if_neg h3', he, ta_ext]
    apply flat_congr
    intro x _
    rw [ta_gp, he2, us_cons p, kg_cons T p, List.reverse_cons (a := p)]
def whp (T : t_D) (rp : List Nat) : Bool := match rp with
  | [] => false
  | [_] => false
  | q :: _ :: _ => T 1 q == 3
def tlp (T : t_D) (rp : List Nat) (p : Nat) : Bool := match rp with
  | [] => T 1 p == 0
  | q :: _ => (T 1 p != 0) && (T 2 q).testBit p
theorem fisWhole {T : t_D} (w : Tw T) {S : Nat} {t : k_St} {rp : List Nat} {c : Nat} (h : Ps T S t rp c) : f_M_isWhole t = some (whp T rp) := by
  obtain ⟨hM, -, h22, -, -, h6, -, hok⟩ := h
  have hl := ok_len w hok
  have hP := w.1.2
  unfold f_M_isWhole
  match rp, hok, h6, hl, h22 with
  | [], _, _, _, h22 => rw [h22, if_pos (by decide)]; rfl
  | [q], _, _, _, h22 =>
    have h22 : t.1 0 22 = nI 1 := h22
    rw [h22, if_pos (by decide)]; rfl
  | q :: q2 :: r, hok, h6, hl, h22 =>
    have h22 : t.1 0 22 = nI (r.length + 1 + 1) := h22
    have hl : r.length + 1 + 1 ≤ 8 := hl
    have hq := hok.1
    have hk := (w.2.2.2.2.2.2.2.2.1 q hq).1
    have h7 : t.1 6 (q2 :: r).length = nI q := h6 _ q (by rw [List.reverse_cons, List.getElem?_append_right (by simp), List.length_reverse]; simp)
    have h7 : t.1 6 (r.length + 1) = nI q := h7
    rw [h22, if_neg (by rw [l1]; exact nI_ge (by omega) (by omega)), nI_pred, kgi (kin (by omega) (by decide)), nI_clamp (by omega), h7, kgi (kin (by omega) (by decide)), nI_clamp (by omega), (hM.2.1 q hq).1]
    by_cases h3 : T 1 q = 3
    · rw [if_pos (by rw [h3]; rfl)]; simp [whp, h3]
    · rw [if_neg (neL 3 h3 rfl (by omega) (by decide))]; simp [whp, h3]
theorem k_bne {b : Bool} (h : b = true) : ¬ k_b b = 0 := by rw [h]; decide
theorem k_beq {b : Bool} (h : b = false) : k_b b = 0 := by rw [h]; decide
theorem ffitsOn {T : t_D} (w : Tw T) {S : Nat} (hS : S < 2 ^ 31) {t : k_St} {rp : List Nat} {c : Nat} (h : Ps T S t rp c) {p : Nat} (hp : p < T 0 2) : f_M_fitsOn t (nI p) = some (fitp T S rp p) := by
  obtain ⟨hM, h25, h22, h23, h24, h6, -, hok⟩ := h
  have hl := ok_len w hok
  have hP := w.1.2
  have hK := w.2.1
  have hkg := kg_le T rp
  have hk := (w.2.2.2.2.2.2.2.2.1 p hp).1
  have hus := (ok_pc w rp hok).1
  have tail : f_M_fitsOn_51 t (nI p) = some (tlp T rp p) := by
    unfold f_M_fitsOn_51
    match rp, hok, h6, hl, h22 with
    | [], _, _, _, h22 =>
      rw [h22, if_pos (by rfl), kgi (kin (by omega) (by decide)), nI_clamp (by omega), (hM.2.1 p hp).1]
      by_cases h0 : T 1 p = 0
      · rw [if_pos (by rw [h0]; rfl)]; simp [tlp, h0]
      · rw [if_neg (neL 0 h0 rfl (by omega) (by decide))]; simp [tlp, h0]
    | q :: r, hok, h6, hl, h22 =>
      have hq := hok.1
      have h22 : t.1 0 22 = nI (r.length + 1) := h22
      have hl : r.length + 1 ≤ 8 := hl
      have h7 : t.1 6 r.length = nI q := h6 _ q (by rw [List.reverse_cons, List.getElem?_append_right (by simp), List.length_reverse]; simp)
      rw [h22, if_neg (nI_ne0 (by omega) (by omega)), kgi (kin (by omega) (by decide)), nI_clamp (by omega), (hM.2.1 p hp).1]
      by_cases h0 : T 1 p = 0
      · rw [if_pos (by rw [h0]; rfl)]; simp [tlp, h0]
      · have hnx := w.next hq
        rw [if_neg (neL 0 h0 rfl (by omega) (by decide)), nI_pred, kgi (kin (by omega) (by decide)), nI_clamp (by omega), h7, kgi (kin (by omega) (by decide)), nI_clamp (by omega), (hM.2.1 q hq).2, fMbit (by omega) (by omega)]
        by_cases hb : (T 2 q).testBit p = true
        · rw [if_neg (k_bne hb)]; simp [tlp, h0, hb]
        · simp only [Bool.not_eq_true] at hb
          rw [if_pos (k_beq hb)]; simp [tlp, hb]
  unfold f_M_fitsOn
  rw [h25, fMbit hS (by omega), h23, fMbit (by omega) (by omega)]
  by_cases hb : S.testBit p = true
  · rw [if_neg (k_bne hb)]
    by_cases hu : (us rp).testBit p = true
    · rw [if_neg (k_bne hu)]
      cases rp with
      | nil => simp [us, ta_bits] at hu
      | cons q r => simp [fitp, ta_fit, hu]
    · simp only [Bool.not_eq_true] at hu
      rw [if_pos (k_beq hu), kgi (kin (by omega) (by decide)), nI_clamp (by omega), (hM.2.1 p hp).1, tail, h24, hM.1 0 (by omega)]
      by_cases h2 : T 1 p = 2
      · rw [if_pos (by rw [h2]; rfl)]
        by_cases hkk : kg T rp = T 0 0
        · rw [if_pos (by rw [hkk])]
          cases rp with
          | nil => simp [fitp, ta_fit0, h2]
          | cons q r => simp [fitp, ta_fit, h2, hkk]
        · rw [if_neg (fun e => hkk (nI_inj (by omega) (by omega) e))]
          cases rp with
          | nil => simp [fitp, tlp, ta_fit0, h2]
          | cons q r => simp [fitp, tlp, ta_fit, h2, hkk, hb, hu]
      · rw [if_neg (neL 2 h2 rfl (by omega) (by decide))]
        cases rp with
        | nil => simp [fitp, tlp, ta_fit0, hb]
        | cons q r =>
          have h2' : (T 1 p == 2) = false := by simp [h2]
          simp [fitp, tlp, ta_fit, h2', hb, hu]
  · simp only [Bool.not_eq_true] at hb
    rw [if_pos (k_beq hb)]
    cases rp with
    | nil => simp [fitp, ta_fit0, hb]
    | cons q r => simp [fitp, ta_fit, hb]
theorem bit_off : ∀ s, s < 256 → ∀ q, q < 8 → s.testBit q = false → (s ||| 2 ^ q) &&& (2 ^ q ^^^ 4294967295) = s := by decide +kernel
theorem Ps.inc {T : t_D} {S : Nat} {t : k_St} {rp : List Nat} {c : Nat} (h : Ps T S t rp c) (c2 : Nat) : Ps T S (k_sI t 6 rp.length (nI c2)) rp c2 := by
  obtain ⟨hM, h25, h22, h23, h24, h6, h66, hok⟩ := h
  refine ⟨hM.mw (mw.set6 t _ _), by rw [sI1, if_neg (by omega)]; exact h25, by rw [sI1, if_neg (by omega)]; exact h22, by rw [sI1, if_neg (by omega)]; exact h23, by rw [sI1, if_neg (by omega)]; exact h24, fun i p hi => ?_, by rw [sI1, if_pos ⟨rfl, rfl⟩], hok⟩
  have : i < rp.reverse.length := (List.getElem?_eq_some_iff.mp hi).1
  rw [List.length_reverse] at this
  rw [sI1, if_neg (by omega)]
  exact h6 i p hi
/-- a piece more -/
theorem Ps.push {T : t_D} {S : Nat} {t u : k_St} {rp : List Nat} {p : Nat} (h : Ps T S t rp p) (hp : p < T 0 2) (hu : (us rp).testBit p = false) (hw : mw t u) (h22 : u.1 0 22 = nI (rp.length + 1)) (h23 : u.1 0 23 = nI (us rp ||| 2 ^ p)) (h24 : u.1 0 24 = nI (if T 1 p = 2 then kg T rp + 1 else kg T rp)) (h6 : ∀ i, i ≤ rp.length → u.1 6 i = t.1 6 i) (h66 : u.1 6 (rp.length + 1) = nI 0) : Ps T S u (p :: rp) 0 := by
  obtain ⟨gM, g25, g22, g23, g24, g6, g66, gok⟩ := h
  refine ⟨gM.mw hw, by rw [hw.2 0 25 (by omega) (by omega)]; exact g25, h22, by rw [us_cons]; exact h23, by rw [kg_cons]; exact h24, fun i q hi => ?_, h66, ⟨hp, hu, gok⟩⟩
  rw [List.reverse_cons] at hi
  have hlt : i < (rp.reverse ++ [p]).length := (List.getElem?_eq_some_iff.mp hi).1
  simp only [List.length_append, List.length_reverse, List.length_cons, List.length_nil] at hlt
  rw [h6 i (by omega)]
  rcases Nat.lt_or_ge i rp.length with h | h
  · rw [List.getElem?_append_left (by rw [List.length_reverse]; exact h)] at hi
    exact g6 i q hi
  · have e : i = rp.length := by omega
    subst e
    rw [List.getElem?_append_right (by rw [List.length_reverse]; exact Nat.le_refl _), List.length_reverse, Nat.sub_self] at hi
    simp at hi
    rw [g66, hi]
theorem ftakesBack {T : t_D} (w : Tw T) {S : Nat} {t : k_St} {q : Nat} {rp : List Nat} {c : Nat} (h : Ps T S t (q :: rp) c) : ∃ u, f_M_takesBack t = some u ∧ Ps T S u rp (q + 1) ∧ mw t u := by
  obtain ⟨hM, h25, h22, h23, h24, h6, h66, hok⟩ := h
  have hl := ok_len w hok
  have hP := w.1.2
  have hq := hok.1
  have hk := (w.2.2.2.2.2.2.2.2.1 q hq).1
  have hus := (ok_pc w rp hok.2.2).1
  have hkg := kg_le T rp
  rw [List.length_cons] at hl h22
  have h7 : t.1 6 rp.length = nI q := h6 _ q (by rw [List.reverse_cons, List.getElem?_append_right (by simp), List.length_reverse]; simp)
  have h6' : ∀ i p, rp.reverse[i]? = some p → t.1 6 i = nI p := by
    intro i p hi
    apply h6
    rw [List.reverse_cons, List.getElem?_append_left (List.getElem?_eq_some_iff.mp hi).1]
    exact hi
  unfold f_M_takesBack
  rw [klt]
  have e22 : (k_sI t 0 22 (t.1 0 22 - 1)).1 0 22 = nI rp.length := by rw [sI1, if_pos ⟨rfl, rfl⟩, h22, nI_pred]
  have e6 : (k_sI t 0 22 (t.1 0 22 - 1)).1 6 rp.length = nI q := by rw [sI1, if_neg (by omega), h7]
  rw [e22, kgi (kin (by omega) (by decide)), nI_clamp (by omega), e6, klt, klt, kgi (kin (by omega) (by decide))]
  have e23 : (k_sI t 0 22 (t.1 0 22 - 1)).1 0 23 = nI (us rp ||| 2 ^ q) := by rw [sI1, if_neg (by omega), h23, us_cons]
  rw [e23, nI_shl q (by omega), nI_m1, nI_xor, nI_and, bit_off (us rp) hus q (by omega) hok.2.1, nI_clamp (by omega : q < 2 ^ 31)]
  generalize hu : k_sI (k_sI t 0 22 (t.1 0 22 - 1)) 0 23 (nI (us rp)) = u
  have mu : mw t u := by rw [← hu]; exact (mw.set0 _ _ _ (by omega)).tr (mw.set0 _ _ _ (by omega))
  have u22 : u.1 0 22 = nI rp.length := by rw [← hu, sI1, if_neg (by omega), e22]
  have u23 : u.1 0 23 = nI (us rp) := by rw [← hu, sI1, if_pos ⟨rfl, rfl⟩]
  have u24 : u.1 0 24 = nI (kg T (q :: rp)) := by rw [← hu, sI1, if_neg (by omega), sI1, if_neg (by omega), h24]
  have u6 : ∀ i, u.1 6 i = t.1 6 i := fun i => by rw [← hu, sI1, if_neg (by omega), sI1, if_neg (by omega)]
  have uM := hM.mw mu
  rw [(uM.2.1 q hq).1]
  have fin : ∀ v : k_St, mw u v → v.1 0 22 = nI rp.length → v.1 0 23 = nI (us rp) → v.1 0 24 = nI (kg T rp) → (∀ i, v.1 6 i = u.1 6 i) → Ps T S (k_sI v 6 rp.length (nI (q + 1))) rp (q + 1) ∧ mw t (k_sI v 6 rp.length (nI (q + 1))) := by
    intro v mv v22 v23 v24 v6
    refine ⟨Ps.inc (c := q) ⟨uM.mw mv, by rw [mv.2 0 25 (by omega) (by omega), mu.2 0 25 (by omega) (by omega)]; exact h25, v22, v23, v24, fun i p hi => by rw [v6, u6]; exact h6' i p hi, by rw [v6, u6]; exact h7, hok.2.2⟩ (q + 1), (mu.tr mv).tr (mw.set6 _ _ _)⟩
  by_cases h2 : T 1 q = 2
  · rw [if_pos (by rw [h2]; rfl), klt]
    have v22 : (k_sI u 0 24 (u.1 0 24 - 1)).1 0 22 = nI rp.length := by rw [sI1, if_neg (by omega), u22]
    have v24 : (k_sI u 0 24 (u.1 0 24 - 1)).1 0 24 = nI (kg T rp) := by rw [sI1, if_pos ⟨rfl, rfl⟩, u24, kg_cons, if_pos h2, nI_pred]
    rw [v22, kgi (kin (by omega) (by decide)), klt, nI_clamp (by omega), nI_1]
    have := fin (k_sI u 0 24 (u.1 0 24 - 1)) (mw.set0 _ _ _ (by omega)) v22 (by rw [sI1, if_neg (by omega), u23]) v24 (fun i => by rw [sI1, if_neg (by omega)])
    exact ⟨_, rfl, this⟩
  · rw [if_neg (neL 2 h2 rfl (by omega) (by decide)), klt]
    have v22 : (k_sI u 0 24 (u.1 0 24 - 0)).1 0 22 = nI rp.length := by rw [sI1, if_neg (by omega), u22]
    have v24 : (k_sI u 0 24 (u.1 0 24 - 0)).1 0 24 = nI (kg T rp) := by rw [sI1, if_pos ⟨rfl, rfl⟩, u24, kg_cons, if_neg h2, Int32.sub_zero]
    rw [v22, kgi (kin (by omega) (by decide)), klt, nI_clamp (by omega), nI_1]
    have := fin (k_sI u 0 24 (u.1 0 24 - 0)) (mw.set0 _ _ _ (by omega)) v22 (by rw [sI1, if_neg (by omega), u23]) v24 (fun i => by rw [sI1, if_neg (by omega)])
    exact ⟨_, rfl, this⟩
