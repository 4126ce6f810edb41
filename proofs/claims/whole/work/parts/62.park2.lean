/-! ===== the class's park, opened ===== -/
def xp (x y : k_St) : Prop := (∀ o k, ¬ (o = 24 ∧ k = 2) → o ≠ 25 → y.1 o k = x.1 o k) ∧ y.2 = x.2
theorem xp.rf (x : k_St) : xp x x := ⟨fun _ _ _ _ => rfl, rfl⟩
theorem xp.tr {x y z : k_St} (h : xp x y) (g : xp y z) : xp x z := ⟨fun o k a b => (g.1 o k a b).trans (h.1 o k a b), g.2.trans h.2⟩
def BX (t : k_St) (L : List Nat) : Prop := t.1 24 2 = nI L.length ∧ ∀ r w, L[r]? = some w → t.1 25 r = nI w
def pfg (N d h m w : Nat) : Nat → List Nat := fun g => if m.testBit g then [] else pf N d (h + 1) (m ||| 2 ^ g) ((w ||| g * 16 ^ h) ||| h * 16 ^ g)
theorem fpair61 {n N d h m w : Nat} (hN : N ≤ 5) (hh : h < N) (hm : m < 32) {self : Int32 → Int32 → Int32 → k_St → Option k_St}
    (hself : ∀ (m w : Nat) (L : List Nat) (t : k_St), m < 32 → L.length + (pf N d (h + 1) m w).length ≤ 26 → t.1 24 3 = nI N → BX t L → ∃ u, self (nI (h + 1)) (nI m) (nI w) t = some u ∧ xp t u ∧ BX u (L ++ pf N d (h + 1) m w)) :
    ∀ (f g : Nat) (L : List Nat) (t : k_St), g ≤ N → N - g < f → L.length + ((List.range' g (N - g)).flatMap (pfg N d h m w) ++ pf N d (h + 1) m (w ||| 15 * 16 ^ h)).length ≤ 26 → t.1 24 3 = nI N → BX t L → ∃ u, f_Pa_pairFrom_61 n self f (nI h) (nI m) (nI w) (nI g) t = some u ∧ xp t u ∧ BX u (L ++ ((List.range' g (N - g)).flatMap (pfg N d h m w) ++ pf N d (h + 1) m (w ||| 15 * 16 ^ h))) := by
  intro f
  induction f with
  | zero => intro g L t _ h; omega
  | succ f ih =>
    intro g L t hg hf hL h3 hB
    rw [f_Pa_pairFrom_61, h3]
    rcases Nat.lt_or_ge g N with hlt | hge
    · rw [show N - g = (N - (g + 1)) + 1 by omega, List.range'_succ, List.flatMap_cons, List.append_assoc, List.length_append] at hL
      rw [show N - g = (N - (g + 1)) + 1 by omega, List.range'_succ, List.flatMap_cons, List.append_assoc, if_neg (nI_ge hlt (by omega))]
      by_cases hb : m.testBit g = true
      · have e : pfg N d h m w g = [] := if_pos hb
        rw [if_neg (fun q => by rw [nI_bit0 (by omega) (by omega), hb] at q; simp at q), klt, nI_1, e]
        rw [e] at hL
        exact ih (g + 1) L t (by omega) (by omega) (by simpa using hL) h3 hB
      · have hb' : m.testBit g = false := by simpa using hb
        have e : pfg N d h m w g = pf N d (h + 1) (m ||| 2 ^ g) ((w ||| g * 16 ^ h) ||| h * 16 ^ g) := if_neg hb
        rw [e] at hL ⊢
        have h2 : 2 ^ g < 2 ^ 5 := Nat.pow_lt_pow_right (by omega) (by omega)
        obtain ⟨u, a, b, c⟩ := hself (m ||| 2 ^ g) ((w ||| g * 16 ^ h) ||| h * 16 ^ g) L t (Nat.or_lt_two_pow (n := 5) hm h2) (by omega) h3 hB
        obtain ⟨v, a2, b2, c2⟩ := ih (g + 1) _ u (by omega) (by omega) (by rw [List.length_append]; omega) (by rw [b.1 24 3 (by omega) (by omega)]; exact h3) c
        rw [if_pos (by rw [nI_bit0 (by omega) (by omega)]; exact hb'), nI_shl g (by omega), nI_or, nI_nib g (by omega) h (by omega), nI_nib h (by omega) g (by omega), nI_or, nI_or, nI_1, a, kcv, klt, nI_1, a2]
        exact ⟨v, rfl, b.tr b2, by rw [← List.append_assoc]; exact c2⟩
    · rw [if_pos (nI_le hge (by omega)), show N - g = 0 by omega]
      rw [show N - g = 0 by omega] at hL
      obtain ⟨u, a, b, c⟩ := hself m (w ||| 15 * 16 ^ h) L t hm (by simpa using hL) h3 hB
      rw [l15, nI_nib 15 (by omega) h (by omega), nI_or, nI_1, a, kcv]
      exact ⟨u, rfl, b, by simpa using c⟩
theorem fpair {n N : Nat} (hn : 200 ≤ n) (hN : N ≤ 5) : ∀ (d h m w : Nat) (L : List Nat) (t : k_St), h ≤ N → N - h < d → m < 32 → L.length + (pf N d h m w).length ≤ 26 → t.1 24 3 = nI N → BX t L → ∃ u, f_Pa_pairFrom n d (nI h) (nI m) (nI w) t = some u ∧ xp t u ∧ BX u (L ++ pf N d h m w) := by
  intro d
  induction d with
  | zero => intro h m w L t _ q; omega
  | succ d ih =>
    intro h m w L t hh hd hm hL h3 hB
    rw [f_Pa_pairFrom, h3]
    rw [pf] at hL ⊢
    rcases Nat.lt_or_ge h N with hlt | hge
    · rw [if_pos hlt] at hL ⊢
      rw [if_pos (nI_lt hlt (by omega))]
      by_cases hb : m.testBit h = true
      · rw [if_pos hb] at hL ⊢
        obtain ⟨u, a, b, c⟩ := ih (h + 1) m w L t (by omega) (by omega) hm hL h3 hB
        rw [if_neg (fun q => by rw [nI_bit0 (by omega) (by omega), hb] at q; simp at q), nI_1, a, kcv]
        exact ⟨u, rfl, b, c⟩
      · have hb' : m.testBit h = false := by simpa using hb
        rw [if_neg hb] at hL ⊢
        rw [if_pos (by rw [nI_bit0 (by omega) (by omega)]; exact hb'), klt, nI_1]
        exact fpair61 hN hlt hm (fun m w L t h1 h2 h3 h4 => ih (h + 1) m w L t (by omega) (by omega) h1 h2 h3 h4) n (h + 1) L t (by omega) (by omega) hL h3 hB
    · rw [if_neg (show ¬ h < N by omega)] at hL ⊢
      simp at hL
      rw [if_neg (nI_nlt (by omega) (by omega)), hB.1, if_neg (show ¬ (26 : Int32) ≤ nI L.length from nI_ge (b := 26) (by omega) (by omega)), kgi (kin (by omega) (by decide)), klt, klt, nI_clamp (by omega)]
      generalize hz : k_sI t 25 L.length (nI w) = z
      have z24 : z.1 24 2 = nI L.length := by rw [← hz, sI1, if_neg (by omega)]; exact hB.1
      rw [z24, nI_1]
      refine ⟨_, rfl, ⟨fun o k a b => by rw [sI1, if_neg (by omega), ← hz, sI1, if_neg (by omega)], by rw [← hz]; rfl⟩, by rw [sI1, if_pos ⟨rfl, rfl⟩, List.length_append]; rfl, fun r q hr => ?_⟩
      rw [sI1, if_neg (by omega), ← hz, sI1]
      by_cases e : r = L.length
      · rw [if_pos ⟨rfl, e⟩]
        rw [e, List.getElem?_append_right (by omega)] at hr
        simp at hr
        rw [hr]
      · have h4 := (List.getElem?_eq_some_iff.mp hr).1
        rw [List.length_append] at h4
        simp at h4
        rw [if_neg (by omega)]
        rw [List.getElem?_append_left (by omega)] at hr
        exact hB.2 r q hr
def PK (T : t_D) (x : k_St) : Prop := x.1 24 2 = nI (wy (T 0 4)).length ∧ x.1 24 3 = nI (T 0 4) ∧ x.1 24 4 = nI (T 0 6) ∧ ∀ r c, (wy (T 0 4))[r]? = some c → x.1 25 r = nI (pkw (T 0 4) c)
theorem PK.same {T : t_D} {x y : k_St} (h : PK T x) (e : ∀ o k, (o = 24 ∧ k ≠ 5) ∨ o = 25 → y.1 o k = x.1 o k) : PK T y := ⟨by rw [e 24 2 (by omega)]; exact h.1, by rw [e 24 3 (by omega)]; exact h.2.1, by rw [e 24 4 (by omega)]; exact h.2.2.1, fun r c hr => by rw [e 25 r (by omega)]; exact h.2.2.2 r c hr⟩
theorem fPopen {T : t_D} (w : Tw T) {n : Nat} (hn : 200 ≤ n) {x : k_St} (hX : XT T x) : ∃ y, f_Pa_open n x = some y ∧ (∀ o k, o ≠ 24 → o ≠ 25 → y.1 o k = x.1 o k) ∧ y.2 = x.2 ∧ PK T y := by
  have h5 := w.2.2.2.2.1
  obtain ⟨p1, p2, p3⟩ := wy_pf (T 0 4) h5
  unfold f_Pa_open
  rw [hX.1 4 (by omega), klt, klt, klt, sI1, if_neg (by omega), hX.1 6 (by omega)]
  generalize hz : k_sI (k_sI (k_sI x 24 3 (nI (T 0 4))) 24 4 (nI (T 0 6))) 24 2 0 = z
  have zk : ∀ o k, o ≠ 24 → z.1 o k = x.1 o k := fun o k a => by rw [← hz, sI1, if_neg (by omega), sI1, if_neg (by omega), sI1, if_neg (by omega)]
  have z3 : z.1 24 3 = nI (T 0 4) := by rw [← hz, sI1, if_neg (by omega), sI1, if_neg (by omega), sI1, if_pos ⟨rfl, rfl⟩]
  have z4 : z.1 24 4 = nI (T 0 6) := by rw [← hz, sI1, if_neg (by omega), sI1, if_pos ⟨rfl, rfl⟩]
  have z2 : z.1 24 2 = 0 := by rw [← hz, sI1, if_pos ⟨rfl, rfl⟩]
  obtain ⟨u, a, b, c⟩ := fpair hn h5 6 0 0 0 [] z (by omega) (by omega) (by omega) (by rw [p1]; simpa using p2) z3 ⟨z2, fun r w hr => by simp at hr⟩
  have a' : f_Pa_pairFrom n 6 0 0 0 z = some u := a
  rw [List.nil_append, p1] at c
  rw [a', kcv]
  refine ⟨u, rfl, fun o k p q => by rw [b.1 o k (by omega) q, zk o k p], b.2.trans (by rw [← hz]; rfl), by rw [c.1, List.length_map], by rw [b.1 24 3 (by omega) (by omega), z3], by rw [b.1 24 4 (by omega) (by omega), z4], fun r q hr => c.2 r _ (by rw [List.getElem?_map, hr]; rfl)⟩
theorem fpartnerBy {T : t_D} (w : Tw T) {x : k_St} (h : PK T x) {r c k : Nat} (hr : (wy (T 0 4))[r]? = some c) (hk : k < T 0 4) : f_Pa_partnerBy x (nI r) (nI k) = some (nI (nib (T 0 4) c k)) := by
  have h5 := w.2.2.2.2.1
  have p2 := (wy_pf (T 0 4) h5).2.1
  have hl := (List.getElem?_eq_some_iff.mp hr).1
  obtain ⟨q1, q2⟩ := wy_nib (T 0 4) h5 c (List.mem_of_getElem? hr)
  unfold f_Pa_partnerBy
  rw [kgi (kin (by omega) (by decide)), nI_clamp (by omega), h.2.2.2 r c hr, l4, pk_mul, nI_shr (by omega) (by omega), l15, nI_and, q2 k hk]
