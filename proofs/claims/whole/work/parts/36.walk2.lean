/-! ===== what the reference tells of TALES ===== -/
abbrev big (n : Nat) : Prop := 2000000000 ≤ n
def Aw (T : t_D) (S : Nat) (t : k_St) (R : List (List Nat)) : Prop := (∃ rp c, Ps T S t rp c ∧ c ≤ T 0 2 ∧ whp T rp = false ∧ ta_rem T S rp c = R) ∨ ∃ q rp, Ps T S t (q :: rp) 0 ∧ whp T (q :: rp) = true ∧ ta_rem T S rp (q + 1) = R
/-- the walk stands at a row -/
def Hs (t : k_St) (r : List Nat) : Prop := t.1 0 22 = nI r.length ∧ t.1 0 23 = nI (ta_bits r) ∧ ∀ i p, r[i]? = some p → t.1 6 i = nI p
theorem fnextTale {T : t_D} (w : Tw T) {S : Nat} (hS : S < 2 ^ 31) {n : Nat} (hn : big n) {t : k_St} {R : List (List Nat)} (h : Aw T S t R) :
    (R = [] → ∃ u, f_M_nextTale n t = some (false, u) ∧ mw t u) ∧ (∀ r R', R = r :: R' → ∃ u, f_M_nextTale n t = some (true, u) ∧ mw t u ∧ Aw T S u R' ∧ Hs u r) := by
  have key : ∀ (rp : List Nat) (c : Nat) (v : k_St), Ps T S v rp c → c ≤ T 0 2 → ta_rem T S rp c = R → mw t v → (R = [] → ∃ u, f_M_nextTale_11 n n v = some (false, u) ∧ mw t u) ∧ (∀ r R', R = r :: R' → ∃ u, f_M_nextTale_11 n n v = some (true, u) ∧ mw t u ∧ Aw T S u R' ∧ Hs u r) := by
    intro rp c v hv hc hR hm
    have hle := mu_le w hv.2.2.2.2.2.2.2 c
    obtain ⟨i1, i2⟩ := fnext11 w hS (n := n) n rp c v hv hc (by omega)
    refine ⟨fun e => ?_, fun r R' e => ?_⟩
    · obtain ⟨u, a, b⟩ := i1 (hR.trans e)
      exact ⟨u, a, hm.tr b⟩
    · obtain ⟨u, q, rp', a, b1, b2, b3, b4, b5⟩ := i2 r R' (hR.trans e)
      refine ⟨u, a, hm.tr b5, Or.inr ⟨q, rp', b1, b3, b4⟩, ?_⟩
      rw [b2]
      exact ⟨by rw [List.length_reverse]; exact b1.2.2.1, b1.2.2.2.1, b1.2.2.2.2.2.1⟩
  unfold f_M_nextTale
  rcases h with ⟨rp, c, h1, h2, h3, h4⟩ | ⟨q, rp, h1, h3, h4⟩
  · rw [fisWhole w h1, kcp, if_pos (k_beq h3)]
    exact key rp c t h1 h2 h4 (mw.rf t)
  · rw [fisWhole w h1, kcp, if_neg (k_bne h3)]
    obtain ⟨u, e1, e2, e3⟩ := ftakesBack w h1
    rw [e1, kcv]
    exact key rp (q + 1) u e2 (by have := h1.2.2.2.2.2.2.2.1; omega) h4 e3
/-- what the calls about TALES leave alone -/
def mz (t u : k_St) : Prop := u.2 = t.2 ∧ ∀ o k, ¬ (o = 0 ∧ 22 ≤ k ∧ k ≤ 25) → o ≠ 6 → o ≠ 7 → u.1 o k = t.1 o k
theorem mz.rf (t : k_St) : mz t t := ⟨rfl, fun _ _ _ _ _ => rfl⟩
theorem mz.tr {t u v : k_St} (h : mz t u) (g : mz u v) : mz t v := ⟨g.1.trans h.1, fun o k a b c => (g.2 o k a b c).trans (h.2 o k a b c)⟩
theorem mw.mz {t u : k_St} (h : mw t u) : mz t u := ⟨h.1, fun o k a b _ => h.2 o k (by omega) b⟩
theorem mz.set0 (t : k_St) (j : Nat) (x : Int32) (h : 22 ≤ j ∧ j ≤ 25) : mz t (k_sI t 0 j x) := ⟨rfl, fun o k a b c => by rw [sI1, if_neg (by omega)]⟩
theorem mz.set6 (t : k_St) (j : Nat) (x : Int32) : mz t (k_sI t 6 j x) := ⟨rfl, fun o k a b c => by rw [sI1, if_neg (by omega)]⟩
theorem mz.set7 (t : k_St) (j : Nat) (x : Int32) : mz t (k_sI t 7 j x) := ⟨rfl, fun o k a b c => by rw [sI1, if_neg (by omega)]⟩
theorem MTT.mz {T : t_D} {t u : k_St} (h : MTT T t) (e : mz t u) : MTT T u := h.same (fun o k a b => e.2 o k (by omega) (by omega) (by omega))
theorem fstartsTales {T : t_D} {t : k_St} (h : MTT T t) (S : Nat) : ∃ u, f_M_startsTales (nI S) t = some u ∧ mz t u ∧ Aw T S u (ta_all T S) := by
  unfold f_M_startsTales
  rw [klt, klt, klt, klt, kgi (by decide), klt]
  refine ⟨_, rfl, ?_, ?_⟩
  · exact ((((mz.set0 _ _ _ (by omega)).tr (mz.set0 _ _ _ (by omega))).tr (mz.set0 _ _ _ (by omega))).tr (mz.set0 _ _ _ (by omega))).tr (mz.set6 _ _ _)
  · refine Or.inl ⟨[], 0, ⟨?_, ?_, ?_, ?_, ?_, ?_, ?_, trivial⟩, Nat.zero_le _, rfl, ta_rem_all T S⟩
    · exact h.mz (((((mz.set0 _ _ _ (by omega)).tr (mz.set0 _ _ _ (by omega))).tr (mz.set0 _ _ _ (by omega))).tr (mz.set0 _ _ _ (by omega))).tr (mz.set6 _ _ _))
    · rw [sI1, if_neg (by simp), sI1, if_neg (by simp), sI1, if_neg (by simp), sI1, if_neg (by simp), sI1, if_pos ⟨rfl, rfl⟩]
    · rw [sI1, if_neg (by simp), sI1, if_neg (by simp), sI1, if_neg (by simp), sI1, if_pos ⟨rfl, rfl⟩]; rfl
    · rw [sI1, if_neg (by simp), sI1, if_neg (by simp), sI1, if_pos ⟨rfl, rfl⟩]; rfl
    · rw [sI1, if_neg (by simp), sI1, if_pos ⟨rfl, rfl⟩]; rfl
    · intro i p hi; simp at hi
    · rw [sI1, if_pos ⟨rfl, rfl⟩]; rfl
theorem fhasTale {T : t_D} (w : Tw T) {S : Nat} (hS : S < 2 ^ 31) {n : Nat} (hn : big n) {t : k_St} (h : MTT T t) : ∃ u, f_M_hasTale n (nI S) t = some (!(ta_all T S).isEmpty, u) ∧ mz t u := by
  obtain ⟨u, e, hm, hA⟩ := fstartsTales h S
  unfold f_M_hasTale
  rw [e, kcv]
  obtain ⟨i1, i2⟩ := fnextTale w hS hn hA
  cases hL : ta_all T S with
  | nil =>
    obtain ⟨v, a, b⟩ := i1 hL
    rw [a, kcl]
    exact ⟨v, rfl, hm.tr b.mz⟩
  | cons r R =>
    obtain ⟨v, a, b, -, -⟩ := i2 r R hL
    rw [a, kcl]
    exact ⟨v, rfl, hm.tr b.mz⟩
theorem ftellsAll7 {T : t_D} (w : Tw T) {S : Nat} (hS : S < 2 ^ 31) {n : Nat} (hn : big n) : ∀ (R : List (List Nat)) (k c : Nat) (t : k_St), Aw T S t R → R.length < k → ∃ u, f_M_tellsAll_7 n k (nI c) t = some (nI (c + R.length), u) ∧ mw t u := by
  intro R
  induction R with
  | nil =>
    intro k c t h hk
    obtain ⟨k, rfl⟩ : ∃ k', k = k' + 1 := ⟨k - 1, by simp at hk; omega⟩
    obtain ⟨u, a, b⟩ := (fnextTale w hS hn h).1 rfl
    rw [f_M_tellsAll_7, a, kcl, if_pos (by decide)]
    exact ⟨u, rfl, b⟩
  | cons r R ih =>
    intro k c t h hk
    rw [List.length_cons] at hk
    obtain ⟨k, rfl⟩ : ∃ k', k = k' + 1 := ⟨k - 1, by omega⟩
    obtain ⟨u, a, b, hA, -⟩ := (fnextTale w hS hn h).2 r R rfl
    rw [f_M_tellsAll_7, a, kcl, if_neg (by decide), klt, nI_1]
    obtain ⟨v, e, hm⟩ := ih k (c + 1) u hA (by omega)
    refine ⟨v, ?_, b.tr hm⟩
    rw [e, List.length_cons, show c + 1 + R.length = c + (R.length + 1) by omega]
theorem ftellsAll {T : t_D} (w : Tw T) {S : Nat} (hS : S < 2 ^ 31) {n : Nat} (hn : big n) {t : k_St} (h : MTT T t) : ∃ u, f_M_tellsAll n (nI S) t = some (nI (ta_all T S).length, u) ∧ mz t u := by
  obtain ⟨u, e, hm, hA⟩ := fstartsTales h S
  have hl := ta_all_len w S
  unfold f_M_tellsAll
  rw [e, kcv]
  obtain ⟨v, e2, hm2⟩ := ftellsAll7 w hS hn _ n 0 u hA (by omega)
  rw [Nat.zero_add] at e2
  exact ⟨v, e2, hm.tr hm2.mz⟩
theorem flongest32 {n : Nat} {rec7 : Int32 → k_St → Option (Int32 × k_St)} (r : List Nat) (hr : r.length ≤ 8) : ∀ (k i x : Nat) (t : k_St), i ≤ r.length → r.length - i < k → Hs t r → ∃ u, f_M_longestOf_32 n rec7 k (nI x) (nI i) t = rec7 (nI x) u ∧ (∀ o j, o ≠ 7 → u.1 o j = t.1 o j) ∧ u.2 = t.2 ∧ (∀ j p, r[j]? = some p → u.1 7 j = if j < i then t.1 7 j else nI p) := by
  intro k
  induction k with
  | zero => intro i x t _ h; omega
  | succ k ih =>
    intro i x t hi hk hH
    rw [f_M_longestOf_32]
    rcases Nat.lt_or_ge i r.length with h | h
    · rw [if_neg (by rw [hH.1]; exact nI_ge h (by omega)), kgi (kin (by omega) (by decide)), kgi (kin (by omega) (by decide)), klt, klt, nI_1, nI_clamp (by omega)]
      have e6 : t.1 6 i = nI r[i] := hH.2.2 i _ (List.getElem?_eq_getElem h)
      obtain ⟨u, a, b1, b2, b3⟩ := ih (i + 1) x (k_sI t 7 i (t.1 6 i)) (by omega) (by omega) ⟨by rw [sI1, if_neg (by simp)]; exact hH.1, by rw [sI1, if_neg (by simp)]; exact hH.2.1, fun j p hj => by rw [sI1, if_neg (by simp)]; exact hH.2.2 j p hj⟩
      refine ⟨u, a, fun o j ho => by rw [b1 o j ho, sI1, if_neg (by omega)], b2, fun j p hj => ?_⟩
      rw [b3 j p hj]
      by_cases h1 : j < i
      · rw [if_pos h1, if_pos (by omega), sI1, if_neg (by omega)]
      · rw [if_neg h1]
        by_cases h2 : j = i
        · subst h2
          rw [if_pos (by omega), sI1, if_pos ⟨rfl, rfl⟩, e6]
          rw [List.getElem?_eq_getElem h] at hj
          cases hj; rfl
        · rw [if_neg (by omega)]
    · rw [if_pos (by rw [hH.1]; exact nI_le (by omega) (by omega))]
      refine ⟨t, rfl, fun _ _ _ => rfl, rfl, fun j p hj => ?_⟩
      have := (List.getElem?_eq_some_iff.mp hj).1
      rw [if_pos (by omega)]
theorem Aw.best {T : t_D} {S : Nat} {t u : k_St} {R : List (List Nat)} (h : Aw T S t R) (e : ∀ o j, o ≠ 7 → u.1 o j = t.1 o j) : Aw T S u R := by
  have key : ∀ rp c, Ps T S t rp c → Ps T S u rp c := by
    rintro rp c ⟨hM, h25, h22, h23, h24, h6, h66, hok⟩
    exact ⟨hM.same (fun o k a b => e o k (by omega)), by rw [e 0 25 (by omega)]; exact h25, by rw [e 0 22 (by omega)]; exact h22, by rw [e 0 23 (by omega)]; exact h23, by rw [e 0 24 (by omega)]; exact h24, fun i p hi => by rw [e 6 i (by omega)]; exact h6 i p hi, by rw [e 6 _ (by omega)]; exact h66, hok⟩
  rcases h with ⟨rp, c, h1, h2, h3, h4⟩ | ⟨q, rp, h1, h3, h4⟩
  · exact Or.inl ⟨rp, c, key _ _ h1, h2, h3, h4⟩
  · exact Or.inr ⟨q, rp, key _ _ h1, h3, h4⟩
theorem flongest7 {T : t_D} (w : Tw T) {S : Nat} (hS : S < 2 ^ 31) {n : Nat} (hn : big n) : ∀ (R : List (List Nat)) (k : Nat) (b : List Nat) (t : k_St), (∀ r ∈ R, ta_row T r) → b.length ≤ 8 → Aw T S t R → R.length < k → (∀ i p, b[i]? = some p → t.1 7 i = nI p) → ∃ u, f_M_longestOf_7 n k (nI b.length) t = some (nI (R.foldl ta_lgf b).length, u) ∧ mz t u ∧ ∀ i p, (R.foldl ta_lgf b)[i]? = some p → u.1 7 i = nI p := by
  intro R
  induction R with
  | nil =>
    intro k b t _ _ h hk hb
    obtain ⟨k, rfl⟩ : ∃ k', k = k' + 1 := ⟨k - 1, by simp at hk; omega⟩
    obtain ⟨u, a, hm⟩ := (fnextTale w hS hn h).1 rfl
    rw [f_M_longestOf_7, a, kcl, if_pos (by decide)]
    exact ⟨u, rfl, hm.mz, fun i p hi => by rw [hm.2 7 i (by omega) (by omega)]; exact hb i p hi⟩
  | cons r R ih =>
    intro k b t hR hb8 h hk hb
    rw [List.length_cons] at hk
    obtain ⟨k, rfl⟩ : ∃ k', k = k' + 1 := ⟨k - 1, by omega⟩
    have hr := hR r (by simp)
    have hr8 := hr.2.1
    obtain ⟨u, a, hm, hA, hH⟩ := (fnextTale w hS hn h).2 r R rfl
    rw [f_M_longestOf_7, a, kcl, if_neg (by decide), hH.1, List.foldl_cons]
    by_cases hlt : b.length < r.length
    · rw [if_pos (nI_lt hlt (by omega)), klt, show ta_lgf b r = r from if_pos hlt]
      obtain ⟨v, e1, e2, e3, e4⟩ := flongest32 (n := n) (rec7 := f_M_longestOf_7 n k) r hr8 n 0 r.length u (by omega) (by omega) hH
      rw [show (0 : Int32) = nI 0 from rfl, e1]
      obtain ⟨x, g1, g2, g3⟩ := ih k r v (fun q hq => hR q (by simp [hq])) hr8 (hA.best e2) (by omega) (fun i p hi => by rw [e4 i p hi, if_neg (by omega)])
      exact ⟨x, g1, (hm.mz.tr ⟨e3, fun o j _ _ c => e2 o j c⟩).tr g2, g3⟩
    · rw [if_neg (nI_nlt (by omega) (by omega)), show ta_lgf b r = b from if_neg hlt]
      obtain ⟨x, g1, g2, g3⟩ := ih k b u (fun q hq => hR q (by simp [hq])) hb8 hA (by omega) (fun i p hi => by rw [hm.2 7 i (by omega) (by omega)]; exact hb i p hi)
      exact ⟨x, g1, hm.mz.tr g2, g3⟩
theorem fMlongestOf {T : t_D} (w : Tw T) {S : Nat} (hS : S < 2 ^ 31) {n : Nat} (hn : big n) {t : k_St} (h : MTT T t) : ∃ u, f_M_longestOf n (nI S) t = some (nI (ta_lg (ta_all T S)).length, u) ∧ mz t u ∧ ∀ i p, (ta_lg (ta_all T S))[i]? = some p → u.1 7 i = nI p := by
  obtain ⟨u, e, hm, hA⟩ := fstartsTales h S
  have hl := ta_all_len w S
  unfold f_M_longestOf
  rw [e, kcv]
  obtain ⟨v, e2, hm2, e3⟩ := flongest7 w hS hn _ n [] u (fun r hr => ta_all_row w hr) (by simp) hA (by omega) (fun i p hi => by simp at hi)
  exact ⟨v, e2, hm.tr hm2, e3⟩
