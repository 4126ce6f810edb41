/-! ===== evenings by draws ===== -/
def dr (sd : Nat) : Nat := (75 * sd + 74) % 65537
theorem dr_lt (sd : Nat) : dr sd < 65537 := Nat.mod_lt _ (by decide)
/-- an evening: what she told as bits, the SEED then, how many -/
def ev (s : Nat) : List Nat → Nat → Nat → Nat → Nat × Nat × Nat
  | [], sd, hd, c => (hd, sd, c)
  | p :: L, sd, hd, c => if dr sd % 100 < s then (hd, dr sd, c) else ev s L (dr sd) (hd ||| 2 ^ p) (c + 1)
theorem ev_acc (s : Nat) : ∀ (L : List Nat) (sd hd c : Nat), (ev s L sd hd c).1 = hd ||| (ev s L sd 0 c).1 ∧ (ev s L sd hd c).2.1 = (ev s L sd 0 c).2.1 ∧ (ev s L sd hd c).2.2 = (ev s L sd 0 c).2.2
  | [], sd, hd, c => by simp [ev]
  | p :: L, sd, hd, c => by
    rw [ev, ev]
    split
    · simp
    · obtain ⟨a1, a2, a3⟩ := ev_acc s L (dr sd) (hd ||| 2 ^ p) (c + 1)
      obtain ⟨b1, b2, b3⟩ := ev_acc s L (dr sd) (0 ||| 2 ^ p) (c + 1)
      refine ⟨?_, a2.trans b2.symm, a3.trans b3.symm⟩
      rw [a1, b1, Nat.zero_or, Nat.or_assoc]
theorem ev_seed (s : Nat) : ∀ (L : List Nat) (sd hd c : Nat), sd < 65537 → (ev s L sd hd c).2.1 < 65537
  | [], sd, hd, c, h => h
  | p :: L, sd, hd, c, h => by
    rw [ev]
    split
    · exact dr_lt sd
    · exact ev_seed s L _ _ _ (dr_lt sd)
theorem ev_heard {P : Nat} (hP : P ≤ 8) (s : Nat) : ∀ (L : List Nat) (sd hd c : Nat), (∀ p ∈ L, p < P) → hd < 2 ^ P → (ev s L sd hd c).1 < 2 ^ P
  | [], sd, hd, c, _, h => h
  | p :: L, sd, hd, c, hL, h => by
    rw [ev]
    split
    · exact h
    · exact ev_heard hP s L _ _ _ (fun q hq => hL q (by simp [hq])) (Nat.or_lt_two_pow h (Nat.pow_lt_pow_right (by omega) (hL p (by simp))))
/-- NOW behind an evening of house h -/
def evv (e : Nat × Nat × Nat) (v : Nat → Nat) (h : Nat) : Nat → Nat := vup (vup v h (v h ||| e.1)) 5 e.2.1
theorem rem100 {a : Nat} (h : a < 2 ^ 31) : nI a - nI a / (100 : Int32) * (100 : Int32) = nI (a % 100) := pk_rem h (by decide) (by decide)
theorem seedX {a : Nat} (h : a < 65537) : ((75 : Int32) * nI a + (74 : Int32)) - ((75 : Int32) * nI a + (74 : Int32)) / (65537 : Int32) * (65537 : Int32) = nI (dr a) := by
  rw [show (75 : Int32) = nI 75 from rfl, show (74 : Int32) = nI 74 from rfl, pk_mul, nI_add]
  exact pk_rem (by omega) (by decide) (by decide)
theorem seedM {a : Nat} (h : a < 65537) : ((((75 : Int64) * lN a) + (74 : Int64)) - (((75 : Int64) * lN a) + (74 : Int64)) / (65537 : Int64) * (65537 : Int64)).toInt32 = nI (dr a) := by
  rw [show (75 : Int64) = lN 75 from rfl, show (74 : Int64) = lN 74 from rfl, lN_mul, lN_add, show (65537 : Int64) = lN 65537 from rfl, pk_lRem (by omega) (by decide) (by decide), lN_i]
  rfl
theorem fanEvV {T : t_D} (w : Tw T) {n h : Nat} (hh : h < 5) {L : List Nat} (hL : L.length ≤ 8) (hp : ∀ p ∈ L, p < T 0 2) : ∀ (k i : Nat) (v : Nat → Nat) (t : k_St), i ≤ L.length → L.length - i + 1 < k → MTT T t → (∀ j, j < 6 → t.1 2 j = nI (v j)) → v 5 < 65537 → v h < 256 → (∀ j p, L[j]? = some p → t.1 7 j = nI p) → ∃ u, f_M_anEveningV_6 n k (nI h) (nI L.length) (nI i) 1 t = some (nI (ev (T 0 1) (L.drop i) (v 5) 0 i).2.2, u) ∧ (∀ o j, o ≠ 2 → u.1 o j = t.1 o j) ∧ u.2 = t.2 ∧ ∀ j, j < 6 → u.1 2 j = nI (evv (ev (T 0 1) (L.drop i) (v 5) 0 i) v h j) := by
  have hP := w.1.2
  have hs := w.2.2.1
  intro k
  induction k with
  | zero => intro i v t _ h; omega
  | succ k ih =>
    intro i v t hi hk g hv h5 hvh hb
    have h55 : (5 : Int32).toNatClampNeg = 5 := by decide
    rw [f_M_anEveningV_6, if_neg (by decide)]
    rcases Nat.lt_or_ge i L.length with hl | hl
    · have hdc : L.drop i = L[i] :: L.drop (i + 1) := List.drop_eq_getElem_cons hl
      have hpi := hp L[i] (List.getElem_mem hl)
      rw [if_neg (nI_ge hl (by omega)), kgi (by decide), kgi (by decide), klt, kgi (by decide), h55, hv 5 (by omega), nI_l (by omega), seedM h5]
      have e5 : (k_sI t 2 5 (nI (dr (v 5)))).1 2 5 = nI (dr (v 5)) := by rw [sI1, if_pos ⟨rfl, rfl⟩]
      have e1 : (k_sI t 2 5 (nI (dr (v 5)))).1 18 1 = nI (T 0 1) := by rw [sI1, if_neg (by omega), g.1 1 (by omega)]
      have hd := dr_lt (v 5)
      rw [e5, e1, rem100 (by omega), hdc, ev]
      by_cases hsl : dr (v 5) % 100 < T 0 1
      · obtain ⟨k, rfl⟩ : ∃ k', k = k' + 1 := ⟨k - 1, by omega⟩
        rw [if_pos (nI_lt hsl (by omega)), if_pos rfl, f_M_anEveningV_6, if_pos rfl, if_pos hsl]
        refine ⟨_, rfl, fun o j ho => by rw [sI1, if_neg (by omega)], rfl, fun j hj => ?_⟩
        rw [sI1]
        unfold evv vup
        by_cases e : j = 5
        · rw [if_pos ⟨rfl, e⟩, if_pos e]
        · rw [if_neg (by omega), if_neg e, hv j hj]
          by_cases e2 : j = h
          · rw [if_pos e2, e2]; simp
          · rw [if_neg e2]
      · rw [if_neg (nI_nlt (by omega) (by omega)), if_neg (by decide), kgi (kin (by omega) (by decide)), kgi (kin (by omega) (by decide)), kgi (kin (by omega) (by decide)), klt, klt, nI_clamp (by omega), nI_clamp (by omega), nI_1, if_neg hsl]
        have eh : (k_sI t 2 5 (nI (dr (v 5)))).1 2 h = nI (v h) := by rw [sI1, if_neg (by omega), hv h (by omega)]
        have eb : (k_sI t 2 5 (nI (dr (v 5)))).1 7 i = nI L[i] := by rw [sI1, if_neg (by omega), hb i _ (List.getElem?_eq_getElem hl)]
        rw [eh, eb, nI_shl _ (by omega), nI_or]
        have h28 : 2 ^ L[i] < 256 := by have : 2 ^ L[i] < 2 ^ 8 := Nat.pow_lt_pow_right (by omega) (by omega); omega
        obtain ⟨u, a, b1, b2, b3⟩ := ih (i + 1) (vup (vup v 5 (dr (v 5))) h (v h ||| 2 ^ L[i])) (k_sI (k_sI t 2 5 (nI (dr (v 5)))) 2 h (nI (v h ||| 2 ^ L[i]))) (by omega) (by omega)
          (g.same (fun o j a b => by rw [sI1, if_neg (by omega), sI1, if_neg (by omega)]))
          (fun j hj => by
            rw [sI1, sI1]
            unfold vup
            by_cases e2 : j = h
            · rw [if_pos ⟨rfl, e2⟩, if_pos e2]
            · rw [if_neg (by omega), if_neg e2]
              by_cases e : j = 5
              · rw [if_pos ⟨rfl, e⟩, if_pos e]
              · rw [if_neg (by omega), if_neg e, hv j hj])
          (by unfold vup; rw [if_neg (by omega), if_pos rfl]; omega) (by unfold vup; rw [if_pos rfl]; exact or256 hvh h28)
          (fun j p hj => by rw [sI1, if_neg (by omega), sI1, if_neg (by omega)]; exact hb j p hj)
        have e6 : vup (vup v 5 (dr (v 5))) h (v h ||| 2 ^ L[i]) 5 = dr (v 5) := by unfold vup; rw [if_neg (by omega), if_pos rfl]
        rw [e6] at a b3
        obtain ⟨c1, c2, c3⟩ := ev_acc (T 0 1) (L.drop (i + 1)) (dr (v 5)) (0 ||| 2 ^ L[i]) (i + 1)
        refine ⟨u, ?_, fun o j ho => by rw [b1 o j ho, sI1, if_neg (by omega), sI1, if_neg (by omega)], b2, fun j hj => ?_⟩
        · rw [a, c3]
        · rw [b3 j hj]
          unfold evv vup
          rw [c1, c2]
          by_cases e2 : j = h
          · subst e2
            have e5 : ¬ j = 5 := by omega
            simp [e5, Nat.or_assoc]
          · by_cases e : j = 5
            · simp [e]
            · simp [e, e2]
    · have hz : L.drop i = [] := List.drop_of_length_le hl
      rw [if_pos (nI_le hl (by omega)), hz, ev]
      refine ⟨t, rfl, fun _ _ _ => rfl, rfl, fun j hj => ?_⟩
      unfold evv vup
      by_cases e : j = 5
      · rw [if_pos e, hv j hj, e]
      · rw [if_neg e, hv j hj]
        by_cases e2 : j = h
        · rw [if_pos e2, e2]; simp
        · rw [if_neg e2]
theorem fanEvX {T : t_D} (w : Tw T) {n h : Nat} (hh : h < 5) {L : List Nat} (hL : L.length ≤ 8) (hp : ∀ p ∈ L, p < T 0 2) : ∀ (k i : Nat) (v : Nat → Nat) (t : k_St), i ≤ L.length → L.length - i + 1 < k → MTT T t → (∀ j, j < 6 → t.1 3 j = nI (v j)) → v 5 < 65537 → v h < 256 → (∀ j p, L[j]? = some p → t.1 7 j = nI p) → ∃ u, f_M_anEveningX_6 n k (nI h) (nI L.length) (nI i) 1 t = some (nI (ev (T 0 1) (L.drop i) (v 5) 0 i).2.2, u) ∧ (∀ o j, o ≠ 3 → u.1 o j = t.1 o j) ∧ u.2 = t.2 ∧ ∀ j, j < 6 → u.1 3 j = nI (evv (ev (T 0 1) (L.drop i) (v 5) 0 i) v h j) := by
  have hP := w.1.2
  have hs := w.2.2.1
  intro k
  induction k with
  | zero => intro i v t _ h; omega
  | succ k ih =>
    intro i v t hi hk g hv h5 hvh hb
    have h55 : (5 : Int32).toNatClampNeg = 5 := by decide
    rw [f_M_anEveningX_6, if_neg (by decide)]
    rcases Nat.lt_or_ge i L.length with hl | hl
    · have hdc : L.drop i = L[i] :: L.drop (i + 1) := List.drop_eq_getElem_cons hl
      have hpi := hp L[i] (List.getElem_mem hl)
      rw [if_neg (nI_ge hl (by omega)), kgi (by decide), kgi (by decide), klt, kgi (by decide), h55, hv 5 (by omega), nI_l (by omega), seedM h5]
      have e5 : (k_sI t 3 5 (nI (dr (v 5)))).1 3 5 = nI (dr (v 5)) := by rw [sI1, if_pos ⟨rfl, rfl⟩]
      have e1 : (k_sI t 3 5 (nI (dr (v 5)))).1 18 1 = nI (T 0 1) := by rw [sI1, if_neg (by omega), g.1 1 (by omega)]
      have hd := dr_lt (v 5)
      rw [e5, e1, rem100 (by omega), hdc, ev]
      by_cases hsl : dr (v 5) % 100 < T 0 1
      · obtain ⟨k, rfl⟩ : ∃ k', k = k' + 1 := ⟨k - 1, by omega⟩
        rw [if_pos (nI_lt hsl (by omega)), if_pos rfl, f_M_anEveningX_6, if_pos rfl, if_pos hsl]
        refine ⟨_, rfl, fun o j ho => by rw [sI1, if_neg (by omega)], rfl, fun j hj => ?_⟩
        rw [sI1]
        unfold evv vup
        by_cases e : j = 5
        · rw [if_pos ⟨rfl, e⟩, if_pos e]
        · rw [if_neg (by omega), if_neg e, hv j hj]
          by_cases e2 : j = h
          · rw [if_pos e2, e2]; simp
          · rw [if_neg e2]
      · rw [if_neg (nI_nlt (by omega) (by omega)), if_neg (by decide), kgi (kin (by omega) (by decide)), kgi (kin (by omega) (by decide)), kgi (kin (by omega) (by decide)), klt, klt, nI_clamp (by omega), nI_clamp (by omega), nI_1, if_neg hsl]
        have eh : (k_sI t 3 5 (nI (dr (v 5)))).1 3 h = nI (v h) := by rw [sI1, if_neg (by omega), hv h (by omega)]
        have eb : (k_sI t 3 5 (nI (dr (v 5)))).1 7 i = nI L[i] := by rw [sI1, if_neg (by omega), hb i _ (List.getElem?_eq_getElem hl)]
        rw [eh, eb, nI_shl _ (by omega), nI_or]
        have h28 : 2 ^ L[i] < 256 := by have : 2 ^ L[i] < 2 ^ 8 := Nat.pow_lt_pow_right (by omega) (by omega); omega
        obtain ⟨u, a, b1, b2, b3⟩ := ih (i + 1) (vup (vup v 5 (dr (v 5))) h (v h ||| 2 ^ L[i])) (k_sI (k_sI t 3 5 (nI (dr (v 5)))) 3 h (nI (v h ||| 2 ^ L[i]))) (by omega) (by omega)
          (g.same (fun o j a b => by rw [sI1, if_neg (by omega), sI1, if_neg (by omega)]))
          (fun j hj => by
            rw [sI1, sI1]
            unfold vup
            by_cases e2 : j = h
            · rw [if_pos ⟨rfl, e2⟩, if_pos e2]
            · rw [if_neg (by omega), if_neg e2]
              by_cases e : j = 5
              · rw [if_pos ⟨rfl, e⟩, if_pos e]
              · rw [if_neg (by omega), if_neg e, hv j hj])
          (by unfold vup; rw [if_neg (by omega), if_pos rfl]; omega) (by unfold vup; rw [if_pos rfl]; exact or256 hvh h28)
          (fun j p hj => by rw [sI1, if_neg (by omega), sI1, if_neg (by omega)]; exact hb j p hj)
        have e6 : vup (vup v 5 (dr (v 5))) h (v h ||| 2 ^ L[i]) 5 = dr (v 5) := by unfold vup; rw [if_neg (by omega), if_pos rfl]
        rw [e6] at a b3
        obtain ⟨c1, c2, c3⟩ := ev_acc (T 0 1) (L.drop (i + 1)) (dr (v 5)) (0 ||| 2 ^ L[i]) (i + 1)
        refine ⟨u, ?_, fun o j ho => by rw [b1 o j ho, sI1, if_neg (by omega), sI1, if_neg (by omega)], b2, fun j hj => ?_⟩
        · rw [a, c3]
        · rw [b3 j hj]
          unfold evv vup
          rw [c1, c2]
          by_cases e2 : j = h
          · subst e2
            have e5 : ¬ j = 5 := by omega
            simp [e5, Nat.or_assoc]
          · by_cases e : j = 5
            · simp [e]
            · simp [e, e2]
    · have hz : L.drop i = [] := List.drop_of_length_le hl
      rw [if_pos (nI_le hl (by omega)), hz, ev]
      refine ⟨t, rfl, fun _ _ _ => rfl, rfl, fun j hj => ?_⟩
      unfold evv vup
      by_cases e : j = 5
      · rw [if_pos e, hv j hj, e]
      · rw [if_neg e, hv j hj]
        by_cases e2 : j = h
        · rw [if_pos e2, e2]; simp
        · rw [if_neg e2]
/-- the class's evening -/
def xe (x y : k_St) : Prop := (∀ o k, o ≠ 33 → y.1 o k = x.1 o k) ∧ y.2 = x.2
theorem fpass30 {T : t_D} (w : Tw T) {n j : Nat} {Ls : List (List Nat)} {L : List Nat} (hR : TR T Ls) (hj : Ls[j]? = some L) (hn : 200 ≤ n) : ∀ (k i sd hd c : Nat) (x : k_St), i ≤ L.length → L.length - i < k → XT T x → TB x Ls → x.1 33 0 = nI sd → x.1 33 1 = nI hd → sd < 65537 → ∃ y, f_Ev_pass_30 n k (nI j) (nI L.length) (nI i) x = some y ∧ xe x y ∧ y.1 33 0 = nI (ev (T 0 1) (L.drop i) sd hd c).2.1 ∧ y.1 33 1 = nI (ev (T 0 1) (L.drop i) sd hd c).1 := by
  have hP := w.1.2
  have hs := w.2.2.1
  have hrow := hR L (List.mem_of_getElem? hj)
  have h8 := hrow.2.1
  intro k
  induction k with
  | zero => intro i sd hd c x _ h; omega
  | succ k ih =>
    intro i sd hd c x hi hk hX hT h0 h1 hsd
    rw [f_Ev_pass_30]
    rcases Nat.lt_or_ge i L.length with hl | hl
    · have hdc : L.drop i = L[i] :: L.drop (i + 1) := List.drop_eq_getElem_cons hl
      have hpi := hrow.2.2.1 L[i] (List.getElem_mem hl)
      have hd2 := dr_lt sd
      rw [if_neg (nI_ge hl (by omega)), klt, h0, seedX hsd]
      have xe1 : xe x (k_sI x 33 0 (nI (dr sd))) := ⟨fun o k ho => by rw [sI1, if_neg (by omega)], rfl⟩
      have hX1 : XT T (k_sI x 33 0 (nI (dr sd))) := hX.same (fun o k a b => xe1.1 o k (by omega))
      have hT1 : TB (k_sI x 33 0 (nI (dr sd))) Ls := hT.same (fun o k a b => xe1.1 o k (by omega))
      have e0 : (k_sI x 33 0 (nI (dr sd))).1 33 0 = nI (dr sd) := by rw [sI1, if_pos ⟨rfl, rfl⟩]
      have e1 : (k_sI x 33 0 (nI (dr sd))).1 33 1 = nI hd := by rw [sI1, if_neg (by omega), h1]
      rw [hX1.1 1 (by omega), e0, rem100 (by omega), hdc, ev]
      by_cases hsl : dr sd % 100 < T 0 1
      · rw [if_neg (nI_ge hsl (by omega)), if_pos hsl]
        exact ⟨_, rfl, xe1, e0, e1⟩
      · rw [if_pos (nI_le (by omega) (by omega)), fpieceAt w hT1 hR hj (List.getElem?_eq_getElem hl) hn, kcp, klt, klt, nI_1, e1, nI_shl _ (by omega), nI_or, if_neg hsl]
        have xe2 : xe x (k_sI (k_sI x 33 0 (nI (dr sd))) 33 1 (nI (hd ||| 2 ^ L[i]))) := ⟨fun o k ho => by rw [sI1, if_neg (by omega)]; exact xe1.1 o k ho, rfl⟩
        obtain ⟨y, a, b, c1, c2⟩ := ih (i + 1) (dr sd) (hd ||| 2 ^ L[i]) (c + 1) _ (by omega) (by omega) (hX.same (fun o k a b => xe2.1 o k (by omega))) (hT.same (fun o k a b => xe2.1 o k (by omega))) (by rw [sI1, if_neg (by omega), e0]) (by rw [sI1, if_pos ⟨rfl, rfl⟩]) hd2
        exact ⟨y, a, ⟨fun o k ho => (b.1 o k ho).trans (xe2.1 o k ho), b.2⟩, c1, c2⟩
    · have hz : L.drop i = [] := List.drop_of_length_le hl
      rw [if_pos (nI_le hl (by omega)), hz, ev]
      exact ⟨x, rfl, ⟨fun _ _ _ => rfl, rfl⟩, h0, h1⟩
/-- the longest TALE of all pieces -/
def lgt (T : t_D) : List Nat := ta_lg (ta_all T (allp T))
theorem ta_all_self {T : t_D} (w : Tw T) : (ta_all T (allp T)).filter (ta_in (allp T)) = ta_all T (allp T) := (ta_all_filter (allp_bit T)).symm
theorem lgt_mem {T : t_D} (w : Tw T) : ∀ p ∈ lgt T, p < T 0 2 := by
  have key : ∀ (R : List (List Nat)) (b : List Nat), (∀ r ∈ R, ta_row T r) → (∀ p ∈ b, p < T 0 2) → ∀ p ∈ R.foldl ta_lgf b, p < T 0 2 := by
    intro R
    induction R with
    | nil => intro b _ hb; exact hb
    | cons r R ih =>
      intro b hR hb
      rw [List.foldl_cons]
      refine ih _ (fun q hq => hR q (by simp [hq])) ?_
      unfold ta_lgf
      split
      · exact (hR r (by simp)).2.2.1
      · exact hb
  exact key _ [] (fun r hr => ta_all_row w hr) (fun p hp => by cases hp)
theorem lgt_len {T : t_D} (w : Tw T) : (lgt T).length ≤ 8 := by
  have key : ∀ (R : List (List Nat)) (b : List Nat), (∀ r ∈ R, ta_row T r) → b.length ≤ 8 → (R.foldl ta_lgf b).length ≤ 8 := by
    intro R
    induction R with
    | nil => intro b _ hb; exact hb
    | cons r R ih =>
      intro b hR hb
      rw [List.foldl_cons]
      refine ih _ (fun q hq => hR q (by simp [hq])) ?_
      unfold ta_lgf
      split
      · exact (hR r (by simp)).2.1
      · exact hb
  exact key _ [] (fun r hr => ta_all_row w hr) (by simp)
theorem fpass {T : t_D} (w : Tw T) {n sd : Nat} {x : k_St} (hn : 200 ≤ n) (hX : XT T x) (hT : TB x (ta_all T (allp T))) (h0 : x.1 33 0 = nI sd) (hsd : sd < 65537) : ∃ y, f_Ev_pass n x = some y ∧ xe x y ∧ y.1 33 0 = nI (ev (T 0 1) (lgt T) sd 0 0).2.1 ∧ y.1 33 1 = nI (ev (T 0 1) (lgt T) sd 0 0).1 := by
  have h256 := w.pow
  have hR : TR T (ta_all T (allp T)) := fun r hr => ta_all_row w hr
  have xe1 : xe x (k_sI x 33 1 0) := ⟨fun o k ho => by rw [sI1, if_neg (by omega)], rfl⟩
  have hX1 : XT T (k_sI x 33 1 0) := hX.same (fun o k a b => xe1.1 o k (by omega))
  have hT1 : TB (k_sI x 33 1 0) (ta_all T (allp T)) := hT.same (fun o k a b => xe1.1 o k (by omega))
  have e0 : (k_sI x 33 1 0).1 33 0 = nI sd := by rw [sI1, if_neg (by omega), h0]
  have e1 : (k_sI x 33 1 0).1 33 1 = nI 0 := by rw [sI1, if_pos ⟨rfl, rfl⟩]; rfl
  obtain ⟨y, e2, hy⟩ := flongestOf hT1 hR (show allp T < 2 ^ 31 by unfold allp; omega) hn
  rw [ta_all_self w] at hy
  unfold f_Ev_pass
  rw [klt, fallPieces w hX1, e2, kcp]
  rcases hy with ⟨rfl, hy⟩ | ⟨j, rfl, hy⟩
  · rw [if_pos rfl]
    have : lgt T = [] := hy
    rw [this, ev]
    exact ⟨_, rfl, xe1, e0, e1⟩
  · have hj : j < 162 := by have := (List.getElem?_eq_some_iff.mp hy).1; have := hT.2.1; omega
    have h8 := (hR _ (List.mem_of_getElem? hy)).2.1
    rw [if_neg (nI_ne_m1 (by omega)), flengthOf hT1 hR hy, kcp]
    obtain ⟨y, a, b, c1, c2⟩ := fpass30 (n := n) w hR hy hn n 0 sd 0 0 _ (by omega) (by omega) hX1 hT1 e0 e1 hsd
    rw [List.drop_zero] at c1 c2
    exact ⟨y, a, ⟨fun o k ho => (b.1 o k ho).trans (xe1.1 o k ho), b.2.trans xe1.2⟩, c1, c2⟩
/-- NOW behind an evening by turns -/
def evn (T : t_D) (v : Nat → Nat) (h : Nat) : Nat → Nat := evv (ev (T 0 1) (lgt T) (v 5) 0 0) v h
theorem evn5 (T : t_D) (v : Nat → Nat) (h : Nat) : evn T v h 5 = (ev (T 0 1) (lgt T) (v 5) 0 0).2.1 := by unfold evn evv vup; rw [if_pos rfl]
theorem evnk (T : t_D) (v : Nat → Nat) (h : Nat) {k : Nat} (hk : k < 5) : evn T v h k = if k = h then v h ||| (ev (T 0 1) (lgt T) (v 5) 0 0).1 else v k := by unfold evn evv vup; rw [if_neg (by omega)]
theorem nvok.evn {T : t_D} (w : Tw T) {v : Nat → Nat} (hv : nvok T v) {h : Nat} (hh : h < T 0 4) : nvok T (evn T v h) := by
  have h5 := w.2.2.2.2.1
  have h1 := ev_heard w.1.2 (T 0 1) (lgt T) (v 5) 0 0 (lgt_mem w) (Nat.pow_pos (by omega))
  have h2 := ev_seed (T 0 1) (lgt T) (v 5) 0 0 hv.2
  refine ⟨fun k hk => ?_, ?_⟩
  · rw [evnk T v h hk]
    by_cases e : k = h
    · rw [if_pos e]
      exact ⟨Nat.or_lt_two_pow (hv.1 h (by omega)).1 h1, fun q => by omega⟩
    · rw [if_neg e]
      exact hv.1 k hk
  · rw [evn5]
    exact h2
theorem fbehindEvening {T : t_D} (w : Tw T) {n k : Nat} {v : Nat → Nat} {x : k_St} (hn : 200 ≤ n) (hX : XT T x) (hT : TB x (ta_all T (allp T))) (h0 : x.1 33 0 = nI (v 5)) (hv : nvok T v) (hk : k < 2 ^ 31) (hH : 0 < T 0 4) : ∃ y, f_X_behindEvening n (lN (pk v)) (nI k) x = some (lN (pk (evn T v (k % T 0 4))), y) ∧ xe x y ∧ y.1 33 0 = nI (evn T v (k % T 0 4) 5) := by
  have h5 := w.2.2.2.2.1
  have h256 := w.pow
  obtain ⟨y, a, b, c1, c2⟩ := fpass w hn hX hT h0 hv.2
  have hm : k % T 0 4 < T 0 4 := Nat.mod_lt _ hH
  have h1 := ev_heard w.1.2 (T 0 1) (lgt T) (v 5) 0 0 (lgt_mem w) (Nat.pow_pos (by omega))
  unfold f_X_behindEvening
  rw [klt, hX.1 4 (by omega), if_pos (by rw [show (0 : Int32) = nI 0 from rfl]; exact nI_lt hH (by omega)), a, kcv, kgd (nI_ne0 hH (by omega)), pk_rem hk hH (by omega), c2, fwithMore (hv.p8 w) (by omega) (by omega)]
  refine ⟨y, ?_, b, ?_⟩
  · have : pk (vup v (k % T 0 4) (v (k % T 0 4) ||| (ev (T 0 1) (lgt T) (v 5) 0 0).1)) = pk (evn T v (k % T 0 4)) := by
      unfold pk evn evv vup
      simp
    rw [this]
  · rw [c1, evn5]
