/-! ===== slips ===== -/
def ed (mx r : Nat → Nat) : Nat → Nat → Nat
  | 0, j => j
  | i + 1, 0 => i + 1
  | i + 1, j + 1 => min (ed mx r i j + (if mx i = r j then 0 else 1)) (1 + min (ed mx r i (j + 1)) (ed mx r (i + 1) j))
theorem ed_le (mx r : Nat → Nat) : ∀ i j, ed mx r i j ≤ i + j
  | 0, j => by simp [ed]
  | i + 1, 0 => by simp [ed]
  | i + 1, j + 1 => by
    rw [ed]
    have := ed_le mx r i (j + 1)
    omega
theorem ed_z (mx r : Nat → Nat) (i : Nat) : ed mx r i 0 = i := by cases i <;> simp [ed]
theorem nI_min {a b : Nat} (ha : a < 2 ^ 31) (hb : b < 2 ^ 31) : (if nI b < nI a then nI b else nI a) = nI (min a b) := by
  by_cases h : b < a
  · rw [if_pos (nI_lt h ha), show min a b = b by omega]
  · rw [if_neg (nI_nlt (by omega) (by omega)), show min a b = a by omega]
theorem fless {a b : Nat} (ha : a < 2 ^ 31) (hb : b < 2 ^ 31) : f_M_less (nI a) (nI b) = nI (min a b) := by
  unfold f_M_less
  by_cases h : b ≤ a
  · rw [if_pos (nI_le h ha), show min a b = b by omega]
  · rw [if_neg (nI_ge (by omega) hb), show min a b = a by omega]
theorem fat (a b : Nat) : f_M_at (nI a) (nI b) = nI (9 * a + b) := by unfold f_M_at; rw [l9, pk_mul, nI_add]
def rf (r : List Nat) : Nat → Nat := fun j => r.getD j 0
theorem rf_get {r : List Nat} {j : Nat} (h : j < r.length) : r[j]? = some (rf r j) := by rw [rf, List.getD_eq_getElem?_getD, List.getElem?_eq_getElem h]; rfl
/-- what the class's slips leave alone -/
def xs (x y : k_St) : Prop := (∀ o k, o ≠ 31 → o ≠ 32 → y.1 o k = x.1 o k) ∧ y.2 = x.2
theorem xs.rf (x : k_St) : xs x x := ⟨fun _ _ _ _ => rfl, rfl⟩
theorem xs.tr {x y z : k_St} (h : xs x y) (g : xs y z) : xs x z := ⟨fun o k a b => (g.1 o k a b).trans (h.1 o k a b), g.2.trans h.2⟩
theorem xs.set (x : k_St) (o j : Nat) (v : Int32) (h : o = 31 ∨ o = 32) : xs x (k_sI x o j v) := ⟨fun o' k a b => by rw [sI1, if_neg (by omega)], rfl⟩
theorem XT.xs {T : t_D} {x y : k_St} (h : XT T x) (e : xs x y) : XT T y := h.same (fun o k a b => e.1 o k (by omega) (by omega))
theorem TB.xs {x y : k_St} {L : List (List Nat)} (h : TB x L) (e : xs x y) : TB y L := h.same (fun o k a b => e.1 o k (by omega) (by omega))
theorem fbet70 {T : t_D} (w : Tw T) {Ls : List (List Nat)} (hR : TR T Ls) {n q i : Nat} {r : List Nat} (hq : Ls[q]? = some r) (hn : 200 ≤ n) (hi : i < T 0 7) {rec40 : Int32 → Int32 → Int32 → k_St → Option (Int32 × k_St)} : ∀ (f j : Nat) (x : k_St), 1 ≤ j → j ≤ r.length + 1 → r.length + 1 - j < f → XT T x → TB x Ls → (∀ k, k < j → x.1 32 k = nI (ed (T 7) (rf r) (i + 1) k)) → (∀ k, j ≤ k → k ≤ r.length → x.1 32 k = nI (ed (T 7) (rf r) i k)) → ∃ y, f_Sl_between_70 n rec40 f (nI q) (nI r.length) (nI i) (nI (ed (T 7) (rf r) i (j - 1))) (nI j) x = rec40 (nI q) (nI r.length) (nI (i + 1)) y ∧ (∀ o k, o ≠ 32 → y.1 o k = x.1 o k) ∧ y.2 = x.2 ∧ ∀ k, k ≤ r.length → y.1 32 k = nI (ed (T 7) (rf r) (i + 1) k) := by
  have hrow := hR r (List.mem_of_getElem? hq)
  have h8 := hrow.2.1
  have h6 := w.2.2.2.2.2.2.2.1
  have hP := w.1.2
  intro f
  induction f with
  | zero => intro j x _ _ h; omega
  | succ f ih =>
    intro j x hj1 hj hf hX hT hlo hhi
    rw [f_Sl_between_70]
    rcases Nat.lt_or_ge r.length j with hl | hl
    · rw [if_pos (nI_lt hl (by omega)), klt, nI_1]
      exact ⟨x, rfl, fun _ _ _ => rfl, rfl, fun k hk => hlo k (by omega)⟩
    · obtain ⟨j, rfl⟩ : ∃ j', j = j' + 1 := ⟨j - 1, by omega⟩
      rw [show j + 1 - 1 = j by omega]
      have b1 := ed_le (T 7) (rf r) i j
      have b2 := ed_le (T 7) (rf r) i (j + 1)
      have b3 := ed_le (T 7) (rf r) (i + 1) j
      rw [if_neg (nI_nlt hl (by omega)), kgi (kin (by omega) (by decide)), klt, kgi (kin (by omega) (by decide)), nI_pred, fpieceAt w hT hR hq (rf_get (by omega)) hn, kcp, nI_clamp (by omega), nI_clamp (by omega), nI_clamp (by omega), hX.2.2.2 i hi, hhi (j + 1) (by omega) hl]
      have hmix := w.2.2.2.2.2.2.2.2.2.2.1 i hi
      have hpc := hrow.2.2.1 (rf r j) (List.mem_of_getElem? (rf_get (by omega)))
      have fin : ∀ z : Nat, z = (if T 7 i = rf r j then 0 else 1) → ∃ y, k_gi (nI j) 9 (k_lt ((1 : Int32) + (if (x.1 32 j) < nI (ed (T 7) (rf r) i (j + 1)) then (x.1 32 j) else nI (ed (T 7) (rf r) i (j + 1)))) (fun x10_12 => k_gi (nI (j + 1)) 9 (k_lt (k_sI x 32 (j + 1) (if x10_12 < (nI (ed (T 7) (rf r) i j) + nI z) then x10_12 else (nI (ed (T 7) (rf r) i j) + nI z))) (fun t_14 => k_lt (nI (j + 1) + (1 : Int32)) (fun x7_15 => f_Sl_between_70 n rec40 f (nI q) (nI r.length) (nI i) (nI (ed (T 7) (rf r) i (j + 1))) x7_15 t_14))))) = rec40 (nI q) (nI r.length) (nI (i + 1)) y ∧ (∀ o k, o ≠ 32 → y.1 o k = x.1 o k) ∧ y.2 = x.2 ∧ ∀ k, k ≤ r.length → y.1 32 k = nI (ed (T 7) (rf r) (i + 1) k) := by
        intro z hz
        have hz1 : z ≤ 1 := by rw [hz]; split <;> omega
        have hmin : min (ed (T 7) (rf r) i j + z) (1 + min (ed (T 7) (rf r) i (j + 1)) (ed (T 7) (rf r) (i + 1) j)) = ed (T 7) (rf r) (i + 1) (j + 1) := by rw [ed, hz]
        rw [kgi (kin (by omega) (by decide)), hlo j (by omega), nI_min (by omega) (by omega), l1, nI_add, klt, kgi (kin (by omega) (by decide)), klt, klt, nI_add, nI_add, nI_min (by omega) (by omega), hmin]
        obtain ⟨y, a, c1, c2, c3⟩ := ih (j + 1 + 1) (k_sI x 32 (j + 1) (nI (ed (T 7) (rf r) (i + 1) (j + 1)))) (by omega) (by omega) (by omega) (hX.same (fun o k q1 q2 => by rw [sI1, if_neg (by omega)])) (hT.same (fun o k q1 q2 => by rw [sI1, if_neg (by omega)])) (fun k hk => by
          rw [sI1]
          by_cases e : k = j + 1
          · rw [if_pos ⟨rfl, e⟩, e]
          · rw [if_neg (by omega)]; exact hlo k (by omega)) (fun k hk hk2 => by rw [sI1, if_neg (by omega)]; exact hhi k (by omega) hk2)
        rw [show j + 1 + 1 - 1 = j + 1 by omega] at a
        exact ⟨y, a, fun o k ho => by rw [c1 o k ho, sI1, if_neg (by omega)], c2, c3⟩
      by_cases e : T 7 i = rf r j
      · rw [if_pos (by rw [e])]
        exact fin 0 (by rw [if_pos e])
      · rw [if_neg (fun q => e (nI_inj (by omega) (by omega) q))]
        exact fin 1 (by rw [if_neg e])
theorem fbet40 {T : t_D} (w : Tw T) {Ls : List (List Nat)} (hR : TR T Ls) {n q : Nat} {r : List Nat} (hq : Ls[q]? = some r) (hn : 200 ≤ n) : ∀ (f i : Nat) (x : k_St), i ≤ T 0 7 → T 0 7 - i < f → XT T x → TB x Ls → (∀ k, k ≤ r.length → x.1 32 k = nI (ed (T 7) (rf r) i k)) → ∃ y, f_Sl_between_40 n f (nI q) (nI r.length) (nI i) x = some (nI (ed (T 7) (rf r) (T 0 7) r.length), y) ∧ (∀ o k, o ≠ 32 → y.1 o k = x.1 o k) ∧ y.2 = x.2 := by
  have hrow := hR r (List.mem_of_getElem? hq)
  have h8 := hrow.2.1
  have h6 := w.2.2.2.2.2.2.2.1
  intro f
  induction f with
  | zero => intro i x _ h; omega
  | succ f ih =>
    intro i x hi hf hX hT hc
    rw [f_Sl_between_40, hX.1 7 (by omega)]
    rcases Nat.lt_or_ge i (T 0 7) with hl | hl
    · have e0 : (0 : Int32).toNatClampNeg = 0 := by decide
      have h0 : x.1 32 0 = nI i := by rw [hc 0 (by omega), ed_z]
      rw [if_neg (nI_ge hl (by omega)), kgi (by decide), klt, kgi (by decide), klt, e0, h0, nI_1]
      obtain ⟨y, a, c1, c2, c3⟩ := fbet70 (n := n) (i := i) (rec40 := f_Sl_between_40 n f) w hR hq hn hl n 1 (k_sI x 32 0 (nI (i + 1))) (by omega) (by omega) (by omega) (hX.same (fun o k q1 q2 => by rw [sI1, if_neg (by omega)])) (hT.same (fun o k q1 q2 => by rw [sI1, if_neg (by omega)])) (fun k hk => by
        have : k = 0 := by omega
        subst this
        rw [sI1, if_pos ⟨rfl, rfl⟩, ed_z]) (fun k hk hk2 => by rw [sI1, if_neg (by omega)]; exact hc k hk2)
      rw [Nat.sub_self, ed_z] at a
      obtain ⟨y2, a2, d1, d2⟩ := ih (i + 1) y (by omega) (by omega) (hX.same (fun o k q1 q2 => by rw [c1 o k (by omega), sI1, if_neg (by omega)])) (hT.same (fun o k q1 q2 => by rw [c1 o k (by omega), sI1, if_neg (by omega)])) c3
      refine ⟨y2, ?_, fun o k ho => by rw [d1 o k ho, c1 o k ho, sI1, if_neg (by omega)], d2.trans c2⟩
      rw [show (1 : Int32) = nI 1 from rfl, a, a2]
    · have e : i = T 0 7 := by omega
      rw [if_pos (nI_le (by omega) (by omega)), kgi (kin (by omega) (by decide)), nI_clamp (by omega), hc r.length (Nat.le_refl _), e]
      exact ⟨x, rfl, fun _ _ _ => rfl, rfl⟩
def sd (T : t_D) (r : List Nat) : Nat := ed (T 7) (rf r) (T 0 7) r.length
theorem sd_le {T : t_D} (w : Tw T) {r : List Nat} (hr : r.length ≤ 8) : sd T r ≤ 14 := by
  have := ed_le (T 7) (rf r) (T 0 7) r.length
  have := w.2.2.2.2.2.2.2.1
  unfold sd
  omega
theorem fbetween {T : t_D} (w : Tw T) {Ls : List (List Nat)} (hR : TR T Ls) {n q : Nat} {r : List Nat} (hq : Ls[q]? = some r) (hn : 200 ≤ n) {x : k_St} (hX : XT T x) (hT : TB x Ls) : ∃ y, f_Sl_between n (nI q) x = some (nI (sd T r), y) ∧ (∀ o k, o ≠ 32 → y.1 o k = x.1 o k) ∧ y.2 = x.2 := by
  have hrow := hR r (List.mem_of_getElem? hq)
  have h8 := hrow.2.1
  have key : ∀ (f j : Nat) (z : k_St), j ≤ r.length + 1 → r.length + 1 - j < f → (∀ o k, o ≠ 32 → z.1 o k = x.1 o k) → z.2 = x.2 → (∀ k, k < j → z.1 32 k = nI k) → ∃ y, f_Sl_between_15 n f (nI q) (nI r.length) (nI j) z = some (nI (sd T r), y) ∧ (∀ o k, o ≠ 32 → y.1 o k = x.1 o k) ∧ y.2 = x.2 := by
    intro f
    induction f with
    | zero => intro j z _ h; omega
    | succ f ih =>
      intro j z hj hf hz hz2 hc
      rw [f_Sl_between_15]
      rcases Nat.lt_or_ge r.length j with hl | hl
      · rw [if_pos (nI_lt hl (by omega))]
        obtain ⟨y, a, c1, c2⟩ := fbet40 (n := n) w hR hq hn n 0 z (by omega) (by have := w.2.2.2.2.2.2.2.1; omega) (hX.same (fun o k q1 q2 => hz o k (by omega))) (hT.same (fun o k q1 q2 => hz o k (by omega))) (fun k hk => by rw [hc k (by omega), ed])
        exact ⟨y, a, fun o k ho => (c1 o k ho).trans (hz o k ho), c2.trans hz2⟩
      · rw [if_neg (nI_nlt hl (by omega)), kgi (kin (by omega) (by decide)), klt, klt, nI_clamp (by omega), nI_1]
        exact ih (j + 1) _ (by omega) (by omega) (fun o k ho => by rw [sI1, if_neg (by omega)]; exact hz o k ho) hz2 (fun k hk => by
          rw [sI1]
          by_cases e : k = j
          · rw [if_pos ⟨rfl, e⟩, e]
          · rw [if_neg (by omega)]; exact hc k (by omega))
  unfold f_Sl_between
  rw [flengthOf hT hR hq, kcp, klt, if_neg (by rw [l8]; exact nI_nlt h8 (by omega))]
  exact key n 0 x (by omega) (by omega) (fun _ _ _ => rfl) rfl (fun k hk => by omega)
/-- the fewest, the first such TALE, how many -/
abbrev slS : Type := Option (Nat × List Nat × Nat)
def slf (T : t_D) (s : slS) (r : List Nat) : slS := match s with
  | none => some (sd T r, r, 1)
  | some (b, r0, k) => if sd T r < b then some (sd T r, r, 1) else if sd T r = b then some (b, r0, k + 1) else some (b, r0, k)
def slX (Ls : List (List Nat)) (s : slS) (x : k_St) : Prop := match s with
  | none => x.1 31 0 = -2 ∧ x.1 31 1 = -1 ∧ x.1 31 2 = 0
  | some (b, r, k) => b ≤ 14 ∧ x.1 31 0 = nI b ∧ (∃ j, x.1 31 1 = nI j ∧ Ls[j]? = some r) ∧ x.1 31 2 = nI k
theorem fcompare18 {T : t_D} (w : Tw T) {Ls : List (List Nat)} (hR : TR T Ls) {n : Nat} (hn : 200 ≤ n) (hm : 0 < T 0 7) : ∀ (f i : Nat) (s : slS) (x : k_St), i ≤ Ls.length → Ls.length - i < f → XT T x → TB x Ls → slX Ls s x → ∃ y, f_Sl_compare_18 n f (nI i) x = some y ∧ xs x y ∧ slX Ls ((Ls.drop i).foldl (slf T) s) y := by
  have h6 := w.2.2.2.2.2.2.2.1
  intro f
  induction f with
  | zero => intro i s x _ h; omega
  | succ f ih =>
    intro i s x hi hf hX hT hs
    have hl162 := hT.2.1
    rw [f_Sl_compare_18]
    rcases hT.at i hi with ⟨-, h1, h2⟩ | ⟨r, h0, h1, h2, h3⟩
    · rw [if_pos h1, h2]
      exact ⟨x, rfl, xs.rf x, hs⟩
    · obtain ⟨y, e, c1, c2⟩ := fbetween w hR h0 hn hX hT
      have xy : xs x y := ⟨fun o k _ b => c1 o k b, c2⟩
      have hXy := hX.xs xy
      have hTy := hT.xs xy
      have hsl := sd_le w (hR r (List.mem_of_getElem? h0)).2.1
      rw [if_neg h2, hX.1 7 (by omega), if_neg (nI_nle hm (by omega)), e, kcl, h3, List.foldl_cons]
      -- the two ways on
      have new : ∃ z, f_Sl_compare_59 n (f_Sl_compare_18 n f) (nI i) (nI (sd T r)) y = some z ∧ xs x z ∧ slX Ls ((Ls.drop (i + 1)).foldl (slf T) (some (sd T r, r, 1))) z := by
        unfold f_Sl_compare_59 f_Sl_compare_75
        rw [klt, klt, klt]
        generalize hz : k_sI (k_sI (k_sI y 31 0 (nI (sd T r))) 31 1 (nI i)) 31 2 0 = z
        have xz : xs y z := by rw [← hz]; exact ((xs.set _ _ _ _ (by omega)).tr (xs.set _ _ _ _ (by omega))).tr (xs.set _ _ _ _ (by omega))
        have z0 : z.1 31 0 = nI (sd T r) := by rw [← hz, sI1, if_neg (by omega), sI1, if_neg (by omega), sI1, if_pos ⟨rfl, rfl⟩]
        have z1 : z.1 31 1 = nI i := by rw [← hz, sI1, if_neg (by omega), sI1, if_pos ⟨rfl, rfl⟩]
        have z2 : z.1 31 2 = 0 := by rw [← hz, sI1, if_pos ⟨rfl, rfl⟩]
        have xz2 := xs.set z 31 2 (z.1 31 2 + 1) (by omega)
        rw [z0, if_pos rfl, klt, klt, nI_1]
        obtain ⟨u, a, b, c⟩ := ih (i + 1) (some (sd T r, r, 1)) (k_sI z 31 2 (z.1 31 2 + 1)) (by omega) (by omega) ((hXy.xs xz).xs xz2) ((hTy.xs xz).xs xz2) ⟨hsl, by rw [sI1, if_neg (by omega), z0], ⟨i, by rw [sI1, if_neg (by omega), z1], h0⟩, by rw [sI1, if_pos ⟨rfl, rfl⟩, z2]; rfl⟩
        exact ⟨u, a, ((xy.tr xz).tr xz2).tr b, c⟩
      match s, hs with
      | none, hs =>
        have e1 : y.1 31 1 = -1 := by rw [c1 31 1 (by omega)]; exact hs.2.1
        rw [e1, if_pos rfl]
        exact new
      | some (b, r0, k), hs =>
        obtain ⟨hb, hs0, ⟨j, hs1, hj⟩, hs2⟩ := hs
        have hjl : j < Ls.length := (List.getElem?_eq_some_iff.mp hj).1
        have e1 : y.1 31 1 = nI j := by rw [c1 31 1 (by omega)]; exact hs1
        have e0 : y.1 31 0 = nI b := by rw [c1 31 0 (by omega)]; exact hs0
        have e2 : y.1 31 2 = nI k := by rw [c1 31 2 (by omega)]; exact hs2
        rw [e1, if_neg (nI_ne_m1 (by omega)), e0]
        have es : slf T (some (b, r0, k)) r = if sd T r < b then some (sd T r, r, 1) else if sd T r = b then some (b, r0, k + 1) else some (b, r0, k) := rfl
        rw [es]
        by_cases hlt : sd T r < b
        · rw [if_neg (nI_ge hlt (by omega)), if_pos hlt]
          exact new
        · rw [if_pos (nI_le (by omega) (by omega)), if_neg hlt]
          unfold f_Sl_compare_75
          rw [e0]
          by_cases heq : sd T r = b
          · rw [if_pos (by rw [heq]), if_pos heq, klt, klt, e2, nI_1, nI_1]
            have xz2 := xs.set y 31 2 (nI (k + 1)) (by omega)
            obtain ⟨u, a, b', c⟩ := ih (i + 1) (some (b, r0, k + 1)) (k_sI y 31 2 (nI (k + 1))) (by omega) (by omega) (hXy.xs xz2) (hTy.xs xz2) ⟨hb, by rw [sI1, if_neg (by omega), e0], ⟨j, by rw [sI1, if_neg (by omega), e1], hj⟩, by rw [sI1, if_pos ⟨rfl, rfl⟩]⟩
            exact ⟨u, a, (xy.tr xz2).tr b', c⟩
          · rw [if_neg (fun q => heq (nI_inj (by omega) (by omega) q)), if_neg heq, klt, nI_1]
            obtain ⟨u, a, b', c⟩ := ih (i + 1) (some (b, r0, k)) y (by omega) (by omega) hXy hTy ⟨hb, e0, ⟨j, e1, hj⟩, e2⟩
            exact ⟨u, a, xy.tr b', c⟩
def slr (T : t_D) : slS := (ta_all T (allp T)).foldl (slf T) none
def SL (T : t_D) (x : k_St) : Prop := 0 < T 0 7 → slX (ta_all T (allp T)) (slr T) x
theorem fcompare {T : t_D} (w : Tw T) {n : Nat} (hn : 200 ≤ n) {x : k_St} (hX : XT T x) (hT : TB x (ta_all T (allp T))) : ∃ y, f_Sl_compare n x = some y ∧ xs x y ∧ SL T y := by
  have hR : TR T (ta_all T (allp T)) := fun r hr => ta_all_row w hr
  have hl := hT.2.1
  unfold f_Sl_compare
  rw [klt, klt, klt]
  generalize hz : k_sI (k_sI (k_sI x 31 0 (-2)) 31 1 (-1)) 31 2 0 = z
  have xz : xs x z := by rw [← hz]; exact ((xs.set _ _ _ _ (by omega)).tr (xs.set _ _ _ _ (by omega))).tr (xs.set _ _ _ _ (by omega))
  have hs : slX (ta_all T (allp T)) none z := ⟨by rw [← hz, sI1, if_neg (by omega), sI1, if_neg (by omega), sI1, if_pos ⟨rfl, rfl⟩], by rw [← hz, sI1, if_neg (by omega), sI1, if_pos ⟨rfl, rfl⟩], by rw [← hz, sI1, if_pos ⟨rfl, rfl⟩]⟩
  by_cases hm : 0 < T 0 7
  · obtain ⟨y, a, b, c⟩ := fcompare18 w hR hn hm n 0 none z (by omega) (by omega) (hX.xs xz) (hT.xs xz) hs
    rw [List.drop_zero] at c
    exact ⟨y, a, xz.tr b, fun _ => c⟩
  · obtain ⟨n, rfl⟩ : ∃ n', n = n' + 1 := ⟨n - 1, by omega⟩
    refine ⟨z, ?_, xz, fun q => absurd q hm⟩
    rw [f_Sl_compare_18]
    split
    · rfl
    · rw [(hX.xs xz).1 7 (by omega), if_pos (by rw [show T 0 7 = 0 by omega]; decide)]
