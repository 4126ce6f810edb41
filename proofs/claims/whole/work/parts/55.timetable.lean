/-! ===== the timetable ===== -/
def dst (a b : Nat) : Nat := max a b - min a b
theorem nI_dst : ∀ a, a < 100 → ∀ b, b < 100 → (if (0 : Int32) ≤ nI a - nI b then nI a - nI b else 0 - (nI a - nI b)) = nI (dst a b) := by decide +kernel
theorem nI_max {a b : Nat} (ha : a < 2 ^ 31) (hb : b < 2 ^ 31) : (if nI a < nI b then nI b else nI a) = nI (max a b) := by
  by_cases h : a < b
  · rw [if_pos (nI_lt h hb), show max a b = b by omega]
  · rw [if_neg (nI_nlt (by omega) (by omega)), show max a b = a by omega]
/-- ways to go on from a beginning, written backwards -/
def pm (N : Nat) : Nat → List Nat → List (List Nat)
  | 0, rp => [rp.reverse]
  | k + 1, rp => (List.range' 0 N).flatMap (fun h => if h ∈ rp then [] else pm N k (h :: rp))
def ck (T : t_D) : List Nat → Nat
  | [] => 0
  | h :: rp => max (ck T rp) (T 4 h) + 1
def wl (T : t_D) : List Nat → Nat
  | [] => 0
  | [_] => 0
  | h :: g :: rp => wl T (g :: rp) + dst (T 3 h) (T 3 g)
def fe (T : t_D) : List Nat → Bool
  | [] => true
  | h :: rp => fe T rp && decide (max (ck T rp) (T 4 h) ≤ T 5 h)
def hq (T : t_D) : List Nat → Nat → Nat
  | [], _ => 0
  | g :: rp, h => if h = g then max (ck T rp) (T 4 g) else hq T rp h
abbrev tS : Type := Option (Nat × Nat × List Nat)
def tf (T : t_D) (s : tS) (r : List Nat) : tS := if fe T r.reverse then (match s with
  | none => some (1, wl T r.reverse, r)
  | some (k, w, r0) => if wl T r.reverse < w then some (k + 1, wl T r.reverse, r) else some (k + 1, w, r0)) else s
def tk (s : tS) : Nat := match s with
  | none => 0
  | some (k, _, _) => k
theorem tf_k (T : t_D) (s : tS) (r : List Nat) : tk (tf T s r) ≤ tk s + 1 := by
  unfold tf
  split
  · cases s with
    | none => simp [tk]
    | some q =>
      obtain ⟨k, w, r0⟩ := q
      simp only
      split <;> simp [tk]
  · omega
theorem tf_ks (T : t_D) : ∀ (R : List (List Nat)) (s : tS), tk (R.foldl (tf T) s) ≤ tk s + R.length
  | [], s => by simp
  | r :: R, s => by
    have h1 := tf_ks T R (tf T s r)
    have h2 := tf_k T s r
    rw [List.foldl_cons, List.length_cons]
    omega
theorem pm_no (T : t_D) (N : Nat) : ∀ (k : Nat) (rp : List Nat), fe T rp = false → ∀ r ∈ pm N k rp, fe T r.reverse = false := by
  intro k
  induction k with
  | zero => intro rp h r hr; simp [pm] at hr; rw [hr, List.reverse_reverse]; exact h
  | succ k ih =>
    intro rp h r hr
    rw [pm, List.mem_flatMap] at hr
    obtain ⟨g, -, hg⟩ := hr
    split at hg
    · simp at hg
    · exact ih (g :: rp) (by rw [fe, h]; rfl) r hg
theorem tf_no (T : t_D) : ∀ (R : List (List Nat)) (s : tS), (∀ r ∈ R, fe T r.reverse = false) → R.foldl (tf T) s = s
  | [], s, _ => rfl
  | r :: R, s, h => by
    rw [List.foldl_cons, show tf T s r = s by unfold tf; rw [h r (by simp)]; rfl]
    exact tf_no T R s (fun q hq => h q (by simp [hq]))
theorem ck_le {T : t_D} (w : Tw T) : ∀ rp, (∀ h ∈ rp, h < T 0 4) → fe T rp = true → ck T rp ≤ 24
  | [], _, _ => by simp [ck]
  | h :: rp, hm, hf => by
    rw [fe, Bool.and_eq_true, decide_eq_true_eq] at hf
    have := (w.2.2.2.2.2.2.2.2.2.1 h (hm h (by simp))).2.2.1
    rw [ck]
    omega
theorem wl_le {T : t_D} (w : Tw T) : ∀ rp, (∀ h ∈ rp, h < T 0 4) → wl T rp ≤ 99 * rp.length
  | [], _ => by simp [wl]
  | [_], _ => by simp [wl]
  | h :: g :: rp, hm => by
    have i := wl_le w (g :: rp) (fun q hq => hm q (by simp [hq]))
    have := (w.2.2.2.2.2.2.2.2.2.1 h (hm h (by simp))).1
    have := (w.2.2.2.2.2.2.2.2.2.1 g (hm g (by simp))).1
    rw [wl, List.length_cons]
    unfold dst
    omega
theorem us_bit : ∀ (rp : List Nat) (h : Nat), (us rp).testBit h = decide (h ∈ rp)
  | [], h => by simp [us, ta_bits]
  | q :: rp, h => by
    rw [us_cons, Nat.testBit_or, us_bit rp h, Nat.testBit_two_pow]
    by_cases e : q = h
    · simp [e]
    · simp [e, Ne.symm e]
theorem us_lt : ∀ (rp : List Nat), (∀ h ∈ rp, h < 5) → us rp < 32
  | [], _ => by simp [us, ta_bits]
  | q :: rp, hm => by
    rw [us_cons]
    have h1 := us_lt rp (fun h hh => hm h (by simp [hh]))
    have h2 := hm q (by simp)
    have h3 : 2 ^ q < 2 ^ 5 := Nat.pow_lt_pow_right (by omega) h2
    exact Nat.or_lt_two_pow (n := 5) h1 h3
/-- what the timetable leaves alone -/
def xt (x y : k_St) : Prop := (∀ o k, o ≠ 27 → o ≠ 28 → o ≠ 29 → o ≠ 30 → y.1 o k = x.1 o k) ∧ y.2 = x.2
theorem xt.rf (x : k_St) : xt x x := ⟨fun _ _ _ _ _ _ => rfl, rfl⟩
theorem xt.tr {x y z : k_St} (h : xt x y) (g : xt y z) : xt x z := ⟨fun o k a b c d => (g.1 o k a b c d).trans (h.1 o k a b c d), g.2.trans h.2⟩
theorem xt.set (x : k_St) (o j : Nat) (v : Int32) (h : 27 ≤ o ∧ o ≤ 30) : xt x (k_sI x o j v) := ⟨fun o' k a b c d => by rw [sI1, if_neg (by omega)], rfl⟩
theorem XT.xt {T : t_D} {x y : k_St} (h : XT T x) (e : xt x y) : XT T y := h.same (fun o k a b => e.1 o k (by omega) (by omega) (by omega) (by omega))
def tX (s : tS) (x : k_St) : Prop := match s with
  | none => x.1 27 0 = -2 ∧ x.1 27 1 = 0
  | some (k, w, r) => 0 < k ∧ w ≤ 600 ∧ x.1 27 0 = nI w ∧ x.1 27 1 = nI k ∧ ∀ i h, r[i]? = some h → x.1 28 i = nI h
def P30 (x : k_St) (rp : List Nat) : Prop := ∀ i h, rp.reverse[i]? = some h → x.1 30 i = nI h
theorem fkeep22 {n : Nat} {r : List Nat} (hr : r.length ≤ 5) : ∀ (f i : Nat) (x : k_St), i ≤ r.length → r.length - i < f → (∀ j h, r[j]? = some h → x.1 30 j = nI h) → (∀ j h, j < i → r[j]? = some h → x.1 28 j = nI h) → ∃ y, f_Ti_keepOrder_22 n f (nI r.length) (nI i) x = some y ∧ xt x y ∧ (∀ k, y.1 30 k = x.1 30 k) ∧ y.1 27 0 = x.1 27 0 ∧ y.1 27 1 = x.1 27 1 + 1 ∧ ∀ j h, r[j]? = some h → y.1 28 j = nI h := by
  intro f
  induction f with
  | zero => intro i x _ h; omega
  | succ f ih =>
    intro i x hi hf h30 h28
    rw [f_Ti_keepOrder_22]
    rcases Nat.lt_or_ge i r.length with hl | hl
    · rw [if_neg (nI_ge hl (by omega)), kgi (kin (by omega) (by decide)), kgi (kin (by omega) (by decide)), klt, klt, nI_clamp (by omega), nI_1, h30 i (rf r i) (rf_get hl)]
      have xs := xt.set x 28 i (nI (rf r i)) (by omega)
      obtain ⟨y, a, b, c1, c2, c3, c4⟩ := ih (i + 1) (k_sI x 28 i (nI (rf r i))) (by omega) (by omega) (fun j h hj => by rw [sI1, if_neg (by omega)]; exact h30 j h hj) (fun j h hj hh => by
        rw [sI1]
        by_cases e : j = i
        · rw [if_pos ⟨rfl, e⟩]
          rw [e, rf_get hl] at hh
          rw [Option.some.inj hh]
        · rw [if_neg (by omega)]; exact h28 j h (by omega) hh)
      exact ⟨y, a, xs.tr b, fun k => by rw [c1, sI1, if_neg (by omega)], by rw [c2, sI1, if_neg (by omega)], by rw [c3, sI1, if_neg (by omega)], c4⟩
    · rw [if_pos (nI_le hl (by omega)), klt]
      exact ⟨_, rfl, xt.set x 27 1 _ (by omega), fun k => by rw [sI1, if_neg (by omega)], by rw [sI1, if_neg (by omega)], by rw [sI1, if_pos ⟨rfl, rfl⟩], fun j h hh => by rw [sI1, if_neg (by omega)]; exact h28 j h (by have := (List.getElem?_eq_some_iff.mp hh).1; omega) hh⟩
theorem fTkeep {T : t_D} {n : Nat} (hn : 200 ≤ n) {r : List Nat} (hr : r.length ≤ 5) (hf : fe T r.reverse = true) (hw : wl T r.reverse ≤ 600) {s : tS} (hk : tk s < 200) {x : k_St} (h30 : P30 x r.reverse) (hs : tX s x) : ∃ y, f_Ti_keepOrder n (nI r.length) (nI (wl T r.reverse)) x = some y ∧ xt x y ∧ (∀ k, y.1 30 k = x.1 30 k) ∧ tX (tf T s r) y := by
  unfold P30 at h30
  rw [List.reverse_reverse] at h30
  unfold f_Ti_keepOrder
  have new : ∀ k : Nat, k < 200 → x.1 27 1 = nI k → ∃ y, k_lt (k_sI x 27 0 (nI (wl T r.reverse))) (fun t_1 => f_Ti_keepOrder_22 n n (nI r.length) (0 : Int32) t_1) = some y ∧ xt x y ∧ (∀ k, y.1 30 k = x.1 30 k) ∧ tX (some (k + 1, wl T r.reverse, r)) y := by
    intro k hk e
    rw [klt]
    obtain ⟨y, a, b, c1, c2, c3, c4⟩ := fkeep22 (n := n) hr n 0 (k_sI x 27 0 (nI (wl T r.reverse))) (by omega) (by omega) (fun j h hj => by rw [sI1, if_neg (by omega)]; exact h30 j h hj) (fun j h hj => by omega)
    rw [show (0 : Int32) = nI 0 from rfl, a]
    exact ⟨y, rfl, (xt.set x 27 0 _ (by omega)).tr b, fun k => by rw [c1, sI1, if_neg (by omega)], by omega, hw, by rw [c2, sI1, if_pos ⟨rfl, rfl⟩], by rw [c3, sI1, if_neg (by omega), e, nI_1], c4⟩
  match s, hs with
  | none, hs =>
    rw [hs.2, if_pos rfl, show tf T none r = some (0 + 1, wl T r.reverse, r) by unfold tf; rw [if_pos hf]]
    exact new 0 (by omega) hs.2
  | some (k, w, r0), hs =>
    obtain ⟨h0, hw0, h1, h2, h3⟩ := hs
    have hk : k < 200 := hk
    have es : tf T (some (k, w, r0)) r = if wl T r.reverse < w then some (k + 1, wl T r.reverse, r) else some (k + 1, w, r0) := by unfold tf; rw [if_pos hf]
    rw [h1, h2, if_neg (neL (b := 0) 0 (by omega) rfl (by omega) (by omega)), es]
    by_cases hlt : wl T r.reverse < w
    · rw [if_neg (nI_ge hlt (by omega)), if_pos hlt]
      exact new k hk h2
    · rw [if_pos (nI_le (by omega) (by omega)), if_neg hlt, klt]
      exact ⟨_, rfl, xt.set x 27 1 _ (by omega), fun k => by rw [sI1, if_neg (by omega)], by omega, hw0, by rw [sI1, if_neg (by omega), h1], by rw [sI1, if_pos ⟨rfl, rfl⟩, nI_1], fun i h hh => by rw [sI1, if_neg (by omega)]; exact h3 i h hh⟩
