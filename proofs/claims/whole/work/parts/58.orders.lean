/-! ===== the reference's next order ===== -/
theorem nI_dec (a : Nat) : nI (a + 1) + (-1) = nI a := by rw [← Int32.sub_eq_add_neg, nI_pred]
def swf (a : Nat → Nat) (i j : Nat) : Nat → Nat := fun k => if k = j then a i else if k = i then a j else a k
def nd (a : Nat → Nat) : Nat → Option Nat
  | 0 => none
  | i + 1 => if a i ≤ a (i + 1) then some i else nd a i
def nk (a : Nat → Nat) (i : Nat) : Nat → Nat
  | 0 => 0
  | x + 1 => if a i ≤ a (x + 1) then x + 1 else nk a i x
def rv : Nat → (Nat → Nat) → Nat → Nat → (Nat → Nat)
  | 0, a, _, _ => a
  | g + 1, a, lo, hi => if hi ≤ lo then a else rv g (swf a lo hi) (lo + 1) (hi - 1)
def nxt (a : Nat → Nat) (N : Nat) : Option (Nat → Nat) := match nd a (N - 1) with
  | none => none
  | some i => some (rv 6 (swf a i (nk a i (N - 1))) (i + 1) (N - 1))
def A12 (t : k_St) (a : Nat → Nat) : Prop := ∀ k, k < 5 → t.1 12 k = nI (a k) ∧ a k < 5
def m12 (t u : k_St) : Prop := (∀ o k, o ≠ 12 → u.1 o k = t.1 o k) ∧ u.2 = t.2
theorem m12.rf (t : k_St) : m12 t t := ⟨fun _ _ _ => rfl, rfl⟩
theorem m12.tr {t u v : k_St} (h : m12 t u) (g : m12 u v) : m12 t v := ⟨fun o k a => (g.1 o k a).trans (h.1 o k a), g.2.trans h.2⟩
theorem fswaps {t : k_St} {a : Nat → Nat} (h : A12 t a) {i j : Nat} (hi : i < 5) (hj : j < 5) : ∃ u, f_M_swaps (nI i) (nI j) t = some u ∧ A12 u (swf a i j) ∧ m12 t u := by
  unfold f_M_swaps
  rw [kgi (kin hi (by decide)), klt, kgi (kin hj (by decide)), kgi (kin hi (by decide)), klt, kgi (kin hj (by decide)), klt, nI_clamp (n := i) (by omega), nI_clamp (n := j) (by omega), (h i hi).1, (h j hj).1]
  refine ⟨_, rfl, fun k hk => ?_, fun o k ho => by rw [sI1, if_neg (by omega), sI1, if_neg (by omega)], rfl⟩
  unfold swf
  rw [sI1]
  by_cases e : k = j
  · rw [if_pos ⟨rfl, e⟩, if_pos e]
    exact ⟨rfl, (h i hi).2⟩
  · rw [if_neg (by omega), if_neg e, sI1]
    by_cases e2 : k = i
    · rw [if_pos ⟨rfl, e2⟩, if_pos e2]
      exact ⟨rfl, (h j hj).2⟩
    · rw [if_neg (by omega), if_neg e2]
      exact h k hk
theorem fn95 {n : Nat} : ∀ (g f lo hi : Nat) (a : Nat → Nat) (t : k_St), hi ≤ lo + g → g < f → hi < 5 → lo ≤ 5 → A12 t a → ∃ u, f_M_nextOrder_95 n f (nI lo) (nI hi) t = some (true, u) ∧ A12 u (rv (g + 1) a lo hi) ∧ m12 t u := by
  intro g
  induction g with
  | zero =>
    intro f lo hi a t h hf h5 hl hA
    obtain ⟨f, rfl⟩ : ∃ f', f = f' + 1 := ⟨f - 1, by omega⟩
    rw [f_M_nextOrder_95, if_pos (nI_le (by omega) (by omega)), rv, if_pos (by omega)]
    exact ⟨t, rfl, hA, m12.rf t⟩
  | succ g ih =>
    intro f lo hi a t h hf h5 hl hA
    obtain ⟨f, rfl⟩ : ∃ f', f = f' + 1 := ⟨f - 1, by omega⟩
    rw [f_M_nextOrder_95, rv]
    by_cases hle : hi ≤ lo
    · rw [if_pos (nI_le hle (by omega)), if_pos hle]
      exact ⟨t, rfl, hA, m12.rf t⟩
    · obtain ⟨hi, rfl⟩ : ∃ hi', hi = hi' + 1 := ⟨hi - 1, by omega⟩
      obtain ⟨u, e, b, c⟩ := fswaps hA (show lo < 5 by omega) h5
      rw [if_neg (nI_ge (by omega) (by omega)), if_neg hle, e, kcv, klt, klt, nI_1, nI_dec, Nat.add_sub_cancel]
      obtain ⟨v, e2, b2, c2⟩ := ih f (lo + 1) hi _ u (by omega) (by omega) (by omega) (by omega) b
      exact ⟨v, e2, b2, c.tr c2⟩
theorem fn53 {n : Nat} {i : Nat} {a : Nat → Nat} {t : k_St} (hA : A12 t a) : ∀ (x f : Nat), i ≤ x → x < 5 → x < f → f_M_nextOrder_53 n f (nI i) (nI x) t = k_cv (f_M_swaps (nI i) (nI (nk a i x)) t) (fun t_3 => k_lt (nI i + (1 : Int32)) (fun x3_4 => k_lt ((t_3.1 18 4) - (1 : Int32)) (fun x4_5 => f_M_nextOrder_95 n n x3_4 x4_5 t_3))) ∧ nk a i x < 5 := by
  intro x
  induction x with
  | zero =>
    intro f hx h5 hf
    obtain ⟨f, rfl⟩ : ∃ f', f = f' + 1 := ⟨f - 1, by omega⟩
    have : i = 0 := by omega
    subst this
    rw [f_M_nextOrder_53, kgi (kin (by omega) (by decide)), kgi (kin (by omega) (by decide)), if_pos Int32.le_rfl, nk]
    exact ⟨rfl, by omega⟩
  | succ x ih =>
    intro f hx h5 hf
    obtain ⟨f, rfl⟩ : ∃ f', f = f' + 1 := ⟨f - 1, by omega⟩
    have hi := hA i (by omega)
    have hxx := hA (x + 1) h5
    rw [f_M_nextOrder_53, kgi (kin (by omega) (by decide)), kgi (kin (by omega) (by decide)), nI_clamp (n := i) (by omega), nI_clamp (n := x + 1) (by omega), hi.1, hxx.1, nk]
    by_cases hle : a i ≤ a (x + 1)
    · rw [if_pos (nI_le hle (by omega)), if_pos hle]
      exact ⟨rfl, h5⟩
    · rw [if_neg (nI_ge (by omega) (by omega)), if_neg hle, klt, nI_dec]
      refine ih f ?_ (by omega) (by omega)
      by_cases e : i = x + 1
      · rw [e] at hle; omega
      · omega
theorem fn10 {n N : Nat} {a : Nat → Nat} {t : k_St} (hA : A12 t a) (hN : t.1 18 4 = nI N) : ∀ (j f : Nat), j ≤ 4 → j < f → (nd a j = none → f_M_nextOrder_10 n f (nI j - 1) t = some (false, t)) ∧ ∀ i, nd a j = some i → i < j ∧ f_M_nextOrder_10 n f (nI j - 1) t = f_M_nextOrder_53 n n (nI i) (nI N - 1) t := by
  intro j
  induction j with
  | zero =>
    intro f _ hf
    obtain ⟨f, rfl⟩ : ∃ f', f = f' + 1 := ⟨f - 1, by omega⟩
    refine ⟨fun _ => ?_, fun i h => by simp [nd] at h⟩
    rw [f_M_nextOrder_10, if_pos (by decide), if_neg (by decide)]
  | succ j ih =>
    intro f h4 hf
    obtain ⟨f, rfl⟩ : ∃ f', f = f' + 1 := ⟨f - 1, by omega⟩
    have hj := hA j (by omega)
    have hj1 := hA (j + 1) (by omega)
    rw [nI_pred, f_M_nextOrder_10, if_neg (nI_pos (by omega)), nI_1, kgi (kin (by omega) (by decide)), kgi (kin (by omega) (by decide)), nI_clamp (n := j) (by omega), nI_clamp (n := j + 1) (by omega), hj.1, hj1.1, nd]
    by_cases hle : a j ≤ a (j + 1)
    · rw [if_pos (nI_le hle (by omega)), if_pos hle, if_pos (Int32.not_lt.mp (nI_pos (by omega))), hN, klt]
      exact ⟨fun h => by simp at h, fun i h => by rw [← Option.some.inj h]; exact ⟨by omega, rfl⟩⟩
    · rw [if_neg (nI_ge (by omega) (by omega)), if_neg hle, klt, ← Int32.sub_eq_add_neg]
      obtain ⟨i1, i2⟩ := ih f (by omega) (by omega)
      exact ⟨i1, fun i h => ⟨by have := (i2 i h).1; omega, (i2 i h).2⟩⟩
theorem fnextOrder {n N : Nat} (hn : 200 ≤ n) {a : Nat → Nat} {t : k_St} (hA : A12 t a) (hN : t.1 18 4 = nI N) (h1 : 1 ≤ N) (h5 : N ≤ 5) : (nxt a N = none → f_M_nextOrder n t = some (false, t)) ∧ ∀ b, nxt a N = some b → ∃ u, f_M_nextOrder n t = some (true, u) ∧ A12 u b ∧ m12 t u := by
  obtain ⟨N, rfl⟩ : ∃ N', N = N' + 1 := ⟨N - 1, by omega⟩
  have e2 : nI (N + 1) - (2 : Int32) = nI N - 1 := by
    rw [show (2 : Int32) = 1 + 1 from rfl, ← Int32.sub_sub, nI_pred]
  obtain ⟨i1, i2⟩ := fn10 (n := n) hA hN N n (by omega) (by omega)
  unfold f_M_nextOrder nxt
  rw [hN, klt, e2, Nat.add_sub_cancel]
  match hd : nd a N with
  | none => exact ⟨fun _ => i1 hd, fun b h => by simp at h⟩
  | some i =>
    refine ⟨fun h => by simp at h, fun b h => ?_⟩
    obtain ⟨hi, e⟩ := i2 i hd
    obtain ⟨e3, h3⟩ := fn53 (n := n) hA (i := i) N n (by omega) (by omega) (by omega)
    obtain ⟨u, e4, b4, c4⟩ := fswaps hA (show i < 5 by omega) h3
    rw [e, nI_pred, e3, e4, kcv, klt, klt, c4.1 18 4 (by omega), hN, nI_pred, nI_1]
    obtain ⟨v, e5, b5, c5⟩ := fn95 (n := n) 5 n (i + 1) N _ u (by omega) (by omega) (by omega) (by omega) b4
    exact ⟨v, e5, by rw [← Option.some.inj h]; exact b5, c4.tr c5⟩
/-- an order, and the numbers after it -/
def la (N : Nat) (l : List Nat) : Nat → Nat := fun k => (l ++ List.range' N (5 - N)).getD k 0
theorem pm_chain : ∀ N, N ≤ 5 → (List.range 5).map (la N ((pm N N []).getD 0 [])) = List.range 5 ∧ 0 < (pm N N []).length ∧ ∀ i, i < (pm N N []).length → (nxt (la N ((pm N N []).getD i [])) N).map (fun a => (List.range 5).map a) = ((pm N N [])[i + 1]?).map (fun l => (List.range 5).map (la N l)) := by decide +kernel
