/-! ===== codes of rounds, in the order of the class's search ===== -/
theorem rng_mul (m k : Nat) : List.range (m * k) = (List.range m).flatMap (fun i => (List.range k).map (fun j => i * k + j)) := by
  induction m with
  | zero => simp
  | succ m ih => rw [Nat.succ_mul, List.range_add, ih, List.range_succ, List.flatMap_append, List.flatMap_cons, List.flatMap_nil, List.append_nil]
theorem dgc_cons (T : t_D) (k : Nat) {i c : Nat} (hi : i < wn T) (hc : c < wn T ^ k) : dgc T (k + 1) (i * wn T ^ k + c) = i :: dgc T k c := by
  have hW : 0 < wn T := by omega
  unfold dgc
  rw [List.range'_succ, List.map_cons]
  congr 1
  · rw [Nat.add_sub_cancel, Nat.sub_zero, Nat.add_comm, Nat.add_mul_div_right _ _ (Nat.pow_pos hW), Nat.div_eq_of_lt hc, Nat.zero_add, Nat.mod_eq_of_lt hi]
  · rw [show 0 + 1 = 1 + 0 from rfl, ← List.map_add_range' (a := 1) 0 k 1, List.map_map]
    apply List.map_congr_left
    intro j hj
    have hj := (List.mem_range'_1.mp hj).2
    show (i * wn T ^ k + c) / wn T ^ (k + 1 - 1 - (1 + j)) % wn T = c / wn T ^ (k - 1 - j) % wn T
    have e : wn T ^ k = wn T ^ j * wn T * wn T ^ (k - 1 - j) := by rw [← Nat.pow_succ, ← Nat.pow_add, show j.succ + (k - 1 - j) = k by omega]
    rw [show k + 1 - 1 - (1 + j) = k - 1 - j by omega, e, ← Nat.mul_assoc, Nat.add_comm, Nat.add_mul_div_right _ _ (Nat.pow_pos hW), ← Nat.mul_assoc, Nat.add_mul_mod_self_right]
theorem rn_cons (T : t_D) (k : Nat) (v : Nat → Nat) {i c : Nat} (hi : i < wn T) (hc : c < wn T ^ k) : rn T (k + 1) v (i * wn T ^ k + c) = rn T k (bh T v (wg T i)) c := by
  unfold rn
  rw [dgc_cons T k hi hc, List.foldl_cons]
theorem fs_find {α β : Type} (f : α → β) : ∀ (L : List Nat) (g : Nat → Option α) (h : Nat → Option β), (∀ i ∈ L, (g i).map f = h i) → (L.findSome? g).map f = L.findSome? h
  | [], _, _, _ => rfl
  | i :: L, g, h, q => by
    have q0 := q i (by simp)
    rw [List.findSome?_cons, List.findSome?_cons, ← q0]
    cases hg : g i with
    | none => exact fs_find f L g h (fun j hj => q j (by simp [hj]))
    | some a => rfl
theorem find_cg {p q : Nat → Bool} : ∀ (L : List Nat), (∀ i ∈ L, p i = q i) → L.find? p = L.find? q
  | [], _ => rfl
  | i :: L, h => by
    rw [List.find?_cons, List.find?_cons, h i (by simp), find_cg L (fun j hj => h j (by simp [hj]))]
def gk (T : t_D) (a k : Nat) (v : Nat → Nat) : Nat → Bool := fun c => decide (cnt (rn T k v c) a (T 0 4) = T 0 4)
theorem fs_codes (T : t_D) (a : Nat) : ∀ (k : Nat) (v : Nat → Nat), fs T a k v = ((List.range (wn T ^ k)).find? (gk T a k v)).map (dgc T k) := by
  intro k
  induction k with
  | zero =>
    intro v
    rw [fs, Nat.pow_zero]
    show _ = Option.map (dgc T 0) (List.find? (gk T a 0 v) [0])
    rw [List.find?_cons]
    have e : gk T a 0 v 0 = decide (cnt v a (T 0 4) = T 0 4) := rfl
    rw [e]
    by_cases q : cnt v a (T 0 4) = T 0 4
    · rw [if_pos q, decide_eq_true q]; rfl
    · rw [if_neg q, decide_eq_false q]; rfl
  | succ k ih =>
    intro v
    rw [fs, Nat.pow_succ, Nat.mul_comm, rng_mul, List.find?_flatMap, ← List.range_eq_range']
    symm
    apply fs_find
    intro i hi
    have hi := List.mem_range.mp hi
    rw [ih, List.find?_map, Option.map_map, Option.map_map]
    have e : (List.range (wn T ^ k)).find? (gk T a (k + 1) v ∘ fun j => i * wn T ^ k + j) = (List.range (wn T ^ k)).find? (gk T a k (bh T v (wg T i))) := by
      apply find_cg
      intro c hc
      show gk T a (k + 1) v (i * wn T ^ k + c) = _
      unfold gk
      rw [rn_cons T k v hi (List.mem_range.mp hc)]
    rw [e]
    cases hf : (List.range (wn T ^ k)).find? (gk T a k (bh T v (wg T i))) with
    | none => rfl
    | some c =>
      have hc := List.mem_range.mp (List.mem_of_find?_eq_some hf)
      show some (dgc T (k + 1) (i * wn T ^ k + c)) = some (i :: dgc T k c)
      rw [dgc_cons T k hi hc]
theorem max_fold {g : Nat → Nat} : ∀ (L : List Nat) (b : Nat), L.foldl (fun b i => max b (g i)) b = max b (L.foldl (fun b i => max b (g i)) 0)
  | [], b => by simp
  | i :: L, b => by
    rw [List.foldl_cons, List.foldl_cons, max_fold L (max b (g i)), max_fold L (max 0 (g i))]
    omega
theorem max_cg {g h : Nat → Nat} : ∀ (L : List Nat) (b : Nat), (∀ i ∈ L, g i = h i) → L.foldl (fun b i => max b (g i)) b = L.foldl (fun b i => max b (h i)) b
  | [], _, _ => rfl
  | i :: L, b, q => by
    rw [List.foldl_cons, List.foldl_cons, q i (by simp)]
    exact max_cg L _ (fun j hj => q j (by simp [hj]))
theorem max_flat {g : Nat → Nat} {F : Nat → List Nat} : ∀ (L : List Nat) (b : Nat), (L.flatMap F).foldl (fun b i => max b (g i)) b = L.foldl (fun b i => max b ((F i).foldl (fun b i => max b (g i)) 0)) b
  | [], _ => rfl
  | i :: L, b => by
    rw [List.flatMap_cons, List.foldl_append, List.foldl_cons, max_flat L, max_fold (F i) b]
theorem mf_codes (T : t_D) (a : Nat) : ∀ (k : Nat) (v : Nat → Nat), mf T a k v = (List.range (wn T ^ k)).foldl (fun b c => max b (cnt (rn T k v c) a (T 0 4))) 0 := by
  intro k
  induction k with
  | zero =>
    intro v
    rw [mf, Nat.pow_zero]
    show _ = max 0 (cnt v a (T 0 4))
    omega
  | succ k ih =>
    intro v
    rw [mf, Nat.pow_succ, Nat.mul_comm, rng_mul, max_flat, ← List.range_eq_range']
    apply max_cg
    intro i hi
    have hi := List.mem_range.mp hi
    rw [ih, List.foldl_map]
    apply max_cg
    intro c hc
    rw [rn_cons T k v hi (List.mem_range.mp hc)]
