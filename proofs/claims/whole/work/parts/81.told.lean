/-! ===== what has been told: both ===== -/
/-- the numbers told so far -/
def Tp (T : t_D) : Prop := T 0 2 ≤ 8 ∧ T 0 0 ≤ 4 ∧ T 0 1 ≤ 100 ∧ T 0 3 ≤ 14 ∧ T 0 4 ≤ 5 ∧ T 0 5 ≤ 14 ∧ T 0 6 < 2 ^ T 0 4 ∧ T 0 7 ≤ 6 ∧ (∀ p, p < T 0 2 → T 1 p < 4 ∧ T 2 p < 2 ^ T 0 2 ∧ (T 2 p).testBit p = false) ∧ (∀ h, h < T 0 4 → T 3 h ≤ 99 ∧ T 4 h ≤ T 5 h ∧ T 5 h ≤ 23 ∧ T 6 h < 2 ^ T 0 2) ∧ (∀ i, i < T 0 7 → T 7 i < T 0 2) ∧ ((List.range (T 0 2)).map (fun p => pc8 (T 2 p))).sum = T 0 3 ∧ (∀ p, T 0 2 ≤ p → T 2 p = 0) ∧ ∀ h, T 0 4 ≤ h → T 6 h = 0
theorem Tp.tw {T : t_D} (h : Tp T) (h1 : 1 ≤ T 0 2) : Tw T := ⟨⟨h1, h.1⟩, h.2.1, h.2.2.1, h.2.2.2.1, h.2.2.2.2.1, h.2.2.2.2.2.1, h.2.2.2.2.2.2.1, h.2.2.2.2.2.2.2.1, h.2.2.2.2.2.2.2.2.1, h.2.2.2.2.2.2.2.2.2.1, h.2.2.2.2.2.2.2.2.2.2.1, h.2.2.2.2.2.2.2.2.2.2.2.1⟩
def tu (T : t_D) (a b v : Nat) : t_D := fun i j => if i = a ∧ j = b then v else T i j
theorem tu_s (T : t_D) (a b v : Nat) : tu T a b v a b = v := if_pos ⟨rfl, rfl⟩
theorem tu_n {T : t_D} {a b v i j : Nat} (h : ¬ (i = a ∧ j = b)) : tu T a b v i j = T i j := if_neg h
theorem Tp.zero : Tp (fun _ _ => 0) := ⟨by decide, by decide, by decide, by decide, by decide, by decide, by decide, by decide, fun p h => absurd h (Nat.not_lt_zero p), fun p h => absurd h (Nat.not_lt_zero p), fun p h => absurd h (Nat.not_lt_zero p), rfl, fun _ _ => rfl, fun _ _ => rfl⟩
theorem Tp.nurse {T : t_D} (h : Tp T) {a b : Nat} (ha : a ≤ 4) (hb : b ≤ 100) : Tp (tu (tu T 0 0 a) 0 1 b) :=
  ⟨h.1, ha, hb, h.2.2.2.1, h.2.2.2.2.1, h.2.2.2.2.2.1, h.2.2.2.2.2.2.1, h.2.2.2.2.2.2.2.1, h.2.2.2.2.2.2.2.2.1, h.2.2.2.2.2.2.2.2.2.1, h.2.2.2.2.2.2.2.2.2.2.1, h.2.2.2.2.2.2.2.2.2.2.2.1, h.2.2.2.2.2.2.2.2.2.2.2.2.1, h.2.2.2.2.2.2.2.2.2.2.2.2.2⟩
theorem sum_r1 (f : Nat → Nat) (n : Nat) : ((List.range (n + 1)).map f).sum = ((List.range n).map f).sum + f n := by
  rw [List.range_succ, List.map_append, List.sum_append]
  simp
theorem sum_up (f g : Nat → Nat) (a : Nat) (ha : g a = f a + 1) (hn : ∀ p, p ≠ a → g p = f p) : ∀ n, ((List.range n).map g).sum = ((List.range n).map f).sum + if a < n then 1 else 0
  | 0 => rfl
  | n + 1 => by
    rw [sum_r1, sum_r1, sum_up f g a ha hn n]
    by_cases e : n = a
    · rw [e, ha, if_neg (by omega), if_pos (by omega)]
      omega
    · rw [hn n e]
      by_cases l : a < n
      · rw [if_pos l, if_pos (by omega)]
        omega
      · rw [if_neg l, if_neg (by omega)]
        omega
theorem pw8 {k : Nat} (h : k ≤ 8) : 2 ^ k ≤ 256 := Nat.pow_le_pow_right (n := 2) (by omega) h
theorem Tp.f256 {T : t_D} (h : Tp T) (p : Nat) : T 2 p < 256 := by
  have := pw8 h.1
  rcases Nat.lt_or_ge p (T 0 2) with l | l
  · have := (h.2.2.2.2.2.2.2.2.1 p l).2.1
    omega
  · rw [h.2.2.2.2.2.2.2.2.2.2.2.2.1 p l]
    decide
theorem Tp.h256 {T : t_D} (h : Tp T) (p : Nat) : T 6 p < 256 := by
  have := pw8 h.1
  rcases Nat.lt_or_ge p (T 0 4) with l | l
  · have := (h.2.2.2.2.2.2.2.2.2.1 p l).2.2.2
    omega
  · rw [h.2.2.2.2.2.2.2.2.2.2.2.2.2 p l]
    decide
theorem Tp.s32 {T : t_D} (h : Tp T) : T 0 6 < 32 := by
  have h4 := h.2.2.2.2.1
  have := h.2.2.2.2.2.2.1
  have : 2 ^ T 0 4 ≤ 2 ^ 5 := Nat.pow_le_pow_right (n := 2) (by omega) h4
  omega
theorem pw_lt {a b : Nat} (h : a < b) : 2 ^ a < 2 ^ b := Nat.pow_lt_pow_right (by decide) h
theorem tb_or {a b p : Nat} (h : a.testBit p = false) (hb : b ≠ p) : (a ||| 2 ^ b).testBit p = false := by
  rw [Nat.testBit_or, h, Nat.testBit_two_pow]
  simp [hb]
theorem Tp.follows {T : t_D} (h : Tp T) {a b : Nat} (ha : a < T 0 2) (hb : b < T 0 2) (hab : b ≠ a) (hf : (T 2 a).testBit b = false) (h3 : T 0 3 < 14) : Tp (tu (tu T 2 a (T 2 a ||| 2 ^ b)) 0 3 (T 0 3 + 1)) := by
  have h8 := h.1
  have hs : ∀ p, p ≠ a → tu (tu T 2 a (T 2 a ||| 2 ^ b)) 0 3 (T 0 3 + 1) 2 p = T 2 p := fun p hp => by rw [tu_n (by omega), tu_n (by omega)]
  have hsa : tu (tu T 2 a (T 2 a ||| 2 ^ b)) 0 3 (T 0 3 + 1) 2 a = T 2 a ||| 2 ^ b := by rw [tu_n (by omega), tu_s]
  refine ⟨h.1, h.2.1, h.2.2.1, h3, h.2.2.2.2.1, h.2.2.2.2.2.1, h.2.2.2.2.2.2.1, h.2.2.2.2.2.2.2.1, fun p hp => ?_, h.2.2.2.2.2.2.2.2.2.1, h.2.2.2.2.2.2.2.2.2.2.1, ?_, fun p hp => ?_, h.2.2.2.2.2.2.2.2.2.2.2.2.2⟩
  · have hp' : p < T 0 2 := hp
    obtain ⟨o1, o2, o3⟩ := h.2.2.2.2.2.2.2.2.1 p hp'
    refine ⟨o1, ?_⟩
    by_cases e : p = a
    · rw [e, hsa]
      rw [e] at o2 o3
      exact ⟨Nat.or_lt_two_pow o2 (pw_lt hb), tb_or o3 hab⟩
    · rw [hs p e]
      exact ⟨o2, o3⟩
  · have := sum_up (fun p => pc8 (T 2 p)) (fun p => pc8 (tu (tu T 2 a (T 2 a ||| 2 ^ b)) 0 3 (T 0 3 + 1) 2 p)) a (by
      show pc8 _ = pc8 _ + 1
      rw [hsa]
      exact (pc8_add (T 2 a) (h.f256 a) b (by omega) hf).1) (fun p hp => by
      show pc8 _ = pc8 _
      rw [hs p hp]) (T 0 2)
    rw [if_pos ha, h.2.2.2.2.2.2.2.2.2.2.2.1] at this
    exact this
  · have hp' : T 0 2 ≤ p := hp
    rw [hs p (by omega)]
    exact h.2.2.2.2.2.2.2.2.2.2.2.2.1 p hp'
theorem Tp.heard {T : t_D} (h : Tp T) {a b : Nat} (ha : a < T 0 4) (hb : b < T 0 2) (h5 : T 0 5 < 14) : Tp (tu (tu T 6 a (T 6 a ||| 2 ^ b)) 0 5 (T 0 5 + 1)) := by
  have hs : ∀ p, p ≠ a → tu (tu T 6 a (T 6 a ||| 2 ^ b)) 0 5 (T 0 5 + 1) 6 p = T 6 p := fun p hp => by rw [tu_n (by omega), tu_n (by omega)]
  have hsa : tu (tu T 6 a (T 6 a ||| 2 ^ b)) 0 5 (T 0 5 + 1) 6 a = T 6 a ||| 2 ^ b := by rw [tu_n (by omega), tu_s]
  refine ⟨h.1, h.2.1, h.2.2.1, h.2.2.2.1, h.2.2.2.2.1, h5, h.2.2.2.2.2.2.1, h.2.2.2.2.2.2.2.1, h.2.2.2.2.2.2.2.2.1, fun k hk => ?_, h.2.2.2.2.2.2.2.2.2.2.1, h.2.2.2.2.2.2.2.2.2.2.2.1, h.2.2.2.2.2.2.2.2.2.2.2.2.1, fun k hk => ?_⟩
  · have hk' : k < T 0 4 := hk
    obtain ⟨o1, o2, o3, o4⟩ := h.2.2.2.2.2.2.2.2.2.1 k hk'
    refine ⟨o1, o2, o3, ?_⟩
    by_cases e : k = a
    · rw [e, hsa]
      rw [e] at o4
      exact Nat.or_lt_two_pow o4 (pw_lt hb)
    · rw [hs k e]
      exact o4
  · have hk' : T 0 4 ≤ k := hk
    rw [hs k (by omega)]
    exact h.2.2.2.2.2.2.2.2.2.2.2.2.2 k hk'
theorem Tp.silent {T : t_D} (h : Tp T) {a : Nat} (ha : a < T 0 4) : Tp (tu T 0 6 (T 0 6 ||| 2 ^ a)) :=
  ⟨h.1, h.2.1, h.2.2.1, h.2.2.2.1, h.2.2.2.2.1, h.2.2.2.2.2.1, Nat.or_lt_two_pow h.2.2.2.2.2.2.1 (pw_lt ha), h.2.2.2.2.2.2.2.1, h.2.2.2.2.2.2.2.2.1, h.2.2.2.2.2.2.2.2.2.1, h.2.2.2.2.2.2.2.2.2.2.1, h.2.2.2.2.2.2.2.2.2.2.2.1, h.2.2.2.2.2.2.2.2.2.2.2.2.1, h.2.2.2.2.2.2.2.2.2.2.2.2.2⟩
theorem Tp.piece {T : t_D} (h : Tp T) {p c : Nat} (hp : p = T 0 2) (h8 : p < 8) (hc : c < 4) : Tp (tu (tu T 1 p c) 0 2 (p + 1)) := by
  have hpw : 2 ^ T 0 2 ≤ 2 ^ (p + 1) := Nat.pow_le_pow_right (n := 2) (by omega) (by omega)
  have z := h.2.2.2.2.2.2.2.2.2.2.2.2.1
  refine ⟨h8, h.2.1, h.2.2.1, h.2.2.2.1, h.2.2.2.2.1, h.2.2.2.2.2.1, h.2.2.2.2.2.2.1, h.2.2.2.2.2.2.2.1, fun k hk => ?_, fun k hk => ?_, fun i hi => ?_, ?_, fun k hk => ?_, h.2.2.2.2.2.2.2.2.2.2.2.2.2⟩
  · have hk' : k < p + 1 := hk
    show _ ∧ T 2 k < 2 ^ (p + 1) ∧ (T 2 k).testBit k = false
    by_cases e : k = p
    · rw [z k (by omega), e, tu_n (by omega), tu_s]
      exact ⟨hc, Nat.pos_of_ne_zero (by simp), by simp⟩
    · obtain ⟨o1, o2, o3⟩ := h.2.2.2.2.2.2.2.2.1 k (by omega)
      rw [tu_n (by omega), tu_n (by omega)]
      exact ⟨o1, by omega, o3⟩
  · obtain ⟨o1, o2, o3, o4⟩ := h.2.2.2.2.2.2.2.2.2.1 k hk
    refine ⟨o1, o2, o3, ?_⟩
    show T 6 k < 2 ^ (p + 1)
    omega
  · have := h.2.2.2.2.2.2.2.2.2.2.1 i hi
    show T 7 i < p + 1
    omega
  · show ((List.range (p + 1)).map (fun p => pc8 (T 2 p))).sum = T 0 3
    rw [sum_r1, z p (by omega), hp, h.2.2.2.2.2.2.2.2.2.2.2.1]
    have : pc8 0 = 0 := by decide
    omega
  · have hk' : p + 1 ≤ k := hk
    exact z k (by omega)
theorem Tp.house {T : t_D} (h : Tp T) {k a b c : Nat} (hk : k = T 0 4) (h5 : k < 5) (ha : a ≤ 99) (hb : b ≤ c) (hc : c ≤ 23) : Tp (tu (tu (tu (tu T 3 k a) 4 k b) 5 k c) 0 4 (k + 1)) := by
  have hpw : 2 ^ T 0 4 ≤ 2 ^ (k + 1) := Nat.pow_le_pow_right (n := 2) (by omega) (by omega)
  have z := h.2.2.2.2.2.2.2.2.2.2.2.2.2
  have hs6 := h.2.2.2.2.2.2.1
  refine ⟨h.1, h.2.1, h.2.2.1, h.2.2.2.1, h5, h.2.2.2.2.2.1, ?_, h.2.2.2.2.2.2.2.1, h.2.2.2.2.2.2.2.2.1, fun i hi => ?_, h.2.2.2.2.2.2.2.2.2.2.1, h.2.2.2.2.2.2.2.2.2.2.2.1, h.2.2.2.2.2.2.2.2.2.2.2.2.1, fun i hi => ?_⟩
  · show T 0 6 < 2 ^ (k + 1)
    omega
  · have hi' : i < k + 1 := hi
    show _ ∧ _ ∧ _ ∧ T 6 i < 2 ^ T 0 2
    by_cases e : i = k
    · rw [z i (by omega), e, tu_n (by omega), tu_n (by omega), tu_n (by omega), tu_s, tu_n (by omega), tu_n (by omega), tu_s, tu_n (by omega), tu_s]
      exact ⟨ha, hb, hc, Nat.pos_of_ne_zero (by simp)⟩
    · rw [tu_n (by omega), tu_n (by omega), tu_n (by omega), tu_n (by omega), tu_n (by omega), tu_n (by omega), tu_n (by omega), tu_n (by omega), tu_n (by omega), tu_n (by omega), tu_n (by omega), tu_n (by omega)]
      exact h.2.2.2.2.2.2.2.2.2.1 i (by omega)
  · have hi' : k + 1 ≤ i := hi
    exact z i (by omega)
theorem Tp.mixed {T : t_D} (h : Tp T) {i p : Nat} (hi : i = T 0 7) (h6 : i < 6) (hp : p < T 0 2) : Tp (tu (tu T 7 i p) 0 7 (i + 1)) := by
  refine ⟨h.1, h.2.1, h.2.2.1, h.2.2.2.1, h.2.2.2.2.1, h.2.2.2.2.2.1, h.2.2.2.2.2.2.1, h6, h.2.2.2.2.2.2.2.2.1, h.2.2.2.2.2.2.2.2.2.1, fun k hk => ?_, h.2.2.2.2.2.2.2.2.2.2.2.1, h.2.2.2.2.2.2.2.2.2.2.2.2.1, h.2.2.2.2.2.2.2.2.2.2.2.2.2⟩
  have hk' : k < i + 1 := hk
  show _ < T 0 2
  by_cases e : k = i
  · rw [e, tu_n (by omega), tu_s]
    exact hp
  · rw [tu_n (by omega), tu_n (by omega)]
    exact h.2.2.2.2.2.2.2.2.2.2.1 k (by omega)
/-- which numbers stand in the cells so far -/
def dn (P H M : Nat) (g : Bool) (a k : Nat) : Prop := (a = 0 ∧ 2 ≤ k ∧ k < 8) ∨ (a = 0 ∧ k < 2 ∧ g = true) ∨ (a = 2 ∧ k < 8) ∨ (a = 1 ∧ k < P) ∨ (a = 6 ∧ k < 5) ∨ ((a = 3 ∨ a = 4 ∨ a = 5) ∧ k < H) ∨ (a = 7 ∧ k < M)
def dm (T : t_D) (g : Bool) (a k : Nat) : Prop := dn (T 0 2) (T 0 4) (T 0 7) g a k
theorem dn_p {P H M : Nat} {g : Bool} {a k : Nat} (h : dn (P + 1) H M g a k) : dn P H M g a k ∨ (a = 1 ∧ k = P) := by
  rcases h with h | h | h | h | h | h
  · exact Or.inl (Or.inl h)
  · exact Or.inl (Or.inr (Or.inl h))
  · exact Or.inl (Or.inr (Or.inr (Or.inl h)))
  · by_cases e : k = P
    · exact Or.inr ⟨h.1, e⟩
    · exact Or.inl (Or.inr (Or.inr (Or.inr (Or.inl ⟨h.1, by omega⟩))))
  · exact Or.inl (Or.inr (Or.inr (Or.inr (Or.inr (Or.inl h)))))
  · exact Or.inl (Or.inr (Or.inr (Or.inr (Or.inr (Or.inr h)))))
theorem dn_h {P H M : Nat} {g : Bool} {a k : Nat} (h : dn P (H + 1) M g a k) : dn P H M g a k ∨ ((a = 3 ∨ a = 4 ∨ a = 5) ∧ k = H) := by
  rcases h with h | h | h | h | h | h | h
  · exact Or.inl (Or.inl h)
  · exact Or.inl (Or.inr (Or.inl h))
  · exact Or.inl (Or.inr (Or.inr (Or.inl h)))
  · exact Or.inl (Or.inr (Or.inr (Or.inr (Or.inl h))))
  · exact Or.inl (Or.inr (Or.inr (Or.inr (Or.inr (Or.inl h)))))
  · by_cases e : k = H
    · exact Or.inr ⟨h.1, e⟩
    · exact Or.inl (Or.inr (Or.inr (Or.inr (Or.inr (Or.inr (Or.inl ⟨h.1, by omega⟩))))))
  · exact Or.inl (Or.inr (Or.inr (Or.inr (Or.inr (Or.inr (Or.inr h))))))
theorem dn_m {P H M : Nat} {g : Bool} {a k : Nat} (h : dn P H (M + 1) g a k) : dn P H M g a k ∨ (a = 7 ∧ k = M) := by
  rcases h with h | h | h | h | h | h | h
  · exact Or.inl (Or.inl h)
  · exact Or.inl (Or.inr (Or.inl h))
  · exact Or.inl (Or.inr (Or.inr (Or.inl h)))
  · exact Or.inl (Or.inr (Or.inr (Or.inr (Or.inl h))))
  · exact Or.inl (Or.inr (Or.inr (Or.inr (Or.inr (Or.inl h)))))
  · exact Or.inl (Or.inr (Or.inr (Or.inr (Or.inr (Or.inr (Or.inl h))))))
  · by_cases e : k = M
    · exact Or.inr ⟨h.1, e⟩
    · exact Or.inl (Or.inr (Or.inr (Or.inr (Or.inr (Or.inr (Or.inr ⟨h.1, by omega⟩))))))
theorem dn_g {P H M : Nat} {g : Bool} {a k : Nat} (h : dn P H M true a k) : dn P H M g a k ∨ (a = 0 ∧ k < 2) := by
  rcases h with h | h | h
  · exact Or.inl (Or.inl h)
  · exact Or.inr ⟨h.1, h.2.1⟩
  · exact Or.inl (Or.inr (Or.inr h))
theorem dm7 {T : t_D} {g : Bool} {a k : Nat} (h : dm T g a k) : a ≤ 7 := by
  rcases h with h | h | h | h | h | h | h <;> omega
def Sd (o : Nat) (D : Nat → Nat → Prop) (T : t_D) (x : k_St) : Prop := ∀ a k, D a k → x.1 (o + a) k = nI (T a k)
theorem Sd.set {o : Nat} {D : Nat → Nat → Prop} {T : t_D} {x : k_St} (h : Sd o D T x) (a k v : Nat) : Sd o (fun b j => D b j ∨ (b = a ∧ j = k)) (tu T a k v) (k_sI x (o + a) k (nI v)) := by
  intro b j hd
  rw [sI1]
  by_cases e : b = a ∧ j = k
  · rw [if_pos ⟨by omega, e.2⟩, e.1, e.2, tu_s]
  · rw [if_neg (by omega), tu_n e]
    rcases hd with hd | hd
    · exact h b j hd
    · exact absurd hd e
theorem Sd.add {o : Nat} {D : Nat → Nat → Prop} {T : t_D} {x : k_St} (h : Sd o D T x) (a k v : Nat) (e : x.1 (o + a) k = nI v) : Sd o (fun b j => D b j ∨ (b = a ∧ j = k)) (tu T a k v) x := by
  intro b j hd
  by_cases z : b = a ∧ j = k
  · rw [z.1, z.2, tu_s]
    exact e
  · rw [tu_n z]
    rcases hd with hd | hd
    · exact h b j hd
    · exact absurd hd z
theorem Sd.mono {o : Nat} {D E : Nat → Nat → Prop} {T : t_D} {x : k_St} (h : Sd o D T x) (e : ∀ a k, E a k → D a k) : Sd o E T x := fun a k q => h a k (e a k q)
theorem Sd.fr {o : Nat} {D : Nat → Nat → Prop} {T : t_D} {x y : k_St} (h : Sd o D T x) (e : ∀ a k, D a k → y.1 (o + a) k = x.1 (o + a) k) : Sd o D T y := fun a k q => (e a k q).trans (h a k q)
theorem NX.xr {NP NH : List Nat} {x y : k_St} (h : NX NP NH x) (e : xr x y) : NX NP NH y := ⟨fun i w hi => by rw [e.2 19 i (by omega)]; exact h.1 i w hi, fun i w hi => by rw [e.2 20 i (by omega)]; exact h.2 i w hi⟩
theorem NMm.mo {NM : List (Nat × Nat × Nat)} {m u : k_St} (h : NMm NM m) (e : mo m u) : NMm NM u := ⟨by rw [e.1 18 8 (by omega)]; exact h.1, fun k d hk => by rw [e.2 26 k (by omega), e.1 27 k (by omega), e.1 28 k (by omega)]; exact h.2 k d hk⟩
