theorem flat_congr {β : Type} {l : List Nat} {f g : Nat → List β} (h : ∀ x ∈ l, f x = g x) : l.flatMap f = l.flatMap g := by
  induction l with
  | nil => rfl
  | cons a l ih => rw [List.flatMap_cons, List.flatMap_cons, h a (by simp), ih (fun x hx => h x (by simp [hx]))]
/-! ===== rows of TALES: what they are like; how many ===== -/
theorem ta_bits_mem (r : List Nat) (i : Nat) : (ta_bits r).testBit i = true ↔ i ∈ r := by
  have key : ∀ (r : List Nat) (s : Nat), (r.foldl (fun s p => s ||| 2 ^ p) s).testBit i = true ↔ s.testBit i = true ∨ i ∈ r := by
    intro r
    induction r with
    | nil => intro s; simp
    | cons p r ih =>
      intro s
      rw [List.foldl_cons, ih, Nat.testBit_or, Nat.testBit_two_pow]
      simp only [Bool.or_eq_true, decide_eq_true_eq, List.mem_cons]
      constructor
      · rintro ((h | h) | h)
        · exact Or.inl h
        · exact Or.inr (Or.inl h.symm)
        · exact Or.inr (Or.inr h)
      · rintro (h | h | h)
        · exact Or.inl (Or.inl h)
        · exact Or.inl (Or.inr h.symm)
        · exact Or.inr h
  have := key r 0
  simpa [ta_bits] using this
def ta_row (T : t_D) (r : List Nat) : Prop := 2 ≤ r.length ∧ r.length ≤ 8 ∧ (∀ p ∈ r, p < T 0 2) ∧ pc8 (ta_bits r) = r.length ∧ ta_bits r < 256
theorem ta_ext_sub {T : t_D} {S : Nat} : ∀ (d q used kings : Nat) (path r : List Nat), r ∈ ta_ext T S d q used kings path → ∀ p ∈ path, p ∈ r := by
  intro d
  induction d with
  | zero => intro q used kings path r h; simp [ta_ext] at h
  | succ d ih =>
    intro q used kings path r h p hp
    rw [ta_ext, List.mem_flatMap] at h
    obtain ⟨i, -, h⟩ := h
    by_cases hf : ta_fit T S used kings q i = true
    · rw [if_pos hf] at h
      by_cases h3 : T 1 i = 3
      · rw [if_pos h3, List.mem_singleton] at h
        rw [h]
        exact List.mem_append_left _ hp
      · rw [if_neg h3] at h
        exact ih _ _ _ _ r h p (List.mem_append_left _ hp)
    · rw [if_neg hf] at h
      cases h
theorem ta_ext_row {T : t_D} (w : Tw T) {S : Nat} : ∀ (d q used kings : Nat) (path r : List Nat), 1 ≤ path.length → (∀ p ∈ path, p < T 0 2) → ta_bits path = used → used < 256 → pc8 used = path.length → r ∈ ta_ext T S d q used kings path → ta_row T r := by
  have hP := w.1.2
  intro d
  induction d with
  | zero => intro q used kings path r _ _ _ _ _ h; simp [ta_ext] at h
  | succ d ih =>
    intro q used kings path r h1 hm hb hu hpc h
    rw [ta_ext, List.mem_flatMap] at h
    obtain ⟨i, hi, h⟩ := h
    have hi2 := List.mem_range.mp hi
    by_cases hf : ta_fit T S used kings q i = true
    · have hus : used.testBit i = false := by
        simp only [ta_fit, Bool.and_eq_true, Bool.not_eq_true'] at hf
        exact hf.1.1.1.2
      obtain ⟨a1, a2⟩ := pc8_add used hu i (by omega) hus
      have hmm : ∀ p ∈ path ++ [i], p < T 0 2 := by
        intro p hp
        rcases List.mem_append.mp hp with hp | hp
        · exact hm p hp
        · rw [List.mem_singleton.mp hp]; exact hi2
      have hb2 : ta_bits (path ++ [i]) = used ||| 2 ^ i := by rw [ta_bits_app, hb]
      rw [if_pos hf] at h
      by_cases h3 : T 1 i = 3
      · rw [if_pos h3, List.mem_singleton] at h
        subst h
        have := pc8_le (used ||| 2 ^ i)
        refine ⟨by simp; omega, by simp; omega, hmm, by rw [hb2, a1]; simp; omega, by rw [hb2]; exact a2⟩
      · rw [if_neg h3] at h
        exact ih _ _ _ _ r (by simp) hmm hb2 a2 (by rw [a1]; simp; omega) h
    · rw [if_neg hf] at h
      cases h
theorem ta_all_row {T : t_D} (w : Tw T) {S : Nat} {r : List Nat} (h : r ∈ ta_all T S) : ta_row T r := by
  have hP := w.1.2
  rw [ta_all, List.mem_flatMap] at h
  obtain ⟨i, hi, h⟩ := h
  have hi2 := List.mem_range.mp hi
  by_cases hf : ta_fit0 T S i = true
  · rw [if_pos hf] at h
    have hp2 : 2 ^ i < 256 := by have : 2 ^ i < 2 ^ 8 := Nat.pow_lt_pow_right (by omega) (by omega); omega
    exact ta_ext_row w 8 i (2 ^ i) 0 [i] r (by simp) (by simp; exact hi2) (by simp [ta_bits]) hp2 (by rw [pc8_one i (by omega)]; rfl) h
  · rw [if_neg hf] at h
    cases h
/-- those of some pieces are those of all with no other -/
theorem ta_ext_filter {T : t_D} {A S : Nat} (hA : ∀ p, p < T 0 2 → A.testBit p = true) : ∀ (d q used kings : Nat) (path : List Nat), path.all S.testBit = true → ta_ext T S d q used kings path = (ta_ext T A d q used kings path).filter (fun r => r.all S.testBit) := by
  intro d
  induction d with
  | zero => intro q used kings path _; rfl
  | succ d ih =>
    intro q used kings path hp
    rw [ta_ext, ta_ext, List.filter_flatMap]
    apply flat_congr
    intro i hi
    have hiA := hA i (List.mem_range.mp hi)
    by_cases hS : S.testBit i = true
    · have hall : (path ++ [i]).all S.testBit = true := by rw [List.all_append, hp]; simp [hS]
      have e : ta_fit T S used kings q i = ta_fit T A used kings q i := by simp [ta_fit, hS, hiA]
      rw [e]
      by_cases hf : ta_fit T A used kings q i = true
      · rw [if_pos hf, if_pos hf]
        by_cases h3 : T 1 i = 3
        · rw [if_pos h3, if_pos h3, List.filter_cons, if_pos hall, List.filter_nil]
        · rw [if_neg h3, if_neg h3]
          exact ih _ _ _ _ hall
      · rw [if_neg hf, if_neg hf]
        rfl
    · have hS' : S.testBit i = false := by simpa using hS
      have e : ta_fit T S used kings q i = false := by simp [ta_fit, hS']
      rw [e, if_neg (by decide)]
      symm
      rw [List.filter_eq_nil_iff]
      intro r hr hc
      by_cases hf : ta_fit T A used kings q i = true
      · rw [if_pos hf] at hr
        have hir : i ∈ r := by
          by_cases h3 : T 1 i = 3
          · rw [if_pos h3, List.mem_singleton] at hr
            rw [hr]; simp
          · rw [if_neg h3] at hr
            exact ta_ext_sub _ _ _ _ _ r hr i (by simp)
        exact hS (List.all_eq_true.mp hc i hir)
      · rw [if_neg hf] at hr
        cases hr
theorem ta_all_filter {T : t_D} {A S : Nat} (hA : ∀ p, p < T 0 2 → A.testBit p = true) : ta_all T S = (ta_all T A).filter (fun r => r.all S.testBit) := by
  rw [ta_all, ta_all, List.filter_flatMap]
  apply flat_congr
  intro i hi
  have hiA := hA i (List.mem_range.mp hi)
  by_cases hS : S.testBit i = true
  · have e : ta_fit0 T S i = ta_fit0 T A i := by simp [ta_fit0, hS, hiA]
    rw [e]
    by_cases hf : ta_fit0 T A i = true
    · rw [if_pos hf, if_pos hf]
      exact ta_ext_filter hA _ _ _ _ _ (by simp [hS])
    · rw [if_neg hf, if_neg hf]
      rfl
  · have hS' : S.testBit i = false := by simpa using hS
    have e : ta_fit0 T S i = false := by simp [ta_fit0, hS']
    rw [e, if_neg (by decide)]
    symm
    rw [List.filter_eq_nil_iff]
    intro r hr hc
    by_cases hf : ta_fit0 T A i = true
    · rw [if_pos hf] at hr
      exact hS (List.all_eq_true.mp hc i (ta_ext_sub _ _ _ _ _ r hr i (by simp)))
    · rw [if_neg hf] at hr
      cases hr
/-! no more than 162 -/
def lpr (l : List Nat) : Nat := l.foldr (· * ·) 1
def ta_g (T : t_D) (used : Nat) : Nat := lpr ((List.range (T 0 2)).map (fun p => if used.testBit p || T 1 p == 0 then 1 else max 1 (pc8 (T 2 p))))
theorem lpr_pos (l : List Nat) (h : ∀ x ∈ l, 1 ≤ x) : 1 ≤ lpr l := by
  induction l with
  | nil => exact Nat.le_refl 1
  | cons a l ih =>
    have h1 := h a (by simp)
    have h2 := ih (fun x hx => h x (by simp [hx]))
    show 1 ≤ a * lpr l
    exact Nat.le_trans (by omega) (Nat.mul_le_mul h1 h2)
theorem lpr_upd (l : List Nat) (f g : Nat → Nat) (p : Nat) (hn : l.Nodup) (hp : p ∈ l) (hg : g p = 1) (he : ∀ x, x ≠ p → g x = f x) : lpr (l.map f) = f p * lpr (l.map g) := by
  induction l with
  | nil => cases hp
  | cons a l ih =>
    rw [List.nodup_cons] at hn
    show f a * lpr (l.map f) = f p * (g a * lpr (l.map g))
    by_cases h : a = p
    · subst h
      have : l.map f = l.map g := List.map_congr_left (fun x hx => (he x (fun e => hn.1 (e ▸ hx))).symm)
      rw [this, hg, Nat.one_mul]
    · have hp' : p ∈ l := by
        rcases List.mem_cons.mp hp with e | e
        · exact absurd e.symm h
        · exact e
      rw [ih hn.2 hp', he a h, Nat.mul_left_comm]
theorem ta_g_pos (T : t_D) (used : Nat) : 1 ≤ ta_g T used := by
  apply lpr_pos
  intro x hx
  obtain ⟨p, -, rfl⟩ := List.mem_map.mp hx
  split
  · exact Nat.le_refl 1
  · exact Nat.le_max_left 1 _
theorem ta_g_step {T : t_D} {used p : Nat} (hp : p < T 0 2) (hu : used.testBit p = false) (hk : T 1 p ≠ 0) : ta_g T used = max 1 (pc8 (T 2 p)) * ta_g T (used ||| 2 ^ p) := by
  unfold ta_g
  rw [lpr_upd _ _ (fun x => if (used ||| 2 ^ p).testBit x || T 1 x == 0 then 1 else max 1 (pc8 (T 2 x))) p List.nodup_range (List.mem_range.mpr hp)]
  · simp [hu, hk]
  · simp [Nat.testBit_or, Nat.testBit_two_pow]
  · intro x hx
    have : (2 ^ p).testBit x = false := by rw [Nat.testBit_two_pow]; simp; omega
    simp [Nat.testBit_or, this]
theorem flat_le {β : Type} (l : List Nat) (f : Nat → List β) (c : Nat → Bool) (g : Nat) (h : ∀ p ∈ l, (f p).length ≤ if c p then g else 0) : (l.flatMap f).length ≤ (l.filter c).length * g := by
  induction l with
  | nil => simp
  | cons a l ih =>
    have h1 := h a (by simp)
    have h2 := ih (fun p hp => h p (by simp [hp]))
    rw [List.flatMap_cons, List.length_append, List.filter_cons]
    by_cases hc : c a = true
    · rw [if_pos hc] at h1 ⊢
      rw [List.length_cons, Nat.add_mul]
      omega
    · rw [if_neg hc] at h1 ⊢
      omega
theorem pc8_cnt (x n : Nat) (h : n ≤ 8) : ((List.range n).filter (fun p => x.testBit p)).length ≤ pc8 x := by
  have : List.Sublist (List.range n) (List.range 8) := by
    rw [show (8 : Nat) = n + (8 - n) by omega, List.range_add]
    exact List.sublist_append_left _ _
  exact (this.filter _).length_le
theorem ta_ext_len {T : t_D} (w : Tw T) {S : Nat} : ∀ (d q used kings : Nat) (path : List Nat), (ta_ext T S d q used kings path).length ≤ pc8 (T 2 q) * ta_g T used := by
  intro d
  induction d with
  | zero => intro q used kings path; simp [ta_ext]
  | succ d ih =>
    intro q used kings path
    rw [ta_ext]
    refine Nat.le_trans (flat_le _ _ (fun p => (T 2 q).testBit p) (ta_g T used) ?_) (Nat.mul_le_mul_right _ (pc8_cnt _ _ w.1.2))
    intro p hp
    have hp2 := List.mem_range.mp hp
    by_cases hf : ta_fit T S used kings q p = true
    · have hf2 := hf
      simp only [ta_fit, Bool.and_eq_true, Bool.not_eq_true', bne_iff_ne, ne_eq] at hf2
      obtain ⟨⟨⟨⟨-, hu⟩, -⟩, hk⟩, hb⟩ := hf2
      rw [if_pos hf, if_pos hb]
      by_cases h3 : T 1 p = 3
      · rw [if_pos h3]
        exact ta_g_pos T used
      · rw [if_neg h3, ta_g_step hp2 hu hk]
        exact Nat.le_trans (ih _ _ _ _) (Nat.mul_le_mul_right _ (Nat.le_max_right 1 _))
    · rw [if_neg hf]
      exact Nat.zero_le _
def ta_F (n : Nat) : Nat := [1, 1, 2, 3, 4, 6, 9, 12, 18, 27, 36, 54, 81, 108, 162].getD n 0
theorem ta_F_mul : ∀ a, a ≤ 14 → ∀ b, b ≤ 14 → a + b ≤ 14 → ta_F a * ta_F b ≤ ta_F (a + b) := by decide +kernel
theorem ta_F_ge : ∀ a, a ≤ 14 → max 1 a ≤ ta_F a := by decide +kernel
theorem ta_F_le : ∀ a, a ≤ 14 → ta_F a ≤ 162 := by decide +kernel
theorem sum_split (l : List Nat) (d : Nat → Nat) (c : Nat → Bool) : (l.map d).sum = (l.map (fun p => if c p then d p else 0)).sum + (l.map (fun p => if c p then 0 else d p)).sum := by
  induction l with
  | nil => rfl
  | cons a l ih =>
    simp only [List.map_cons, List.sum_cons]
    by_cases h : c a = true
    · simp only [h, if_true]; omega
    · simp only [h]; simp; omega
theorem lpr_F (l : List Nat) (d : Nat → Nat) (c : Nat → Bool) (h : (l.map (fun p => if c p then 0 else d p)).sum ≤ 14) : lpr (l.map (fun p => if c p then 1 else max 1 (d p))) ≤ ta_F ((l.map (fun p => if c p then 0 else d p)).sum) := by
  induction l with
  | nil => exact Nat.le_refl 1
  | cons a l ih =>
    simp only [List.map_cons, List.sum_cons] at h ⊢
    show _ * lpr _ ≤ _
    have h2 := ih (by omega)
    by_cases hc : c a = true
    · rw [if_pos hc, if_pos hc, Nat.one_mul, Nat.zero_add]
      exact h2
    · rw [if_neg hc] at h ⊢
      rw [if_neg hc]
      exact Nat.le_trans (Nat.mul_le_mul (ta_F_ge _ (by omega)) h2) (ta_F_mul _ (by omega) _ (by omega) (by omega))
theorem flat_sum {β : Type} (l : List Nat) (f : Nat → List β) (u : Nat → Nat) (g : Nat) (h : ∀ p ∈ l, (f p).length ≤ u p * g) : (l.flatMap f).length ≤ (l.map u).sum * g := by
  induction l with
  | nil => simp
  | cons a l ih =>
    have h1 := h a (by simp)
    have h2 := ih (fun p hp => h p (by simp [hp]))
    rw [List.flatMap_cons, List.length_append, List.map_cons, List.sum_cons, Nat.add_mul]
    omega
theorem ta_all_len {T : t_D} (w : Tw T) (S : Nat) : (ta_all T S).length ≤ 162 := by
  have hsum := w.2.2.2.2.2.2.2.2.2.2.2
  have h14 := w.2.2.2.1
  rw [sum_split _ _ (fun p => T 1 p == 0)] at hsum
  have hg : ∀ p, p < T 0 2 → T 1 p = 0 → ta_g T (2 ^ p) = ta_g T 0 := by
    intro p hp hk
    unfold ta_g
    congr 1
    apply List.map_congr_left
    intro x _
    by_cases hx : x = p
    · subst hx; simp [hk]
    · have : (2 ^ p).testBit x = false := by rw [Nat.testBit_two_pow]; simp; omega
      simp [this]
  have h1 : (ta_all T S).length ≤ ((List.range (T 0 2)).map (fun p => if T 1 p == 0 then pc8 (T 2 p) else 0)).sum * ta_g T 0 := by
    unfold ta_all
    apply flat_sum
    intro p hp
    have hp2 := List.mem_range.mp hp
    by_cases hf : ta_fit0 T S p = true
    · have hk : T 1 p = 0 := by simp [ta_fit0] at hf; exact hf.2
      rw [if_pos hf, if_pos (by simp [hk]), ← hg p hp2 hk]
      exact ta_ext_len w _ _ _ _ _
    · rw [if_neg hf]
      exact Nat.zero_le _
  have h2 : ta_g T 0 ≤ ta_F ((List.range (T 0 2)).map (fun p => if T 1 p == 0 then 0 else pc8 (T 2 p))).sum := by
    have := lpr_F (List.range (T 0 2)) (fun p => pc8 (T 2 p)) (fun p => T 1 p == 0) (by omega)
    unfold ta_g
    simpa using this
  refine Nat.le_trans h1 ?_
  refine Nat.le_trans (Nat.mul_le_mul (Nat.le_trans (Nat.le_max_right 1 _) (ta_F_ge _ (by omega))) h2) ?_
  refine Nat.le_trans (ta_F_mul _ (by omega) _ (by omega) (by omega)) (ta_F_le _ (by omega))
