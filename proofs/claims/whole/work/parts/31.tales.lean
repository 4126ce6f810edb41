/-! ===== what a text told, as numbers: T 0 i: kings, sleeps, pieces, follows, houses, heard, silent, mixed; T 1 kinds, T 2 followers, T 3 places, T 4 from, T 5 to, T 6 heard, T 7 the mixed row ===== -/
abbrev t_D : Type := Nat → Nat → Nat
def Tw (T : t_D) : Prop := (1 ≤ T 0 2 ∧ T 0 2 ≤ 8) ∧ T 0 0 ≤ 4 ∧ T 0 1 ≤ 100 ∧ T 0 3 ≤ 14 ∧ T 0 4 ≤ 5 ∧ T 0 5 ≤ 14 ∧ T 0 6 < 2 ^ T 0 4 ∧ T 0 7 ≤ 6 ∧
  (∀ p, p < T 0 2 → T 1 p < 4 ∧ T 2 p < 2 ^ T 0 2 ∧ (T 2 p).testBit p = false) ∧ (∀ h, h < T 0 4 → T 3 h ≤ 99 ∧ T 4 h ≤ T 5 h ∧ T 5 h ≤ 23 ∧ T 6 h < 2 ^ T 0 2) ∧ (∀ i, i < T 0 7 → T 7 i < T 0 2) ∧
  ((List.range (T 0 2)).map (fun p => pc8 (T 2 p))).sum = T 0 3
def XT (T : t_D) (t : k_St) : Prop := (∀ i, i < 8 → t.1 2 i = nI (T 0 i)) ∧ (∀ p, p < T 0 2 → t.1 3 p = nI (T 1 p) ∧ t.1 4 p = nI (T 2 p)) ∧ (∀ h, h < T 0 4 → t.1 5 h = nI (T 3 h) ∧ t.1 6 h = nI (T 4 h) ∧ t.1 7 h = nI (T 5 h) ∧ t.1 8 h = nI (T 6 h)) ∧ ∀ i, i < T 0 7 → t.1 9 i = nI (T 7 i)
def MTT (T : t_D) (t : k_St) : Prop := (∀ i, i < 8 → t.1 18 i = nI (T 0 i)) ∧ (∀ p, p < T 0 2 → t.1 19 p = nI (T 1 p) ∧ t.1 20 p = nI (T 2 p)) ∧ (∀ h, h < T 0 4 → t.1 21 h = nI (T 3 h) ∧ t.1 22 h = nI (T 4 h) ∧ t.1 23 h = nI (T 5 h) ∧ t.1 24 h = nI (T 6 h)) ∧ ∀ i, i < T 0 7 → t.1 25 i = nI (T 7 i)
theorem XT.same {T : t_D} {t u : k_St} (h : XT T t) (e : ∀ o k, 2 ≤ o → o ≤ 9 → u.1 o k = t.1 o k) : XT T u :=
  ⟨fun i hi => by rw [e 2 i (by omega) (by omega)]; exact h.1 i hi, fun p hp => by rw [e 3 p (by omega) (by omega), e 4 p (by omega) (by omega)]; exact h.2.1 p hp, fun k hk => by rw [e 5 k (by omega) (by omega), e 6 k (by omega) (by omega), e 7 k (by omega) (by omega), e 8 k (by omega) (by omega)]; exact h.2.2.1 k hk, fun i hi => by rw [e 9 i (by omega) (by omega)]; exact h.2.2.2 i hi⟩
theorem MTT.same {T : t_D} {t u : k_St} (h : MTT T t) (e : ∀ o k, 18 ≤ o → o ≤ 25 → u.1 o k = t.1 o k) : MTT T u :=
  ⟨fun i hi => by rw [e 18 i (by omega) (by omega)]; exact h.1 i hi, fun p hp => by rw [e 19 p (by omega) (by omega), e 20 p (by omega) (by omega)]; exact h.2.1 p hp, fun k hk => by rw [e 21 k (by omega) (by omega), e 22 k (by omega) (by omega), e 23 k (by omega) (by omega), e 24 k (by omega) (by omega)]; exact h.2.2.1 k hk, fun i hi => by rw [e 25 i (by omega) (by omega)]; exact h.2.2.2 i hi⟩
theorem Tw.pow {T : t_D} (w : Tw T) : 2 ^ T 0 2 ≤ 256 := by
  have h := w.1.2
  have : 2 ^ T 0 2 ≤ 2 ^ 8 := Nat.pow_le_pow_right (by omega) h
  omega
theorem Tw.next {T : t_D} (w : Tw T) {p : Nat} (hp : p < T 0 2) : T 2 p < 256 := by
  have h1 := (w.2.2.2.2.2.2.2.2.1 p hp).2.1
  have h2 := w.pow
  omega
/-! ===== TALES of pieces S ===== -/
def ta_fit (T : t_D) (S used kings q p : Nat) : Bool := S.testBit p && !used.testBit p && !(T 1 p == 2 && kings == T 0 0) && (T 1 p != 0) && (T 2 q).testBit p
def ta_fit0 (T : t_D) (S p : Nat) : Bool := S.testBit p && (T 1 p == 0)
def ta_ext (T : t_D) (S : Nat) : Nat → Nat → Nat → Nat → List Nat → List (List Nat)
  | 0, _, _, _, _ => []
  | d + 1, q, used, kings, path => (List.range (T 0 2)).flatMap fun p => if ta_fit T S used kings q p then (if T 1 p = 3 then [path ++ [p]] else ta_ext T S d p (used ||| 2 ^ p) (if T 1 p = 2 then kings + 1 else kings) (path ++ [p])) else []
def ta_all (T : t_D) (S : Nat) : List (List Nat) := (List.range (T 0 2)).flatMap fun p => if ta_fit0 T S p then ta_ext T S 8 p (2 ^ p) 0 [p] else []
def ta_code (r : List Nat) : Nat := r.foldl (fun c p => c * 10 + p + 1) 0
def ta_bits (r : List Nat) : Nat := r.foldl (fun s p => s ||| 2 ^ p) 0
def ta_enc (r : List Nat) : Nat × Nat := (ta_code r, ta_bits r)
theorem ta_code_app (r : List Nat) (p : Nat) : ta_code (r ++ [p]) = ta_code r * 10 + p + 1 := by simp [ta_code, List.foldl_append]
theorem ta_bits_app (r : List Nat) (p : Nat) : ta_bits (r ++ [p]) = ta_bits r ||| 2 ^ p := by simp [ta_bits, List.foldl_append]
/-! the class's table -/
def ta_add1 (t : k_St) (c s : Nat) : k_St := k_sI (k_sI (k_sI t 22 (t.1 21 0).toNatClampNeg (nI c)) 23 (t.1 21 0).toNatClampNeg (nI s)) 21 0 (t.1 21 0 + 1)
def ta_put (t : k_St) (L : List (Nat × Nat)) : k_St := L.foldl (fun t q => ta_add1 t q.1 q.2) t
theorem ta_put_app (t : k_St) (L M : List (Nat × Nat)) : ta_put t (L ++ M) = ta_put (ta_put t L) M := by simp [ta_put, List.foldl_append]
theorem ta_add1_o (t : k_St) (c s o k : Nat) (h : o ≠ 21 ∧ o ≠ 22 ∧ o ≠ 23) : (ta_add1 t c s).1 o k = t.1 o k := by
  unfold ta_add1
  rw [sI1, if_neg (fun q => h.1 q.1), sI1, if_neg (fun q => h.2.2 q.1), sI1, if_neg (fun q => h.2.1 q.1)]
theorem ta_put_o (L : List (Nat × Nat)) : ∀ (t : k_St) (o k : Nat), (o ≠ 21 ∧ o ≠ 22 ∧ o ≠ 23) → (ta_put t L).1 o k = t.1 o k := by
  induction L with
  | nil => intro t o k _; rfl
  | cons q L ih => intro t o k h; exact (ih _ o k h).trans (ta_add1_o t _ _ o k h)
theorem ta_put_2 (L : List (Nat × Nat)) : ∀ (t : k_St), (ta_put t L).2 = t.2 := by
  induction L with
  | nil => intro t; rfl
  | cons q L ih => intro t; exact ih _
theorem ta_add1_n (t : k_St) (c s : Nat) {m : Nat} (h : t.1 21 0 = nI m) : (ta_add1 t c s).1 21 0 = nI (m + 1) := by
  unfold ta_add1
  rw [sI1, if_pos ⟨rfl, rfl⟩, h, nI_1]
theorem ta_put_n (L : List (Nat × Nat)) : ∀ (t : k_St) (m : Nat), t.1 21 0 = nI m → (ta_put t L).1 21 0 = nI (m + L.length) := by
  induction L with
  | nil => intro t m h; exact h
  | cons q L ih =>
    intro t m h
    have := ih (ta_add1 t q.1 q.2) (m + 1) (ta_add1_n t _ _ h)
    rw [show ta_put t (q :: L) = ta_put (ta_add1 t q.1 q.2) L from rfl, this, List.length_cons, show m + 1 + L.length = m + (L.length + 1) by omega]
theorem XT.put {T : t_D} {t : k_St} (h : XT T t) (L : List (Nat × Nat)) : XT T (ta_put t L) := h.same (fun o k h1 h2 => ta_put_o L t o k (by omega))
theorem fTa_add {t : k_St} {m c s : Nat} (h : t.1 21 0 = nI m) (hm : m < 162) : f_Ta_add (nI c) (nI s) t = some (ta_add1 t c s) := by
  unfold f_Ta_add
  have h1 : ¬ (162 : Int32) ≤ t.1 21 0 := by rw [h]; exact nI_ge hm (by decide)
  rw [if_neg h1, kgi (by rw [h]; exact kin hm (by decide)), klt]
  have e2 : (k_sI t 22 (t.1 21 0).toNatClampNeg (nI c)).1 21 0 = t.1 21 0 := by rw [sI1, if_neg (by simp)]
  rw [e2, kgi (by rw [h]; exact kin hm (by decide)), klt, klt]
  have e3 : (k_sI (k_sI t 22 (t.1 21 0).toNatClampNeg (nI c)) 23 (t.1 21 0).toNatClampNeg (nI s)).1 21 0 = t.1 21 0 := by rw [sI1, if_neg (by simp), e2]
  rw [e3]
  rfl
theorem fmayFollow {T : t_D} {t : k_St} (w : Tw T) (h : XT T t) {q p : Nat} (hq : q < T 0 2) (hp : p < 32) : f_Te_mayFollow t (nI q) (nI p) = some ((T 2 q).testBit p) := by
  have h8 := w.1.2
  have hn := w.next hq
  unfold f_Te_mayFollow
  rw [kgi (kin (by omega) (by decide)), nI_clamp (by omega), (h.2.1 q hq).2]
  by_cases hb : (T 2 q).testBit p = true
  · rw [if_neg (fun e => by rw [nI_bit0 (by omega) hp] at e; rw [hb] at e; cases e), hb]
  · rw [if_pos ((nI_bit0 (by omega) hp).mpr (by simpa using hb))]
    simp at hb
    rw [hb]
theorem pc8_add : ∀ s, s < 256 → ∀ p, p < 8 → s.testBit p = false → pc8 (s ||| 2 ^ p) = pc8 s + 1 ∧ (s ||| 2 ^ p) < 256 := by decide +kernel
theorem pc8_full : ∀ s, s < 256 → pc8 s = 8 → ∀ p, p < 8 → s.testBit p = true := by decide +kernel
theorem pc8_one : ∀ p, p < 8 → pc8 (2 ^ p) = 1 := by decide +kernel
theorem ta_ext_full {T : t_D} (w : Tw T) {S d q used kings : Nat} {path : List Nat} (hu : used < 256) (h8 : pc8 used = 8) : ta_ext T S d q used kings path = [] := by
  cases d with
  | zero => rfl
  | succ d =>
    rw [ta_ext, List.flatMap_eq_nil_iff]
    intro p hp
    have hp8 : p < 8 := by have := List.mem_range.mp hp; have := w.1.2; omega
    have := pc8_full used hu h8 p hp8
    simp [ta_fit, this]
set_option maxRecDepth 10000 in
theorem fgoOn13 {T : t_D} (w : Tw T) {A : Nat} (hA : ∀ p, p < T 0 2 → A.testBit p = true) {n d : Nat} {self : Int32 → Int32 → Int32 → Int32 → k_St → Option k_St} {q used kings kl : Nat} {path : List Nat} (hq : q < T 0 2) (hu : used < 256) (hk : kings + kl = T 0 0)
    (hself : ∀ (p : Nat) (kings' kl' : Nat) (t : k_St) (m : Nat), p < T 0 2 → used.testBit p = false → kings' + kl' = T 0 0 → XT T t → t.1 21 0 = nI m → m + (ta_ext T A d p (used ||| 2 ^ p) kings' (path ++ [p])).length ≤ 162 → self (nI p) (nI (used ||| 2 ^ p)) (nI (ta_code (path ++ [p]))) (nI kl') t = some (ta_put t ((ta_ext T A d p (used ||| 2 ^ p) kings' (path ++ [p])).map ta_enc)))
    (hpath : ta_bits path = used) :
    ∀ (j k i : Nat) (t : k_St) (m : Nat), i + j = T 0 2 → j < k → XT T t → t.1 21 0 = nI m → m + ((List.range' i j).flatMap fun p => if ta_fit T A used kings q p then (if T 1 p = 3 then [path ++ [p]] else ta_ext T A d p (used ||| 2 ^ p) (if T 1 p = 2 then kings + 1 else kings) (path ++ [p])) else []).length ≤ 162 →
      f_Ta_goOn_13 n self k (nI q) (nI used) (nI (ta_code path)) (nI kl) (nI i) t = some (ta_put t (((List.range' i j).flatMap fun p => if ta_fit T A used kings q p then (if T 1 p = 3 then [path ++ [p]] else ta_ext T A d p (used ||| 2 ^ p) (if T 1 p = 2 then kings + 1 else kings) (path ++ [p])) else []).map ta_enc)) := by
  have hP := w.1.2
  have hK := w.2.1
  intro j
  induction j with
  | zero =>
    intro k i t m hij hk0 hX hm _
    obtain ⟨k, rfl⟩ : ∃ k', k = k' + 1 := ⟨k - 1, by omega⟩
    rw [f_Ta_goOn_13, if_pos (by rw [hX.1 2 (by omega)]; exact nI_le (by omega) (by omega))]
    rfl
  | succ j ih =>
    intro k i t m hij hk0 hX hm hlen
    obtain ⟨k, rfl⟩ : ∃ k', k = k' + 1 := ⟨k - 1, by omega⟩
    rw [List.range'_succ, List.flatMap_cons, List.length_append] at hlen
    rw [List.range'_succ, List.flatMap_cons, List.map_append, ta_put_app]
    have hi : i < T 0 2 := by omega
    have hkd := (w.2.2.2.2.2.2.2.2.1 i hi).1
    rw [f_Ta_goOn_13, if_neg (by rw [hX.1 2 (by omega)]; exact nI_ge hi (by omega)), fmayFollow w hX hq (by omega), kcp]
    have hshl : (1 : Int32) <<< (nI i &&& 31) = nI (2 ^ i) := nI_shl i (by omega)
    have hcode : ((nI (ta_code path) * (10 : Int32)) + nI i) + (1 : Int32) = nI (ta_code (path ++ [i])) := by
      rw [ta_code_app, l10, l1, pk_mul, nI_add, nI_add]
    have hor : nI used ||| nI (2 ^ i) = nI (used ||| 2 ^ i) := nI_or _ _
    have key : ∀ (t' : k_St) (m' : Nat), XT T t' → t'.1 21 0 = nI m' → m' + ((List.range' (i + 1) j).flatMap fun p => if ta_fit T A used kings q p then (if T 1 p = 3 then [path ++ [p]] else ta_ext T A d p (used ||| 2 ^ p) (if T 1 p = 2 then kings + 1 else kings) (path ++ [p])) else []).length ≤ 162 → f_Ta_goOn_13 n self k (nI q) (nI used) (nI (ta_code path)) (nI kl) (nI i + 1) t' = some (ta_put t' (((List.range' (i + 1) j).flatMap fun p => if ta_fit T A used kings q p then (if T 1 p = 3 then [path ++ [p]] else ta_ext T A d p (used ||| 2 ^ p) (if T 1 p = 2 then kings + 1 else kings) (path ++ [p])) else []).map ta_enc)) := by
      intro t' m' hX' hm' hl'
      rw [nI_1]
      exact ih k (i + 1) t' m' (by omega) (by omega) hX' hm' hl'
    by_cases hfo : (T 2 q).testBit i = true
    · rw [hfo, if_neg (by decide)]
      by_cases hus : used.testBit i = true
      · rw [if_neg (fun e => by rw [nI_bit0 (by omega) (by omega)] at e; rw [hus] at e; cases e), klt]
        have hft : ta_fit T A used kings q i = false := by simp [ta_fit, hus]
        rw [hft] at hlen ⊢
        exact key t m hX hm (by simpa using hlen)
      · have hus' : used.testBit i = false := by simpa using hus
        rw [if_pos ((nI_bit0 (by omega) (by omega)).mpr hus'), kgi (kin (by omega) (by decide)), klt, nI_clamp (by omega), (hX.2.1 i hi).1]
        by_cases h3 : T 1 i = 3
        · have hft : ta_fit T A used kings q i = true := by simp [ta_fit, hA i hi, hus', h3, hfo]
          rw [if_pos hft, if_pos h3] at hlen ⊢
          rw [if_pos (by rw [h3]; rfl), hcode, hshl, hor, fTa_add hm (by simp at hlen; omega), kcv, klt]
          refine key _ (m + 1) ?_ (ta_add1_n t _ _ hm) (by simp at hlen ⊢; omega) |>.trans ?_
          · exact hX.put [(_, _)]
          · simp only [List.map_cons, List.map_nil, ta_enc, ta_bits_app, hpath]
            rfl
        · rw [if_neg (neL 3 h3 rfl (by omega) (by decide))]
          by_cases h1 : T 1 i = 1
          · have hft : ta_fit T A used kings q i = true := by simp [ta_fit, hA i hi, hus', h1, hfo]
            rw [if_pos hft, if_neg h3, if_neg (by omega : ¬ T 1 i = 2)] at hlen ⊢
            rw [if_pos (by rw [h1]; rfl), hcode, hshl, hor, hself i kings kl t m hi hus' hk hX hm (by omega), kcv, klt]
            exact key _ _ (hX.put _) (ta_put_n _ t m hm) (by simp only [List.length_map]; omega)
          · rw [if_neg (neL 1 h1 rfl (by omega) (by decide))]
            by_cases h2 : T 1 i = 2
            · rw [if_pos (by rw [h2]; rfl)]
              by_cases hkl : kl = 0
              · have hft : ta_fit T A used kings q i = false := by simp [ta_fit, h2]; omega
                rw [hft] at hlen ⊢
                rw [if_pos (by rw [hkl]; decide), klt]
                exact key t m hX hm (by simpa using hlen)
              · have hft : ta_fit T A used kings q i = true := by simp [ta_fit, hA i hi, hus', h2, hfo]; omega
                rw [if_pos hft, if_neg h3, if_pos h2] at hlen ⊢
                have hs : nI kl - (1 : Int32) = nI (kl - 1) := by
                  obtain ⟨z, rfl⟩ : ∃ z, kl = z + 1 := ⟨kl - 1, by omega⟩
                  exact nI_pred z
                rw [if_neg (nI_nle (by omega) (by omega)), hcode, hshl, hor, hs, hself i (kings + 1) (kl - 1) t m hi hus' (by omega) hX hm (by omega), kcv, klt]
                exact key _ _ (hX.put _) (ta_put_n _ t m hm) (by simp only [List.length_map]; omega)
            · rw [if_neg (neL 2 h2 rfl (by omega) (by decide)), klt]
              have hft : ta_fit T A used kings q i = false := by simp [ta_fit]; omega
              rw [hft] at hlen ⊢
              exact key t m hX hm (by simpa using hlen)
    · have hfo' : (T 2 q).testBit i = false := by simpa using hfo
      rw [hfo', if_pos (by decide), klt]
      have hft : ta_fit T A used kings q i = false := by simp [ta_fit, hfo']
      rw [hft] at hlen ⊢
      exact key t m hX hm (by simpa using hlen)
theorem fgoOn {T : t_D} (w : Tw T) {A n : Nat} (hA : ∀ p, p < T 0 2 → A.testBit p = true) (hn : 9 ≤ n) :
    ∀ (d e q used kings kl : Nat) (path : List Nat) (t : k_St) (m : Nat), q < T 0 2 → used < 256 → kings + kl = T 0 0 → ta_bits path = used → 9 ≤ pc8 used + d → 9 ≤ pc8 used + e → XT T t → t.1 21 0 = nI m → m + (ta_ext T A e q used kings path).length ≤ 162 →
      f_Ta_goOn n d (nI q) (nI used) (nI (ta_code path)) (nI kl) t = some (ta_put t ((ta_ext T A e q used kings path).map ta_enc)) := by
  have hP := w.1.2
  intro d
  induction d with
  | zero => intro e q used kings kl path t m _ _ _ _ h9; have := pc8_le used; omega
  | succ d ih =>
    intro e q used kings kl path t m hq hu hk hb hd he hX hm hl
    have hle := pc8_le used
    rw [f_Ta_goOn, bc8 used hu]
    by_cases h8 : pc8 used = 8
    · rw [if_neg (by rw [h8]; decide), ta_ext_full w hu h8]
      rfl
    · rw [if_pos (by rw [l8]; exact nI_lt (by omega) (by decide))]
      obtain ⟨e, rfl⟩ : ∃ e', e = e' + 1 := ⟨e - 1, by omega⟩
      rw [ta_ext, List.range_eq_range'] at hl ⊢
      refine fgoOn13 (d := e) w hA hq hu hk ?_ hb (T 0 2) n 0 t m (by omega) (by omega) hX hm hl
      intro p kings' kl' t' m' hp hup hk' hX' hm' hl'
      obtain ⟨a1, a2⟩ := pc8_add used hu p (by omega) hup
      exact ih e p (used ||| 2 ^ p) kings' kl' (path ++ [p]) t' m' hp a2 hk' (by rw [ta_bits_app, hb]) (by omega) (by omega) hX' hm' hl'
theorem fgather7 {T : t_D} (w : Tw T) {A n : Nat} (hA : ∀ p, p < T 0 2 → A.testBit p = true) (hn : 9 ≤ n) :
    ∀ (j k i : Nat) (t : k_St) (m : Nat), i + j = T 0 2 → j < k → XT T t → t.1 21 0 = nI m → m + ((List.range' i j).flatMap fun p => if ta_fit0 T A p then ta_ext T A 8 p (2 ^ p) 0 [p] else []).length ≤ 162 →
      f_Ta_gather_7 n k (nI i) t = some (ta_put t (((List.range' i j).flatMap fun p => if ta_fit0 T A p then ta_ext T A 8 p (2 ^ p) 0 [p] else []).map ta_enc)) := by
  have hP := w.1.2
  intro j
  induction j with
  | zero =>
    intro k i t m hij hk0 hX hm _
    obtain ⟨k, rfl⟩ : ∃ k', k = k' + 1 := ⟨k - 1, by omega⟩
    rw [f_Ta_gather_7, if_pos (by rw [hX.1 2 (by omega)]; exact nI_le (by omega) (by omega))]
    rfl
  | succ j ih =>
    intro k i t m hij hk0 hX hm hlen
    obtain ⟨k, rfl⟩ : ∃ k', k = k' + 1 := ⟨k - 1, by omega⟩
    rw [List.range'_succ, List.flatMap_cons, List.length_append] at hlen
    rw [List.range'_succ, List.flatMap_cons, List.map_append, ta_put_app]
    have hi : i < T 0 2 := by omega
    have hkd := (w.2.2.2.2.2.2.2.2.1 i hi).1
    rw [f_Ta_gather_7, if_neg (by rw [hX.1 2 (by omega)]; exact nI_ge hi (by omega)), kgi (kin (by omega) (by decide)), nI_clamp (by omega), (hX.2.1 i hi).1]
    by_cases h0 : T 1 i = 0
    · have hft : ta_fit0 T A i = true := by simp [ta_fit0, hA i hi, h0]
      rw [if_pos hft] at hlen ⊢
      have hp2 : 2 ^ i < 256 := by have : 2 ^ i < 2 ^ 8 := Nat.pow_lt_pow_right (by omega) (by omega); omega
      have e1 : nI i + (1 : Int32) = nI (ta_code [i]) := by rw [nI_1]; simp [ta_code]
      rw [if_pos (by rw [h0]; rfl), nI_shl i (by omega), hX.1 0 (by omega)]
      have e5 : f_Ta_goOn n 9 (nI i) (nI (2 ^ i)) (nI i + 1) (nI (T 0 0)) t = some (ta_put t ((ta_ext T A 8 i (2 ^ i) 0 [i]).map ta_enc)) := by
        rw [e1]
        exact fgoOn w hA hn 9 8 i (2 ^ i) 0 (T 0 0) [i] t m hi hp2 (by omega) (by simp [ta_bits]) (by rw [pc8_one i (by omega)]; omega) (by rw [pc8_one i (by omega)]; omega) hX hm (by omega)
      rw [e5, kcv, klt, nI_1]
      exact ih k (i + 1) _ _ (by omega) (by omega) (hX.put _) (ta_put_n _ t m hm) (by simp only [List.length_map]; omega)
    · have hft : ta_fit0 T A i = false := by simp [ta_fit0, h0]
      rw [hft] at hlen ⊢
      rw [if_neg (neL 0 h0 rfl (by omega) (by decide)), klt, nI_1]
      exact ih k (i + 1) t m (by omega) (by omega) hX hm (by simpa using hlen)
/-- the table behind gather -/
theorem fgather {T : t_D} (w : Tw T) {A n : Nat} (hA : ∀ p, p < T 0 2 → A.testBit p = true) (hn : 9 ≤ n) (t : k_St) (hX : XT T t) (hlen : (ta_all T A).length ≤ 162) : f_Ta_gather n t = some (ta_put (k_sI t 21 0 0) ((ta_all T A).map ta_enc)) := by
  unfold f_Ta_gather
  rw [klt]
  unfold ta_all at hlen ⊢
  rw [List.range_eq_range'] at hlen ⊢
  exact fgather7 w hA hn (T 0 2) n 0 _ 0 (by omega) (by have := w.1.2; omega) (hX.same (fun o k h1 h2 => by rw [sI1, if_neg (by omega)])) (by rw [sI1, if_pos ⟨rfl, rfl⟩]; rfl) (by omega)
