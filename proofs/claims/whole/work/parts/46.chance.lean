/-! ===== sleep by chance ===== -/
theorem cmp0 {b : Nat} (hb : b < 2 ^ 63) : (lg_cmp (lN b) (0 : Int64) = 0) ↔ b = 0 := (lg_cmp_eq _ _).trans (pk_lEQ (b := 0) hb (by decide))
theorem ne0L {b : Nat} (hb : b < 2 ^ 63) (h : 0 < b) : ¬ lN b = 0 := fun q => by
  have : b = 0 := (pk_lEQ (b := 0) hb (by decide)).mp q
  omega
theorem fpower5 {n b e : Nat} (he : e < 2 ^ 31) : ∀ (k i p : Nat), i ≤ e → e - i < k → f_Ch_power_5 n k (lN b) (nI e) (lN p) (nI i) = some (lN (p * b ^ (e - i))) := by
  intro k
  induction k with
  | zero => intro i p _ h; omega
  | succ k ih =>
    intro i p hi hk
    rw [f_Ch_power_5]
    rcases Nat.lt_or_ge i e with h | h
    · rw [if_neg (nI_ge h he), klt, klt, lN_mul, nI_1, ih (i + 1) _ (by omega) (by omega), show e - i = (e - (i + 1)) + 1 by omega, Nat.pow_succ', Nat.mul_assoc]
    · rw [if_pos (nI_le h (by omega)), show e - i = 0 by omega, Nat.pow_zero, Nat.mul_one]
theorem fpower {n b e : Nat} (he : e < 2 ^ 31) (hn : e < n) : f_Ch_power n (lN b) (nI e) = some (lN (b ^ e)) := by
  have := fpower5 (n := n) (b := b) he n 0 1 (by omega) (by omega)
  rw [Nat.one_mul, Nat.sub_zero] at this
  exact this
theorem fMpower5 {n b e : Nat} (he : e < 2 ^ 31) : ∀ (k i p : Nat), i ≤ e → e - i < k → f_M_power_5 n k (lN b) (nI e) (lN p) (nI i) = some (lN (p * b ^ (e - i))) := by
  intro k
  induction k with
  | zero => intro i p _ h; omega
  | succ k ih =>
    intro i p hi hk
    rw [f_M_power_5]
    rcases Nat.lt_or_ge i e with h | h
    · rw [if_neg (nI_ge h he), klt, klt, lN_mul, nI_1, ih (i + 1) _ (by omega) (by omega), show e - i = (e - (i + 1)) + 1 by omega, Nat.pow_succ', Nat.mul_assoc]
    · rw [if_pos (nI_le h (by omega)), show e - i = 0 by omega, Nat.pow_zero, Nat.mul_one]
theorem fMpower {n b e : Nat} (he : e < 2 ^ 31) (hn : e < n) : f_M_power n (lN b) (nI e) = some (lN (b ^ e)) := by
  have := fMpower5 (n := n) (b := b) he n 0 1 (by omega) (by omega)
  rw [Nat.one_mul, Nat.sub_zero] at this
  exact this
/-! Euclid's way ends soon -/
def es : Nat → Nat → Nat → Prop
  | 0, _, b => b = 0
  | k + 1, a, b => b = 0 ∨ es k b (a % b)
def fibs : Nat → Nat × Nat
  | 0 => (0, 1)
  | k + 1 => ((fibs k).2, (fibs k).1 + (fibs k).2)
theorem es_fib : ∀ (k x y : Nat), y < x → (y < (fibs (k + 1)).1 ∨ x < (fibs (k + 2)).1) → es k x y
  | 0, x, y, h, h2 => by
    show y = 0
    rcases h2 with h2 | h2
    · have : (fibs (0 + 1)).1 = 1 := rfl
      omega
    · have : (fibs (0 + 2)).1 = 1 := rfl
      omega
  | k + 1, x, y, h, h2 => by
    show y = 0 ∨ es k y (x % y)
    by_cases hy : y = 0
    · exact Or.inl hy
    · right
      have hr : x % y < y := Nat.mod_lt _ (by omega)
      refine es_fib k y (x % y) hr ?_
      by_cases hc : y < (fibs (k + 2)).1
      · exact Or.inr hc
      · left
        have hx : x < (fibs (k + 3)).1 := by
          rcases h2 with h2 | h2
          · exact absurd h2 hc
          · exact h2
        have e : (fibs (k + 3)).1 = (fibs (k + 1)).1 + (fibs (k + 2)).1 := by
          show (fibs (k + 2)).2 = _
          show (fibs (k + 1)).1 + (fibs (k + 1)).2 = (fibs (k + 1)).1 + (fibs (k + 2)).1
          rfl
        have hle : x % y ≤ x - y := by
          rw [Nat.mod_eq_sub_mod (by omega)]
          exact Nat.mod_le _ _
        omega
theorem es_big {a b : Nat} (h : b ≤ 10000000000000000) : es 90 a b := by
  show b = 0 ∨ es 89 b (a % b)
  by_cases hb : b = 0
  · exact Or.inl hb
  · right
    refine es_fib 89 b (a % b) (Nat.mod_lt _ (by omega)) (Or.inr ?_)
    have : 10000000000000000 < (fibs (89 + 2)).1 := by decide +kernel
    omega
theorem fcommon9 {n : Nat} : ∀ (e k a b i : Nat), es e a b → e < k → i + e ≤ 99 → a < 2 ^ 63 → b < 2 ^ 63 → f_Ch_commonOf_9 n k (lN a) (lN b) (nI i) = some (lN (max 1 (Nat.gcd a b))) := by
  have hmax : ∀ a, a < 2 ^ 63 → (if (1 : Int64) < lN a then lN a else (1 : Int64)) = lN (max 1 a) := by
    intro a ha
    by_cases h : 1 < a
    · rw [if_pos (show (1 : Int64) < lN a from (pk_lLT (a := 1) (by decide) ha).mpr h), show max 1 a = a by omega]
    · rw [if_neg (show ¬ (1 : Int64) < lN a from fun q => h ((pk_lLT (a := 1) (by decide) ha).mp q)), show max 1 a = 1 by omega]
      rfl
  intro e
  induction e with
  | zero =>
    intro k a b i hes hk hi ha hb
    obtain ⟨k, rfl⟩ : ∃ k', k = k' + 1 := ⟨k - 1, by omega⟩
    have hb0 : b = 0 := hes
    rw [f_Ch_commonOf_9, if_neg (by rw [show (100 : Int32) = nI 100 from rfl]; exact nI_ge (by omega) (by omega)), if_pos ((cmp0 hb).mpr hb0), hmax a ha, hb0, Nat.gcd_zero_right]
  | succ e ih =>
    intro k a b i hes hk hi ha hb
    obtain ⟨k, rfl⟩ : ∃ k', k = k' + 1 := ⟨k - 1, by omega⟩
    rw [f_Ch_commonOf_9, if_neg (by rw [show (100 : Int32) = nI 100 from rfl]; exact nI_ge (by omega) (by omega))]
    by_cases hb0 : b = 0
    · rw [if_pos ((cmp0 hb).mpr hb0), hmax a ha, hb0, Nat.gcd_zero_right]
    · have hes2 : es e b (a % b) := by
        rcases hes with h | h
        · exact absurd h hb0
        · exact h
      have hne : ¬ lN b = 0 := ne0L hb (by omega)
      rw [if_neg (fun q => hb0 ((cmp0 hb).mp q)), kgd hne, klt, klt, pk_lRem ha (by omega) hb, nI_1, ih k b (a % b) (i + 1) hes2 (by omega) (by omega) hb (Nat.lt_of_le_of_lt (Nat.mod_le _ _) ha)]
      rw [Nat.gcd_comm b, ← Nat.gcd_rec, Nat.gcd_comm]
theorem fMcommon6 {n : Nat} : ∀ (e k a b : Nat), es e a b → e < k → a < 2 ^ 63 → b < 2 ^ 63 → f_M_common_6 n k (lN a) (lN b) = some (lN (Nat.gcd a b)) := by
  intro e
  induction e with
  | zero =>
    intro k a b hes hk ha hb
    obtain ⟨k, rfl⟩ : ∃ k', k = k' + 1 := ⟨k - 1, by omega⟩
    have hb0 : b = 0 := hes
    rw [f_M_common_6, if_pos ((cmp0 hb).mpr hb0), hb0, Nat.gcd_zero_right]
  | succ e ih =>
    intro k a b hes hk ha hb
    obtain ⟨k, rfl⟩ : ∃ k', k = k' + 1 := ⟨k - 1, by omega⟩
    rw [f_M_common_6]
    by_cases hb0 : b = 0
    · rw [if_pos ((cmp0 hb).mpr hb0), hb0, Nat.gcd_zero_right]
    · have hes2 : es e b (a % b) := by
        rcases hes with h | h
        · exact absurd h hb0
        · exact h
      have hne : ¬ lN b = 0 := ne0L hb (by omega)
      rw [if_neg (fun q => hb0 ((cmp0 hb).mp q)), kgd hne, klt, pk_lRem ha (by omega) hb, ih k b (a % b) hes2 (by omega) hb (Nat.lt_of_le_of_lt (Nat.mod_le _ _) ha)]
      rw [Nat.gcd_comm b, ← Nat.gcd_rec, Nat.gcd_comm]
/-- one part of a fraction in lowest terms -/
def low (u d : Nat) (z : Int32) : Nat := (if z = 0 then u else d) / Nat.gcd u d
theorem finLowest {n u d : Nat} (hn : 100 ≤ n) (hu : u < 2 ^ 63) (hd0 : 0 < d) (hd : d ≤ 10000000000000000) (z : Int32) : f_Ch_inLowest n (lN u) (lN d) z = some (lN (low u d z)) := by
  have hg : 0 < Nat.gcd u d := Nat.gcd_pos_of_pos_right _ hd0
  have hgl : Nat.gcd u d ≤ d := Nat.gcd_le_right _ hd0
  unfold f_Ch_inLowest f_Ch_commonOf
  have e0 : f_Ch_commonOf_9 n n (lN u) (lN d) 0 = some (lN (max 1 (Nat.gcd u d))) := fcommon9 90 n u d 0 (es_big hd) (by omega) (by omega) hu (by omega)
  rw [e0, kcp, show max 1 (Nat.gcd u d) = Nat.gcd u d by omega]
  have hne : ¬ lN (Nat.gcd u d) = 0 := ne0L (by omega) hg
  unfold low
  by_cases hz : z = 0
  · rw [if_pos hz, if_pos hz, kgd hne, pk_lDiv hu hg (by omega)]
  · rw [if_neg hz, if_neg hz, kgd hne, pk_lDiv (by omega) hg (by omega)]
theorem AM.frac {m t : k_St} (hm : mk m t) {n u d : Nat} (hn : 100 ≤ n) (hu : u < 2 ^ 63) (hd0 : 0 < d) (hd : d ≤ 10000000000000000) (z : Int32) : AM (k_cl (f_M_fraction n (lN u) (lN d) z t) (fun r t => some (r, t))) m (lN (low u d z)) 0 := by
  have hg : 0 < Nat.gcd u d := Nat.gcd_pos_of_pos_right _ hd0
  have hgl : Nat.gcd u d ≤ d := Nat.gcd_le_right _ hd0
  have hne : ¬ lN (Nat.gcd u d) = 0 := ne0L (by omega) hg
  have e : f_M_fraction n (lN u) (lN d) z t = some (lN (low u d z), k_sI (k_sI t 0 1 0) 0 2 (-1)) := by
    unfold f_M_fraction f_M_common
    rw [klt, fMcommon6 90 n u d (es_big hd) (by omega) hu (by omega), kcp]
    unfold low
    by_cases hz : z = 0
    · rw [if_pos hz, if_pos hz, kgd hne, pk_lDiv hu hg (by omega)]; rfl
    · rw [if_neg hz, if_neg hz, kcp, kgd hne, pk_lDiv (by omega) hg (by omega)]; rfl
  rw [e, kcl]
  exact ⟨_, rfl, hm.gd 0, by rw [sI1, if_neg (by simp), sI1, if_pos ⟨rfl, rfl⟩], by rw [sI1, if_pos ⟨rfl, rfl⟩]⟩
theorem low_mul (u d c : Nat) (hc : 0 < c) (z : Int32) : low (u * c) (d * c) z = low u d z := by
  unfold low
  rw [Nat.gcd_mul_right]
  by_cases hz : z = 0
  · rw [if_pos hz, if_pos hz, Nat.mul_div_mul_right _ _ hc]
  · rw [if_neg hz, if_neg hz, Nat.mul_div_mul_right _ _ hc]
theorem p100 : ∀ n, n ≤ 8 → 0 < 100 ^ n ∧ 100 ^ n ≤ 10000000000000000 := by decide
theorem pa100 {a n : Nat} (ha : a ≤ 100) (hn : n ≤ 8) : a ^ n ≤ 10000000000000000 := Nat.le_trans (Nat.pow_le_pow_left ha n) (p100 n hn).2
theorem awakeX {s : Nat} (hs : s ≤ 100) : ((100 : Int32) - nI s).toInt64 = lN (100 - s) := by
  rw [show (100 : Int32) = nI 100 from rfl, pk_sub hs, nI_l (by omega)]
theorem awakeM {s : Nat} (hs : s ≤ 100) : (100 : Int64) - (nI s).toInt64 = lN (100 - s) := by
  rw [nI_l (by omega), show (100 : Int64) = lN 100 from rfl, lN_sub hs]
theorem fofTelling {n s N q : Nat} (hn : 200 ≤ n) (hs : s ≤ 100) (hN : N ≤ 8) (hq : q ≤ N) (z : Int32) : f_Ch_ofTelling n (nI s) (nI N) (nI q) z = some (lN (if q < N then low ((100 - s) ^ q * s) (100 ^ (q + 1)) z else low ((100 - s) ^ q) (100 ^ q) z)) := by
  have hp := pa100 (a := 100 - s) (n := q) (by omega) (by omega)
  unfold f_Ch_ofTelling
  rw [awakeX hs, fpower (by omega) (by omega), kcp, show (100 : Int64) = lN 100 from rfl, nI_1]
  by_cases h : q < N
  · have hd := p100 (q + 1) (by omega)
    have hu : (100 - s) ^ q * s < 2 ^ 63 := by
      have : (100 - s) ^ q * s ≤ 100 ^ 7 * 100 := Nat.mul_le_mul (Nat.le_trans (Nat.pow_le_pow_left (by omega) q) (Nat.pow_le_pow_right (by omega) (by omega))) hs
      omega
    rw [if_pos (nI_lt h (by omega)), if_pos h, fpower (by omega) (by omega), kcp, nI_l (by omega), lN_mul, finLowest (by omega) hu hd.1 hd.2, kcp]
  · have hd := p100 q (by omega)
    rw [if_neg (nI_nlt (by omega) (by omega)), if_neg h, fpower (by omega) (by omega), kcp, finLowest (by omega) (by omega) hd.1 hd.2, kcp]
def tj (s N q : Nat) : Nat := if q = N then (100 - s) ^ q else (100 - s) ^ q * s * 100 ^ (N - q - 1)
theorem tj_le {s N q : Nat} (hs : s ≤ 100) (hN : N ≤ 8) (hq : q ≤ N) : tj s N q ≤ 10000000000000000 := by
  unfold tj
  split
  · exact pa100 (by omega) (by omega)
  · have h1 : (100 - s) ^ q * s * 100 ^ (N - q - 1) ≤ 100 ^ q * 100 * 100 ^ (N - q - 1) := Nat.mul_le_mul_right _ (Nat.mul_le_mul (Nat.pow_le_pow_left (by omega) q) hs)
    rw [← Nat.pow_succ, ← Nat.pow_add, show q + 1 + (N - q - 1) = N by omega] at h1
    exact Nat.le_trans h1 (p100 N hN).2
theorem ftellsJust {T : t_D} {t : k_St} (w : Tw T) (g : MTT T t) {n N q : Nat} (hn : 200 ≤ n) (hN : N ≤ 8) (hq : q ≤ N) : f_M_tellsJust n t (nI N) (nI q) = some (lN (tj (T 0 1) N q)) := by
  have hs := w.2.2.1
  unfold f_M_tellsJust
  rw [g.1 1 (by omega), awakeM hs, fMpower (by omega) (by omega), kcp]
  unfold tj
  by_cases h : q = N
  · rw [if_pos (by rw [h]), if_pos h]
  · rw [if_neg (fun e => h (nI_inj (by omega) (by omega) e)), if_neg h, pk_sub hq]
    obtain ⟨z, hz⟩ : ∃ z, N - q = z + 1 := ⟨N - q - 1, by omega⟩
    rw [hz, nI_pred, show (100 : Int64) = lN 100 from rfl, fMpower (by omega) (by omega), kcp, nI_l (by omega), lN_mul, lN_mul]
    rfl
theorem chance_or {x : k_St} (hs : x.1 0 10 = 1) (x1 : Int32) : (f_X_whyNoChance x x1 = 2 ∧ f_M_in x1 0 8 = false) ∨ ∃ N, N ≤ 8 ∧ x1 = nI N ∧ f_X_whyNoChance x x1 = 0 ∧ f_M_in x1 0 8 = true := by
  unfold f_X_whyNoChance f_M_in
  rw [hs, if_neg (by decide)]
  by_cases h : x1 < 0
  · left; rw [if_pos h, if_pos (show x1 < (0 : Int32) from h)]; exact ⟨rfl, rfl⟩
  · obtain ⟨N, hN, rfl⟩ := nI_of h
    rw [if_neg h, if_neg (show ¬ nI N < (0 : Int32) from h)]
    rcases Nat.lt_or_ge 8 N with h2 | h2
    · left; rw [if_neg (by rw [l8]; exact nI_ge h2 hN), if_pos (by rw [l8]; exact nI_lt h2 hN)]; exact ⟨rfl, rfl⟩
    · right; exact ⟨N, h2, rfl, by rw [if_pos (by rw [l8]; exact nI_le h2 (by omega))], by rw [if_neg (by rw [l8]; exact nI_nlt h2 (by omega))]⟩
theorem Q2.refL {x m : k_St} (τ : Int32) (ht : τ ≠ 4) : Q2 (k_lt (f_X_refuse τ x) (fun q => some (q.1.toInt64, q.2))) x (k_lt (f_M_refused τ (k_sI m 0 0 0)) (fun q => some (q.1.toInt64, q.2))) m := ⟨(-1 : Int32).toInt64, τ, ⟨_, rfl, xk.t12 x τ, by show (k_sI x 0 12 τ).1 0 12 = τ; rw [sI1, if_pos ⟨rfl, rfl⟩]⟩, ⟨_, rfl, (th0 m).gd τ, by show (k_sI (k_sI (k_sI m 0 0 0) 0 1 τ) 0 2 (-1)).1 0 1 = τ; rw [sI1, if_neg (by simp), sI1, if_pos ⟨rfl, rfl⟩], by show (k_sI (k_sI (k_sI m 0 0 0) 0 1 τ) 0 2 (-1)).1 0 2 = -1; rw [sI1, if_pos ⟨rfl, rfl⟩]⟩, ht⟩
theorem e_tells {T : t_D} {v : Nat → Nat} {x m : k_St} (h : XB T v x) (g : MB T v m) {n : Nat} (hn : big n) (x1 x2 x3 : Int32) : Q2 (f_X_tells n x1 x2 x3 x) x (f_M_tells n x1 x2 x3 m) m := by
  have w := h.1
  have g0 := g.mk (th0 m)
  have hs := w.2.2.1
  have bad : Q2 (f_X_tells_24 n x1 x2 x3 2 x) x (if (2 : Int32) ≤ 0 then k_cp (f_M_tellsJust n (k_sI m 0 0 0) x1 x2) (fun r_3 => k_cp (f_M_power n (100 : Int64) x1) (fun r_4 => k_cl (f_M_fraction n r_3 r_4 x3 (k_sI m 0 0 0)) (fun r_6 t_5 => some (r_6, t_5)))) else k_lt (f_M_refused 2 (k_sI m 0 0 0)) (fun q_7 => some (q_7.1.toInt64, q_7.2))) m := by
    unfold f_X_tells_24
    rw [if_neg (by decide), if_neg (by decide)]
    exact Q2.refL 2 (by decide)
  unfold f_X_tells f_M_tells f_M_refusesSleep
  rw [klt (k_sI m 0 0 0), klt (f_X_whyNoChance x x1), klt]
  rcases chance_or h.2.2.2.1 x1 with ⟨a, b⟩ | ⟨N, hN, rfl, a, b⟩
  · rw [a, b, if_neg (show ¬ (2 : Int32) = 0 by decide), if_pos (show k_b false = 0 by decide)]
    exact bad
  · rw [a, b, if_pos rfl, if_neg (show ¬ k_b true = 0 by decide)]
    unfold f_M_in
    by_cases hx2 : x2 < 0
    · rw [if_pos hx2, if_pos (show x2 < (0 : Int32) from hx2), if_pos (show k_b false = 0 by decide)]
      exact bad
    · obtain ⟨q, hq, rfl⟩ := nI_of hx2
      rw [if_neg hx2, if_neg (show ¬ nI q < (0 : Int32) from hx2)]
      rcases Nat.lt_or_ge N q with h2 | h2
      · rw [if_neg (nI_ge h2 hq), if_pos (nI_lt h2 hq), if_pos (show k_b false = 0 by decide)]
        exact bad
      · rw [if_pos (nI_le h2 (by omega)), if_neg (nI_nlt h2 (by omega)), if_neg (show ¬ k_b true = 0 by decide), if_pos (show (0 : Int32) ≤ 0 by decide)]
        unfold f_X_tells_24
        have hX1 := h.xk (xk.t12 x 0)
        rw [if_pos rfl, klt, hX1.2.1.1 1 (by omega), fofTelling (by omega) hs hN h2, kcp, ftellsJust w g0.1 (by omega) hN h2, kcp, show (100 : Int64) = lN 100 from rfl, fMpower (by omega) (by omega), kcp]
        have hd := p100 N hN
        have hu := tj_le hs hN h2
        have hM := AM.frac (th0 m) (n := n) (by omega) (show tj (T 0 1) N q < 2 ^ 63 by omega) hd.1 hd.2 x3
        refine ⟨_, 0, ⟨_, rfl, xk.t12 x 0, by rw [sI1, if_pos ⟨rfl, rfl⟩]⟩, ?_, by decide⟩
        have e : (if q < N then low ((100 - T 0 1) ^ q * T 0 1) (100 ^ (q + 1)) x3 else low ((100 - T 0 1) ^ q) (100 ^ q) x3) = low (tj (T 0 1) N q) (100 ^ N) x3 := by
          unfold tj
          by_cases hlt : q < N
          · rw [if_pos hlt, if_neg (by omega)]
            have hc := (p100 (N - q - 1) (by omega)).1
            rw [← low_mul _ (100 ^ (q + 1)) (100 ^ (N - q - 1)) hc, ← Nat.pow_add, show q + 1 + (N - q - 1) = N by omega]
          · rw [if_neg hlt, if_pos (by omega), show q = N by omega]
        rw [e]
        exact hM
/-! the mean -/
def sx (a N : Nat) : Nat → Nat
  | 0 => 0
  | k + 1 => sx a N k + a ^ (k + 1) * 100 ^ (N - (k + 1))
def sm (s N : Nat) : Nat → Nat
  | 0 => 0
  | k + 1 => sm s N k + (k + 1) * tj s N (k + 1)
theorem sx_sm : ∀ s, s ≤ 100 → ∀ N, N ≤ 8 → sx (100 - s) N N = sm s N N ∧ sx (100 - s) N N ≤ 90000000000000000 := by decide +kernel
theorem fofMean5 {n s N : Nat} (hn : 200 ≤ n) (hs : s ≤ 100) (hN : N ≤ 8) (z : Int32) : ∀ (k i : Nat), i ≤ N → N - i < k → f_Ch_ofMean_5 n k (nI s) (nI N) z (lN (sx (100 - s) N i)) (nI (i + 1)) = f_Ch_inLowest n (lN (sx (100 - s) N N)) (lN (100 ^ N)) z := by
  intro k
  induction k with
  | zero => intro i _ h; omega
  | succ k ih =>
    intro i hi hk
    rw [f_Ch_ofMean_5]
    rcases Nat.lt_or_ge i N with h | h
    · have := ih (i + 1) (by omega) (by omega)
      rw [if_neg (nI_nlt (by omega) (by omega)), awakeX hs, fpower (by omega) (by omega), kcp, pk_sub (by omega), show (100 : Int64) = lN 100 from rfl, fpower (by omega) (by omega), kcp, klt, klt, lN_mul, lN_add, nI_1]
      exact this
    · rw [if_pos (nI_lt (by omega) (by omega)), show (100 : Int64) = lN 100 from rfl, fpower (by omega) (by omega), kcp, show i = N by omega]
      cases f_Ch_inLowest n (lN (sx (100 - s) N N)) (lN (100 ^ N)) z <;> rfl
theorem fmean29 {T : t_D} {m t : k_St} (w : Tw T) (g : MTT T t) (hm : mk m t) {n N : Nat} (hn : 200 ≤ n) (hN : N ≤ 8) (z : Int32) : ∀ (k i : Nat), i ≤ N → N - i < k → AM (f_M_mean_29 n k (nI N) z (lN (sm (T 0 1) N i)) (nI (i + 1)) t) m (lN (low (sm (T 0 1) N N) (100 ^ N) z)) 0 := by
  have hs := w.2.2.1
  intro k
  induction k with
  | zero => intro i _ h; omega
  | succ k ih =>
    intro i hi hk
    rw [f_M_mean_29]
    rcases Nat.lt_or_ge i N with h | h
    · have := ih (i + 1) (by omega) (by omega)
      rw [if_neg (nI_nlt (by omega) (by omega)), ftellsJust w g hn hN (by omega), kcp, klt, klt, nI_l (by omega), lN_mul, lN_add, nI_1]
      exact this
    · have hd := p100 N hN
      obtain ⟨e1, e2⟩ := sx_sm (T 0 1) hs N hN
      rw [if_pos (nI_lt (by omega) (by omega)), show (100 : Int64) = lN 100 from rfl, fMpower (by omega) (by omega), kcp, show i = N by omega]
      exact AM.frac hm (by omega) (by omega) hd.1 hd.2 z
theorem e_mean {T : t_D} {v : Nat → Nat} {x m : k_St} (h : XB T v x) (g : MB T v m) {n : Nat} (hn : big n) (x1 x2 : Int32) : Q2 (f_X_mean n x1 x2 x) x (f_M_mean n x1 x2 m) m := by
  have w := h.1
  have g0 := g.mk (th0 m)
  have hs := w.2.2.1
  unfold f_X_mean f_M_mean f_M_refusesSleep
  rw [klt (k_sI m 0 0 0), klt (f_X_whyNoChance x x1), klt]
  rcases chance_or h.2.2.2.1 x1 with ⟨a, b⟩ | ⟨N, hN, rfl, a, b⟩
  · rw [a, b, if_neg (show ¬ (2 : Int32) = 0 by decide), if_pos (show k_b false = 0 by decide), klt (2 : Int32), if_neg (show ¬ (2 : Int32) ≤ 0 by decide)]
    exact Q2.refL 2 (by decide)
  · have hin : f_M_in 0 0 (nI N) = true := by
      unfold f_M_in
      rw [if_neg (by decide), if_neg (show ¬ nI N < 0 from nI_pos (by omega))]
    rw [a, b, hin, if_pos rfl, if_neg (show ¬ k_b true = 0 by decide), if_neg (show ¬ k_b true = 0 by decide), klt (0 : Int32), if_pos (show (0 : Int32) ≤ 0 by decide)]
    have hX1 := h.xk (xk.t12 x 0)
    have e1 := fofMean5 (n := n) (by omega) hs hN x2 n 0 (by omega) (by omega)
    have e2 := fmean29 w g0.1 (th0 m) (n := n) (by omega) hN x2 n 0 (by omega) (by omega)
    obtain ⟨e3, e4⟩ := sx_sm (T 0 1) hs N hN
    have hd := p100 N hN
    rw [hX1.2.1.1 1 (by omega)]
    unfold f_Ch_ofMean
    rw [show (0 : Int64) = lN (sx (100 - T 0 1) N 0) from rfl, show (1 : Int32) = nI (0 + 1) from rfl, e1, finLowest (by omega) (by omega) hd.1 hd.2, kcp, e3]
    exact ⟨_, 0, ⟨_, rfl, xk.t12 x 0, by rw [sI1, if_pos ⟨rfl, rfl⟩]⟩, e2, by decide⟩
