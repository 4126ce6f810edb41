/-! ===== evenings by turns ===== -/
def mv (t u : k_St) : Prop := u.2 = t.2 ∧ ∀ o k, ¬ (o = 0 ∧ 22 ≤ k ∧ k ≤ 25) → o ≠ 6 → u.1 o k = t.1 o k
theorem mv.rf (t : k_St) : mv t t := ⟨rfl, fun _ _ _ _ => rfl⟩
theorem mv.tr {t u v : k_St} (h : mv t u) (g : mv u v) : mv t v := ⟨g.1.trans h.1, fun o k a b => (g.2 o k a b).trans (h.2 o k a b)⟩
theorem mw.mv {t u : k_St} (h : mw t u) : mv t u := ⟨h.1, fun o k a b => h.2 o k (by omega) b⟩
theorem mv.mz {t u : k_St} (h : mv t u) : mz t u := ⟨h.1, fun o k a b _ => h.2 o k a b⟩
theorem mv.set0 (t : k_St) (j : Nat) (x : Int32) (h : 22 ≤ j ∧ j ≤ 25) : mv t (k_sI t 0 j x) := ⟨rfl, fun o k a b => by rw [sI1, if_neg (by omega)]⟩
theorem mv.set6 (t : k_St) (j : Nat) (x : Int32) : mv t (k_sI t 6 j x) := ⟨rfl, fun o k a b => by rw [sI1, if_neg (by omega)]⟩
theorem fstartsTales2 {T : t_D} {t : k_St} (h : MTT T t) (S : Nat) : ∃ u, f_M_startsTales (nI S) t = some u ∧ mv t u ∧ Aw T S u (ta_all T S) := by
  obtain ⟨u, e, hm, hA⟩ := fstartsTales h S
  refine ⟨u, e, ?_, hA⟩
  unfold f_M_startsTales at e
  rw [klt, klt, klt, klt, kgi (by decide), klt] at e
  cases e
  exact ((((mv.set0 _ _ _ (by omega)).tr (mv.set0 _ _ _ (by omega))).tr (mv.set0 _ _ _ (by omega))).tr (mv.set0 _ _ _ (by omega))).tr (mv.set6 _ _ _)
theorem fhasTale2 {T : t_D} (w : Tw T) {S : Nat} (hS : S < 2 ^ 31) {n : Nat} (hn : big n) {t : k_St} (h : MTT T t) : ∃ u, f_M_hasTale n (nI S) t = some (!(ta_all T S).isEmpty, u) ∧ mv t u := by
  obtain ⟨u, e, hm, hA⟩ := fstartsTales2 h S
  unfold f_M_hasTale
  rw [e, kcv]
  obtain ⟨i1, i2⟩ := fnextTale w hS hn hA
  cases hL : ta_all T S with
  | nil =>
    obtain ⟨v, a, b⟩ := i1 hL
    rw [a, kcl]
    exact ⟨v, rfl, hm.tr b.mv⟩
  | cons r R =>
    obtain ⟨v, a, b, -, -⟩ := i2 r R hL
    rw [a, kcl]
    exact ⟨v, rfl, hm.tr b.mv⟩
theorem fsenseInX {T : t_D} {v : Nat → Nat} (w : Tw T) (hv : pk8 v) {n : Nat} (hn : big n) : ∀ (j f i : Nat) (t : k_St), i + j = T 0 4 → j < f → MTT T t → (∀ k, k < 6 → t.1 3 k = nI (v k)) → ∃ u, f_M_senseInX_4 n f (nI (sn T v i)) (nI i) t = some (nI (sn T v (T 0 4)), u) ∧ mv t u := by
  have h5 := w.2.2.2.2.1
  intro j
  induction j with
  | zero =>
    intro f i t hi hf g g3
    obtain ⟨f, rfl⟩ : ∃ f', f = f' + 1 := ⟨f - 1, by omega⟩
    rw [f_M_senseInX_4, g.1 4 (by omega), if_pos (nI_le (by omega) (by omega)), show i = T 0 4 by omega]
    exact ⟨t, rfl, mv.rf t⟩
  | succ j ih =>
    intro f i t hi hf g g3
    obtain ⟨f, rfl⟩ : ∃ f', f = f' + 1 := ⟨f - 1, by omega⟩
    have hvi := hv i (by omega)
    obtain ⟨u, e, hz⟩ := fhasTale2 w (show v i < 2 ^ 31 by omega) hn g
    obtain ⟨u2, e2, hz2⟩ := ih f (i + 1) u (by omega) (by omega) (g.mz hz.mz) (fun k hk => by rw [hz.2 3 k (by omega) (by omega)]; exact g3 k hk)
    refine ⟨u2, ?_, hz.tr hz2⟩
    rw [sn] at e2
    rw [f_M_senseInX_4, g.1 4 (by omega), if_neg (nI_ge (by omega) (by omega)), kgi (kin (by omega) (by decide)), nI_clamp (by omega), g3 i (by omega), e, kcl]
    by_cases he : (ta_all T (v i)).isEmpty = true
    · rw [if_pos he] at e2
      rw [if_pos (k_beq (by rw [he]; rfl)), klt, klt, Int32.or_zero, nI_1]
      exact e2
    · rw [if_neg he] at e2
      rw [if_neg (k_bne (by simp only [Bool.not_eq_true] at he; rw [he]; rfl)), klt, klt, nI_shl i (by omega), nI_or, nI_1]
      exact e2
def allS (T : t_D) (v : Nat → Nat) : Nat → Bool
  | 0 => true
  | k + 1 => allS T v k && !(ta_all T (v k)).isEmpty
theorem sn_pc (T : t_D) (v : Nat → Nat) : ∀ k, k ≤ 5 → sn T v k < 2 ^ k ∧ pc8 (sn T v k) ≤ k ∧ (pc8 (sn T v k) = k ↔ allS T v k = true)
  | 0, _ => by simp [sn, allS]; decide
  | k + 1, h => by
    obtain ⟨a, b, c⟩ := sn_pc T v k (by omega)
    have h8 : 2 ^ k ≤ 2 ^ 4 := Nat.pow_le_pow_right (by omega) (by omega)
    have hp : 2 ^ (k + 1) = 2 * 2 ^ k := Nat.pow_succ'
    rw [sn, allS]
    by_cases he : (ta_all T (v k)).isEmpty = true
    · rw [if_pos he, he]
      refine ⟨by omega, by omega, ?_⟩
      simp
      omega
    · rw [if_neg he]
      simp only [Bool.not_eq_true] at he
      obtain ⟨d, -⟩ := pc8_add (sn T v k) (by omega) k (by omega) (Nat.testBit_lt_two_pow a)
      rw [d, he]
      refine ⟨Nat.or_lt_two_pow (by omega) (Nat.pow_lt_pow_right (by omega) (by omega)), by omega, ?_⟩
      simp
      exact c
/-- NOW behind so many evenings by turns -/
def evs (T : t_D) (v : Nat → Nat) : Nat → Nat → Nat
  | 0 => v
  | k + 1 => evn T (evs T v k) (k % T 0 4)
theorem nvok.evs {T : t_D} (w : Tw T) {v : Nat → Nat} (hv : nvok T v) (hH : 0 < T 0 4) : ∀ k, nvok T (evs T v k)
  | 0 => hv
  | k + 1 => (nvok.evs w hv hH k).evn w (Nat.mod_lt _ hH)
theorem xe.xk {x y : k_St} (h : xe x y) : xk x y := ⟨fun o k a => h.1 o k (by omega), fun o k _ => by rw [h.2]⟩
theorem fevenings54 {T : t_D} (w : Tw T) {n N h : Nat} {v : Nat → Nat} {x0 : k_St} (hn : 200 ≤ n) (hN : N ≤ 60) (hv : nvok T v) (hh : h < T 0 4) : ∀ (f i : Nat) (x : k_St), i ≤ N → N - i < f → xk x0 x → XT T x → TB x (ta_all T (allp T)) → x.1 33 0 = nI (evs T v i 5) → AX (f_X_evenings_54 n f (nI h) (nI N) (lN (pk (evs T v i))) (nI i) x) x0 (nI (evs T v N h)) 0 := by
  have h5 := w.2.2.2.2.1
  intro f
  induction f with
  | zero => intro i x _ h; omega
  | succ f ih =>
    intro i x hi hf hk hX hT h0
    rw [f_X_evenings_54]
    rcases Nat.lt_or_ge i N with hl | hl
    · obtain ⟨y, a, b, c⟩ := fbehindEvening (k := i) w hn hX hT h0 (hv.evs w (by omega) i) (by omega) (by omega)
      rw [if_neg (nI_ge hl (by omega)), a, kcl, klt, nI_1]
      exact ih (i + 1) y (by omega) (by omega) (hk.tr b.xk) (hX.same (fun o k q1 q2 => b.1 o k (by omega))) (hT.same (fun o k q1 q2 => b.1 o k (by omega))) c
    · have e : i = N := by omega
      subst e
      rw [if_pos (nI_le (by omega) (by omega)), fpart ((hv.evs w (by omega) i).p8 w) (by omega)]
      exact AX.ans hk _
/-- the reference's rows before its evenings -/
theorem fev16 {n : Nat} {v : Nat → Nat} {sd N a tl : Int32} : ∀ (f i : Nat) (t : k_St), i ≤ 6 → 6 - i < f → (∀ k, k < 6 → t.1 2 k = nI (v k)) → (∀ k, k < i → t.1 3 k = nI (v k)) → ∃ u, f_M_evenings1_16 n f sd N a tl (nI i) t = f_M_evenings1_58 n n N a tl 1 u ∧ (∀ o k, o ≠ 3 → ¬ (o = 0 ∧ k = 42) → u.1 o k = t.1 o k) ∧ u.2 = t.2 ∧ u.1 0 42 = 0 ∧ (∀ k, k < 5 → u.1 3 k = nI (v k)) ∧ u.1 3 5 = sd := by
  intro f
  induction f with
  | zero => intro i t _ h; omega
  | succ f ih =>
    intro i t hi hf g g3
    rw [f_M_evenings1_16]
    rcases Nat.lt_or_ge i 6 with hl | hl
    · rw [if_neg (by rw [l6]; exact nI_ge hl (by omega)), kgi (kin hl (by decide)), kgi (kin hl (by decide)), klt, klt, nI_1, nI_clamp (by omega), g i hl]
      obtain ⟨u, a, b, c, d, e, f2⟩ := ih (i + 1) (k_sI t 3 i (nI (v i))) (by omega) (by omega) (fun k hk => by rw [sI1, if_neg (by omega)]; exact g k hk) (fun k hk => by
        rw [sI1]
        by_cases q : k = i
        · rw [if_pos ⟨rfl, q⟩, q]
        · rw [if_neg (by omega)]; exact g3 k (by omega))
      exact ⟨u, a, fun o k ho hk => by rw [b o k ho hk, sI1, if_neg (by omega)], c, d, e, f2⟩
    · have e6 : i = 6 := by omega
      subst e6
      rw [if_pos (by decide), kgi (by decide), klt, klt]
      refine ⟨_, rfl, fun o k ho hk => by rw [sI1, if_neg (by omega), sI1, if_neg (by omega)], rfl, by rw [sI1, if_pos ⟨rfl, rfl⟩], fun k hk => ?_, ?_⟩
      · rw [sI1, if_neg (by omega), sI1, if_neg (by rw [show (5 : Int32).toNatClampNeg = 5 by decide]; omega)]
        exact g3 k (by omega)
      · rw [sI1, if_neg (by omega), sI1, if_pos ⟨rfl, by decide⟩]
theorem one_sub (i : Nat) : nI (i + 1) - (1 : Int32) = nI i := nI_pred i
/-- the state between two evenings of the reference -/
def Ms (T : t_D) (v : Nat → Nat) (m t : k_St) : Prop := mk m t ∧ MTT T t ∧ (∀ k, k < 6 → t.1 3 k = nI (v k)) ∧ ∀ j p, (lgt T)[j]? = some p → t.1 7 j = nI p
theorem fev58 {T : t_D} (w : Tw T) {n N : Nat} {v : Nat → Nat} {m : k_St} (hn : big n) (hN : N ≤ 60) (hv : nvok T v) (hH : 0 < T 0 4) : ∀ (f i : Nat) (t : k_St), i ≤ N → N - i < f → Ms T (evs T v i) m t → ∃ u, f_M_evenings1_58 n f (nI N) 0 (nI (lgt T).length) (nI (i + 1)) t = some u ∧ Ms T (evs T v N) m u := by
  have h5 := w.2.2.2.2.1
  intro f
  induction f with
  | zero => intro i t _ h; omega
  | succ f ih =>
    intro i t hi hf hs
    rw [f_M_evenings1_58]
    rcases Nat.lt_or_ge i N with hl | hl
    · have hvi := hv.evs w hH i
      obtain ⟨u, a, b1, b2, b3⟩ := fanEvX (n := n) (h := i % T 0 4) w (by have := Nat.mod_lt i hH; omega) (lgt_len w) (lgt_mem w) n 0 (evs T v i) t (by omega) (by have := lgt_len w; omega) hs.2.1 hs.2.2.1 hvi.2 (hvi.p8 w _ (by have := Nat.mod_lt i hH; omega)) hs.2.2.2
      rw [List.drop_zero] at a b3
      rw [if_neg (nI_nlt (by omega) (by omega)), hs.2.1.1 4 (by omega), kgd (nI_ne0 hH (by omega)), one_sub, pk_rem (by omega) hH (by omega)]
      unfold f_M_anEveningX
      have a' : f_M_anEveningX_6 n n (nI (i % T 0 4)) (nI (lgt T).length) 0 1 t = _ := a
      rw [a', kcl, if_pos rfl, klt, nI_1]
      exact ih (i + 1) u (by omega) (by omega) ⟨hs.1.tr (fun o k q => b1 o k (by omega)), hs.2.1.same (fun o k q1 q2 => b1 o k (by omega)), b3, fun j p hj => by rw [b1 7 j (by omega)]; exact hs.2.2.2 j p hj⟩
    · have e : i = N := by omega
      subst e
      rw [if_pos (nI_lt (by omega) (by omega))]
      exact ⟨t, rfl, hs⟩
def fse (T : t_D) (v : Nat → Nat) : Nat → Nat → Nat
  | 0, _ => 0
  | r + 1, i => if allS T (evs T v (i + 1)) (T 0 4) then i + 1 else fse T v r (i + 1)
theorem fev58a {T : t_D} (w : Tw T) {n N : Nat} {v : Nat → Nat} {m : k_St} (hn : big n) (hN : N ≤ 60) (hv : nvok T v) (hH : 0 < T 0 4) : ∀ (f i : Nat) (t : k_St), i ≤ N → N - i < f → Ms T (evs T v i) m t → (t.1 0 42 = 0 → ∃ u, f_M_evenings1_58 n f (nI N) 1 (nI (lgt T).length) (nI (i + 1)) t = some u ∧ mk m u ∧ u.1 0 42 = nI (fse T v (N - i) i)) ∧ (∀ c, c < 2 ^ 31 → 0 < c → t.1 0 42 = nI c → ∃ u, f_M_evenings1_58 n f (nI N) 1 (nI (lgt T).length) (nI (i + 1)) t = some u ∧ mk m u ∧ u.1 0 42 = nI c) := by
  have h5 := w.2.2.2.2.1
  intro f
  induction f with
  | zero => intro i t _ h; omega
  | succ f ih =>
    intro i t hi hf hs
    rw [f_M_evenings1_58]
    rcases Nat.lt_or_ge i N with hl | hl
    · have hvi := hv.evs w hH i
      have hvi1 := hv.evs w hH (i + 1)
      obtain ⟨u, a, b1, b2, b3⟩ := fanEvX (n := n) (h := i % T 0 4) w (by have := Nat.mod_lt i hH; omega) (lgt_len w) (lgt_mem w) n 0 (evs T v i) t (by omega) (by have := lgt_len w; omega) hs.2.1 hs.2.2.1 hvi.2 (hvi.p8 w _ (by have := Nat.mod_lt i hH; omega)) hs.2.2.2
      rw [List.drop_zero] at a b3
      have hs1 : Ms T (evs T v (i + 1)) m u := ⟨hs.1.tr (fun o k q => b1 o k (by omega)), hs.2.1.same (fun o k q1 q2 => b1 o k (by omega)), b3, fun j p hj => by rw [b1 7 j (by omega)]; exact hs.2.2.2 j p hj⟩
      rw [if_neg (nI_nlt (by omega) (by omega)), hs.2.1.1 4 (by omega), kgd (nI_ne0 hH (by omega)), one_sub, pk_rem (by omega) hH (by omega)]
      unfold f_M_anEveningX
      have a' : f_M_anEveningX_6 n n (nI (i % T 0 4)) (nI (lgt T).length) 0 1 t = _ := a
      rw [a', kcl, if_neg (show ¬ (1 : Int32) = 0 by decide), b1 0 42 (by omega)]
      refine ⟨fun h0 => ?_, fun c hc hc0 h0 => ?_⟩
      · rw [h0, if_pos rfl]
        obtain ⟨u2, e2, hz⟩ := fsenseInX w (hvi1.p8 w) hn (T 0 4) n 0 u (by omega) (by omega) hs1.2.1 hs1.2.2.1
        obtain ⟨q1, q2, q3⟩ := sn_pc T (evs T v (i + 1)) (T 0 4) h5
        have h32 : 2 ^ T 0 4 ≤ 2 ^ 5 := Nat.pow_le_pow_right (by omega) h5
        unfold f_M_senseInX
        have e2' : f_M_senseInX_4 n n 0 0 u = some (nI (sn T (evs T v (i + 1)) (T 0 4)), u2) := e2
        have hs2 : Ms T (evs T v (i + 1)) m u2 := ⟨hs1.1.tr hz.mz.mk, hs1.2.1.mz hz.mz, fun k hk => by rw [hz.2 3 k (by omega) (by omega)]; exact hs1.2.2.1 k hk, fun j p hj => by rw [hz.2 7 j (by omega) (by omega)]; exact hs1.2.2.2 j p hj⟩
        have h42 : u2.1 0 42 = 0 := by rw [hz.2 0 42 (by omega) (by omega), b1 0 42 (by omega), h0]
        rw [show N - i = (N - (i + 1)) + 1 by omega, fse]
        rw [e2', kcl, fMbits (by omega) (by omega), kcp, hs2.2.1.1 4 (by omega)]
        by_cases hall : allS T (evs T v (i + 1)) (T 0 4) = true
        · rw [if_pos (by rw [q3.mpr hall]), klt, klt, nI_1, if_pos hall]
          exact (ih (i + 1) (k_sI u2 0 42 (nI (i + 1))) (by omega) (by omega) ⟨hs2.1.tr (mk.set _ 0 42 _ (by omega)), hs2.2.1.same (fun o k q1 q2 => by rw [sI1, if_neg (by omega)]), fun k hk => by rw [sI1, if_neg (by omega)]; exact hs2.2.2.1 k hk, fun j p hj => by rw [sI1, if_neg (by omega)]; exact hs2.2.2.2 j p hj⟩).2 (i + 1) (by omega) (by omega) (by rw [sI1, if_pos ⟨rfl, rfl⟩])
        · rw [if_neg (fun e => hall (q3.mp (nI_inj (by omega) (by omega) e))), klt, nI_1, if_neg hall]
          exact (ih (i + 1) u2 (by omega) (by omega) hs2).1 h42
      · rw [h0, if_neg (nI_ne0 hc0 hc), klt, nI_1]
        exact (ih (i + 1) u (by omega) (by omega) hs1).2 c hc hc0 (by rw [b1 0 42 (by omega), h0])
    · have e : i = N := by omega
      subst e
      rw [if_pos (nI_lt (by omega) (by omega)), Nat.sub_self, fse]
      exact ⟨fun h0 => ⟨t, rfl, hs.1, h0⟩, fun c _ _ h0 => ⟨t, rfl, hs.1, h0⟩⟩
theorem fallHave {T : t_D} {v : Nat → Nat} (w : Tw T) {x : k_St} (hX : XT T x) (hT : TB x (ta_all T (allp T))) (hv : nvok T v) {n : Nat} (hn : 200 ≤ n) : f_X_allHaveSense n x (lN (pk v)) = some (allS T v (T 0 4)) := by
  have h5 := w.2.2.2.2.1
  have hp8 := hv.p8 w
  have hR : TR T (ta_all T (allp T)) := fun r hr => ta_all_row w hr
  have key : ∀ (j f i : Nat), i + j = T 0 4 → j < f → allS T v i = true → f_X_allHaveSense_2 n x f (lN (pk v)) (nI i) = some (allS T v (T 0 4)) := by
    intro j
    induction j with
    | zero =>
      intro f i hi hf ha
      obtain ⟨f, rfl⟩ : ∃ f', f = f' + 1 := ⟨f - 1, by omega⟩
      rw [f_X_allHaveSense_2, hX.1 4 (by omega), if_pos (nI_le (by omega) (by omega)), ← ha, show i = T 0 4 by omega]
    | succ j ih =>
      intro f i hi hf ha
      obtain ⟨f, rfl⟩ : ∃ f', f = f' + 1 := ⟨f - 1, by omega⟩
      have hvi := hp8 i (by omega)
      rw [f_X_allHaveSense_2, hX.1 4 (by omega), if_neg (nI_ge (by omega) (by omega)), fpart hp8 (by omega), fmakeSense hT hR (by omega) hn, kcp, ← ta_all_filter (S := v i) (allp_bit T)]
      by_cases he : (ta_all T (v i)).isEmpty = true
      · rw [if_pos (k_beq (by rw [he]; rfl))]
        have : ∀ k, i < k → allS T v k = false := by
          intro k
          induction k with
          | zero => intro h; omega
          | succ k ihk =>
            intro h
            rw [allS]
            by_cases e : k = i
            · subst e; rw [he]; simp
            · rw [ihk (by omega)]; rfl
        rw [this (T 0 4) (by omega)]
      · simp only [Bool.not_eq_true] at he
        rw [if_neg (k_bne (by rw [he]; rfl)), klt, nI_1]
        exact ih f (i + 1) (by omega) (by omega) (by rw [allS, ha, he]; rfl)
  exact key (T 0 4) n 0 (by omega) (by omega) rfl
theorem fallSense55 {T : t_D} (w : Tw T) {n N : Nat} {v : Nat → Nat} {x0 : k_St} (hn : 200 ≤ n) (hN : N ≤ 60) (hv : nvok T v) (hH : 0 < T 0 4) : ∀ (f i : Nat) (x : k_St), i ≤ N → N - i < f → xk x0 x → XT T x → TB x (ta_all T (allp T)) → x.1 33 0 = nI (evs T v i 5) → AX (f_X_allSense_55 n f (nI N) (lN (pk (evs T v i))) (nI i) x) x0 (nI (fse T v (N - i) i)) 0 := by
  have h5 := w.2.2.2.2.1
  intro f
  induction f with
  | zero => intro i x _ h; omega
  | succ f ih =>
    intro i x hi hf hk hX hT h0
    rw [f_X_allSense_55]
    rcases Nat.lt_or_ge i N with hl | hl
    · obtain ⟨y, a, b, c⟩ := fbehindEvening (k := i) w hn hX hT h0 (hv.evs w (by omega) i) (by omega) (by omega)
      have hXy := hX.same (fun o k q1 q2 => b.1 o k (by omega))
      have hTy := hT.same (fun o k q1 q2 => b.1 o k (by omega))
      rw [if_neg (nI_ge hl (by omega)), a, kcl]
      have e2 : f_X_allHaveSense n y (lN (pk (evn T (evs T v i) (i % T 0 4)))) = some (allS T (evs T v (i + 1)) (T 0 4)) := fallHave w hXy hTy (hv.evs w hH (i + 1)) hn
      rw [e2, kcp, show N - i = (N - (i + 1)) + 1 by omega, fse]
      by_cases hall : allS T (evs T v (i + 1)) (T 0 4) = true
      · rw [if_neg (k_bne hall), if_pos hall, nI_1]
        exact AX.ans (hk.tr b.xk) _
      · rw [if_neg hall]
        simp only [Bool.not_eq_true] at hall
        rw [if_pos (k_beq hall), klt, nI_1]
        exact ih (i + 1) y (by omega) (by omega) (hk.tr b.xk) hXy hTy c
    · have e : i = N := by omega
      subst e
      rw [if_pos (nI_le (by omega) (by omega)), Nat.sub_self, fse]
      exact AX.ans hk _
theorem seed_or (x : Int32) : (f_X_noSeed x = true ∧ f_M_in x 0 65536 = false) ∨ ∃ s, s < 65537 ∧ x = nI s ∧ f_X_noSeed x = false ∧ f_M_in x 0 65536 = true := by
  unfold f_X_noSeed f_M_in
  rcases pk_ix x (n := 65537) (by omega) with hx | hx | ⟨S, hS, rfl⟩
  · left; rw [if_pos hx, if_pos (show x < (0 : Int32) from hx)]; exact ⟨rfl, rfl⟩
  · left
    have h0 : ¬ x < 0 := fun q => nI_pos (n := 65537) (by omega) (Int32.lt_of_le_of_lt hx q)
    have h1 : (65536 : Int32) < x := Int32.lt_of_lt_of_le (by decide) hx
    rw [if_neg h0, if_neg (show ¬ x < 65537 from Int32.not_lt.mpr hx), if_neg h0, if_pos h1]; exact ⟨rfl, rfl⟩
  · right
    exact ⟨S, hS, rfl, by rw [if_neg (nI_pos (by omega)), if_pos (by rw [show (65537 : Int32) = nI 65537 from rfl]; exact nI_lt hS (by omega))], by rw [if_neg (nI_pos (by omega)), if_neg (by rw [show (65536 : Int32) = nI 65536 from rfl]; exact nI_nlt (by omega) (by omega))]⟩
theorem evs_or (x : Int32) : (f_X_noEvenings x = true ∧ f_M_in x 0 60 = false) ∨ ∃ s, s ≤ 60 ∧ x = nI s ∧ f_X_noEvenings x = false ∧ f_M_in x 0 60 = true := by
  unfold f_X_noEvenings f_M_in
  rcases pk_ix x (n := 61) (by omega) with hx | hx | ⟨S, hS, rfl⟩
  · left; rw [if_pos hx, if_pos (show x < (0 : Int32) from hx)]; exact ⟨rfl, rfl⟩
  · left
    have h0 : ¬ x < 0 := fun q => nI_pos (n := 61) (by omega) (Int32.lt_of_le_of_lt hx q)
    have h1 : (60 : Int32) < x := Int32.lt_of_lt_of_le (by decide) hx
    rw [if_neg h0, if_neg (Int32.not_le.mpr h1), if_neg h0, if_pos h1]; exact ⟨rfl, rfl⟩
  · right
    exact ⟨S, by omega, rfl, by rw [if_neg (nI_pos (by omega)), if_pos (by rw [show (60 : Int32) = nI 60 from rfl]; exact nI_le (by omega) (by omega))], by rw [if_neg (nI_pos (by omega)), if_neg (by rw [show (60 : Int32) = nI 60 from rfl]; exact nI_nlt (by omega) (by omega))]⟩
theorem nvok.seed {T : t_D} {v : Nat → Nat} (hv : nvok T v) {s : Nat} (hs : s < 65537) : nvok T (vup v 5 s) := ⟨fun k hk => by unfold vup; rw [if_neg (by omega)]; exact hv.1 k hk, by unfold vup; rw [if_pos rfl]; exact hs⟩
theorem pk_seed (v : Nat → Nat) (s : Nat) : pk (vup v 5 s) = pk v := by unfold pk vup; simp
/-- the reference's start of its evenings -/
theorem fevenings1 {T : t_D} (w : Tw T) {v : Nat → Nat} {m : k_St} (g : MB T v m) {n s : Nat} (hn : big n) (N a : Int32) : ∃ u, f_M_evenings1 n (nI s) N a m = f_M_evenings1_58 n n N a (nI (lgt T).length) 1 u ∧ Ms T (vup v 5 s) m u ∧ u.1 0 42 = 0 := by
  obtain ⟨t, e, hm, hb⟩ := fMlongestOf w (show allp T < 2 ^ 31 by have := w.pow; unfold allp; omega) hn g.1
  have gt := g.mk hm.mk
  obtain ⟨u, a1, b, c, d, e1, f1⟩ := fev16 (n := n) (v := v) (sd := nI s) (N := N) (a := a) (tl := nI (lgt T).length) n 0 t (by omega) (by omega) gt.2 (fun k hk => by omega)
  unfold f_M_evenings1
  rw [fMall w g.1, e, kcl]
  refine ⟨u, a1, ⟨hm.mk.tr (fun o k q => b o k (by omega) (by omega)), gt.1.same (fun o k q1 q2 => b o k (by omega) (by omega)), fun k hk => ?_, fun j p hj => by rw [b 7 j (by omega) (by omega)]; exact hb j p hj⟩, d⟩
  unfold vup
  by_cases q : k = 5
  · rw [if_pos q, q, f1]
  · rw [if_neg q, e1 k (by omega)]
theorem e_evenings {T : t_D} {v : Nat → Nat} {x m : k_St} (h : XB T v x) (g : MB T v m) {n : Nat} (hn : big n) (x1 x2 x3 : Int32) : Q2 (f_X_evenings n x1 x2 x3 x) x (f_M_evenings n x1 x2 x3 m) m := by
  have w := h.1
  have g0 := g.mk (th0 m)
  have h5 := w.2.2.2.2.1
  unfold f_X_evenings f_M_evenings
  rw [klt (k_sI m 0 0 0), klt (f_M_refusesEvenings (k_b (f_M_isHouse (k_sI m 0 0 0) x1)) x2 x3)]
  unfold f_M_refusesEvenings
  rcases house_or w h.2.1 g0.1 x1 with ⟨a, b⟩ | ⟨k, hk, rfl, a, b⟩
  · rw [if_neg (k_bne a), if_pos (k_beq b), if_neg (by decide)]
    exact Q2.ref (xk.rf x) (th0 m) 1 (by decide)
  · rw [if_pos (k_beq a), if_neg (k_bne b)]
    rcases seed_or x2 with ⟨c, d⟩ | ⟨s, hs, rfl, c, d⟩
    · rw [if_neg (k_bne c), if_pos (k_beq d), if_neg (by decide)]
      exact Q2.ref (xk.rf x) (th0 m) 2 (by decide)
    · rw [if_pos (k_beq c), if_neg (k_bne d)]
      rcases evs_or x3 with ⟨c2, d2⟩ | ⟨N, hN, rfl, c2, d2⟩
      · rw [if_neg (k_bne c2), if_pos (k_beq d2), if_neg (by decide)]
        exact Q2.ref (xk.rf x) (th0 m) 2 (by decide)
      · rw [if_pos (k_beq c2), if_neg (k_bne d2), if_pos (show (0 : Int32) ≤ 0 by decide), klt, klt, h.2.2.2.2.1]
        have hv := h.2.2.2.2.2.2.2.seed hs
        obtain ⟨u, e1, hM, -⟩ := fevenings1 w g0 hn (s := s) (nI N) 0
        obtain ⟨u2, e2, hM2⟩ := fev58 w hn hN hv (by omega) n 0 u (by omega) (by omega) hM
        have e3 : f_M_evenings1 n (nI s) (nI N) 0 (k_sI m 0 0 0) = some u2 := by rw [e1]; exact e2
        rw [e3, kcv, kgi (kin (by omega) (by decide)), nI_clamp (by omega), hM2.2.2.1 k (by omega)]
        have hX := fevenings54 (x0 := x) (h := k) (n := n) w (by omega) hN hv hk n 0 (k_sI x 33 0 (nI s)) (by omega) (by omega) ⟨fun o j q => by rw [sI1, if_neg (by omega)], fun _ _ _ => rfl⟩ (h.2.1.same (fun o j q1 q2 => by rw [sI1, if_neg (by omega)])) (h.2.2.1.same (fun o j q1 q2 => by rw [sI1, if_neg (by omega)])) (by rw [sI1, if_pos ⟨rfl, rfl⟩]; show nI s = nI (vup v 5 s 5); unfold vup; rw [if_pos rfl])
        rw [show evs T (vup v 5 s) 0 = vup v 5 s from rfl, pk_seed] at hX
        exact ⟨_, 0, hX, AM.good ((th0 m).tr hM2.1) _, by decide⟩
theorem e_allSense {T : t_D} {v : Nat → Nat} {x m : k_St} (h : XB T v x) (g : MB T v m) {n : Nat} (hn : big n) (x1 x2 : Int32) : Q2 (f_X_allSense n x1 x2 x) x (f_M_allSense n x1 x2 m) m := by
  have w := h.1
  have g0 := g.mk (th0 m)
  have h5 := w.2.2.2.2.1
  unfold f_X_allSense f_M_allSense
  rw [klt (k_sI m 0 0 0), klt (f_M_refusesEvenings (k_b (f_M_isHouse (k_sI m 0 0 0) 0)) x1 x2)]
  unfold f_M_refusesEvenings f_M_isHouse
  rw [h.2.1.1 4 (by omega), g0.1.1 4 (by omega), if_neg (show ¬ (0 : Int32) < 0 by decide)]
  by_cases hH : T 0 4 = 0
  · rw [if_pos (by rw [hH]; rfl), if_pos (show nI (T 0 4) ≤ 0 by rw [hH]; decide), if_pos (show k_b false = 0 by decide), if_neg (show ¬ (1 : Int32) ≤ 0 by decide)]
    exact Q2.ref (xk.rf x) (th0 m) 1 (by decide)
  · rw [if_neg (nI_ne0 (by omega) (by omega)), if_neg (show ¬ nI (T 0 4) ≤ 0 from nI_nle (by omega) (by omega)), if_neg (show ¬ k_b true = 0 by decide)]
    rcases seed_or x1 with ⟨c, d⟩ | ⟨s, hs, rfl, c, d⟩
    · rw [if_neg (k_bne c), if_pos (k_beq d), if_neg (by decide)]
      exact Q2.ref (xk.rf x) (th0 m) 2 (by decide)
    · rw [if_pos (k_beq c), if_neg (k_bne d)]
      rcases evs_or x2 with ⟨c2, d2⟩ | ⟨N, hN, rfl, c2, d2⟩
      · rw [if_neg (k_bne c2), if_pos (k_beq d2), if_neg (by decide)]
        exact Q2.ref (xk.rf x) (th0 m) 2 (by decide)
      · rw [if_pos (k_beq c2), if_neg (k_bne d2), if_pos (show (0 : Int32) ≤ 0 by decide), klt, klt, h.2.2.2.2.1]
        have hv := h.2.2.2.2.2.2.2.seed hs
        obtain ⟨u, e1, hM, h42⟩ := fevenings1 w g0 hn (s := s) (nI N) 1
        obtain ⟨u2, e2, hM2, h422⟩ := (fev58a w hn hN hv (by omega) n 0 u (by omega) (by omega) hM).1 h42
        have e3 : f_M_evenings1 n (nI s) (nI N) 1 (k_sI m 0 0 0) = some u2 := by rw [e1]; exact e2
        rw [e3, kcv, h422]
        have hX := fallSense55 (x0 := x) (n := n) w (by omega) hN hv (by omega) n 0 (k_sI x 33 0 (nI s)) (by omega) (by omega) ⟨fun o j q => by rw [sI1, if_neg (by omega)], fun _ _ _ => rfl⟩ (h.2.1.same (fun o j q1 q2 => by rw [sI1, if_neg (by omega)])) (h.2.2.1.same (fun o j q1 q2 => by rw [sI1, if_neg (by omega)])) (by rw [sI1, if_pos ⟨rfl, rfl⟩]; show nI s = nI (vup v 5 s 5); unfold vup; rw [if_pos rfl])
        rw [show evs T (vup v 5 s) 0 = vup v 5 s from rfl, pk_seed] at hX
        exact ⟨_, 0, hX, AM.good ((th0 m).tr hM2) _, by decide⟩
