/-! ===== the class's search in the park ===== -/
def wn (T : t_D) : Nat := (wy (T 0 4)).length
def wg (T : t_D) (i : Nat) : Nat := (wy (T 0 4)).getD i 0
theorem wg_get {T : t_D} {i : Nat} (h : i < wn T) : (wy (T 0 4))[i]? = some (wg T i) := by unfold wg; rw [List.getD_eq_getElem?_getD, List.getElem?_eq_getElem h]; rfl
def fs (T : t_D) (a : Nat) : Nat → (Nat → Nat) → Option (List Nat)
  | 0, v => if cnt v a (T 0 4) = T 0 4 then some [] else none
  | r + 1, v => (List.range' 0 (wn T)).findSome? (fun i => (fs T a r (bh T v (wg T i))).map (fun s => i :: s))
def fsg (T : t_D) (a r : Nat) (v : Nat → Nat) : Nat → Option (List Nat) := fun i => (fs T a r (bh T v (wg T i))).map (fun s => i :: s)
def xl (x y : k_St) : Prop := (∀ o k, o ≠ 26 → y.1 o k = x.1 o k) ∧ y.2 = x.2
theorem xl.rf (x : k_St) : xl x x := ⟨fun _ _ _ => rfl, rfl⟩
theorem xl.tr {x y z : k_St} (h : xl x y) (g : xl y z) : xl x z := ⟨fun o k a => (g.1 o k a).trans (h.1 o k a), g.2.trans h.2⟩
theorem PK.xl {T : t_D} {x y : k_St} (h : PK T x) (e : xl x y) : PK T y := h.same (fun o k _ => e.1 o k (by omega))
theorem fleads45 {T : t_D} (w : Tw T) {n : Nat} (hn : 200 ≤ n) {a j r : Nat} (hj : j < 3) {v : Nat → Nat} (hv : pk8 v) {x4 : Int32} {self : Int64 → Int32 → Int32 → k_St → Option (Bool × k_St)}
    (hself : ∀ (v : Nat → Nat) (t : k_St), pk8 v → PK T t → t.1 24 5 = nI a → ∃ u, self (lN (pk v)) (nI (j + 1)) x4 t = some ((fs T a r v).isSome, u) ∧ xl t u ∧ (∀ k, k < j + 1 → u.1 26 k = t.1 26 k) ∧ ∀ s, fs T a r v = some s → ∀ k q, s[k]? = some q → u.1 26 (j + 1 + k) = nI q) :
    ∀ (f i : Nat) (t : k_St), i ≤ wn T → wn T - i < f → PK T t → t.1 24 5 = nI a → ∃ u, f_Pa_leadsOn_45 n self f (lN (pk v)) (nI j) x4 (nI i) t = some (((List.range' i (wn T - i)).findSome? (fsg T a r v)).isSome, u) ∧ xl t u ∧ (∀ k, k < j → u.1 26 k = t.1 26 k) ∧ ∀ s, (List.range' i (wn T - i)).findSome? (fsg T a r v) = some s → ∀ k q, s[k]? = some q → u.1 26 (j + k) = nI q := by
  have h5 := w.2.2.2.2.1
  have hw26 := (wy_pf (T 0 4) h5).2.1
  have hwn : wn T = (wy (T 0 4)).length := rfl
  intro f
  induction f with
  | zero => intro i t _ h; omega
  | succ f ih =>
    intro i t hi hf hP ha
    rw [f_Pa_leadsOn_45, hP.1, ← hwn]
    rcases Nat.lt_or_ge i (wn T) with hl | hl
    · rw [show wn T - i = (wn T - (i + 1)) + 1 by omega, List.range'_succ, List.findSome?_cons, if_neg (nI_ge hl (by omega)), kgi (kin (by omega) (by decide)), klt, nI_clamp (n := j) (by omega)]
      have tz : xl t (k_sI t 26 j (nI i)) := ⟨fun o k ho => by rw [sI1, if_neg (by omega)], rfl⟩
      have hPz := hP.xl tz
      have haz : (k_sI t 26 j (nI i)).1 24 5 = nI a := by rw [sI1, if_neg (by omega)]; exact ha
      obtain ⟨u, e, b, c, d⟩ := hself (bh T v (wg T i)) (k_sI t 26 j (nI i)) (bh8 w hv _) hPz haz
      rw [fbehind w hn hPz hv (wg_get hl), kcp, nI_1 j, e, kcl]
      match hfs : fs T a r (bh T v (wg T i)) with
      | none =>
        have eg : fsg T a r v i = none := by unfold fsg; rw [hfs]; rfl
        rw [eg, if_pos (show k_b (Option.isSome (none : Option (List Nat))) = 0 from rfl), klt, nI_1]
        have ub := tz.tr b
        obtain ⟨y, e2, b2, c2, d2⟩ := ih (i + 1) u (by omega) (by omega) (hP.xl ub) (by rw [ub.1 24 5 (by omega)]; exact ha)
        exact ⟨y, e2, ub.tr b2, fun k hk => by rw [c2 k hk, c k (by omega), sI1, if_neg (by omega)], d2⟩
      | some s =>
        have eg : fsg T a r v i = some (i :: s) := by unfold fsg; rw [hfs]; rfl
        rw [eg, if_neg (show ¬ k_b (Option.isSome (some s)) = 0 from (show ¬ k_b true = 0 by decide))]
        refine ⟨u, rfl, tz.tr b, fun k hk => by rw [c k (by omega), sI1, if_neg (by omega)], fun s' hs' k q hk => ?_⟩
        rw [← Option.some.inj hs'] at hk
        cases k with
        | zero =>
          simp at hk
          rw [Nat.add_zero, c j (by omega), sI1, if_pos ⟨rfl, rfl⟩, hk]
        | succ k =>
          rw [List.getElem?_cons_succ] at hk
          rw [show j + (k + 1) = j + 1 + k by omega]
          exact d s hfs k q hk
    · rw [if_pos (nI_le hl (by omega)), show wn T - i = 0 by omega]
      exact ⟨t, rfl, xl.rf t, fun _ _ => rfl, fun s hs => by simp at hs⟩
theorem fleads {T : t_D} (w : Tw T) {n : Nat} (hn : 200 ≤ n) {a : Nat} (ha256 : a < 256) : ∀ (r d j : Nat) (v : Nat → Nat) (t : k_St), j + r ≤ 3 → r < d → pk8 v → PK T t → t.1 24 5 = nI a → ∃ u, f_Pa_leadsOn n d (lN (pk v)) (nI j) (nI (j + r)) t = some ((fs T a r v).isSome, u) ∧ xl t u ∧ (∀ k, k < j → u.1 26 k = t.1 26 k) ∧ ∀ s, fs T a r v = some s → ∀ k q, s[k]? = some q → u.1 26 (j + k) = nI q := by
  have h5 := w.2.2.2.2.1
  have hw26 := (wy_pf (T 0 4) h5).2.1
  have hwn : wn T = (wy (T 0 4)).length := rfl
  intro r
  induction r with
  | zero =>
    intro d j v t hj hd hv hP ha
    obtain ⟨d, rfl⟩ : ∃ d', d = d' + 1 := ⟨d - 1, by omega⟩
    have hc := cna_le v a (T 0 4)
    rw [f_Pa_leadsOn, if_neg (nI_nlt (by omega) (by omega)), fcount w hn hP hv ha256 ha, kcp, hP.2.1, fs]
    by_cases e : cnt v a (T 0 4) = T 0 4
    · rw [if_pos (by rw [e]), if_pos e]
      exact ⟨t, rfl, xl.rf t, fun _ _ => rfl, fun s hs k q hk => by rw [← Option.some.inj hs] at hk; simp at hk⟩
    · rw [if_neg (fun q => e (nI_inj (by omega) (by omega) q)), if_neg e]
      exact ⟨t, rfl, xl.rf t, fun _ _ => rfl, fun s hs => by simp at hs⟩
  | succ r ih =>
    intro d j v t hj hd hv hP ha
    obtain ⟨d, rfl⟩ : ∃ d', d = d' + 1 := ⟨d - 1, by omega⟩
    have go : ∃ u, f_Pa_leadsOn_45 n (f_Pa_leadsOn n d) n (lN (pk v)) (nI j) (nI (j + (r + 1))) 0 t = some ((fs T a (r + 1) v).isSome, u) ∧ xl t u ∧ (∀ k, k < j → u.1 26 k = t.1 26 k) ∧ ∀ s, fs T a (r + 1) v = some s → ∀ k q, s[k]? = some q → u.1 26 (j + k) = nI q := by
      have := fleads45 (n := n) (x4 := nI (j + (r + 1))) (self := f_Pa_leadsOn n d) w hn (a := a) (j := j) (r := r) (by omega) hv (fun v t h1 h2 h3 => by
        have q := ih d (j + 1) v t (by omega) (by omega) h1 h2 h3
        rw [show j + 1 + r = j + (r + 1) by omega] at q
        exact q) n 0 t (by omega) (by omega) hP ha
      rw [Nat.sub_zero] at this
      exact this
    rw [f_Pa_leadsOn, if_pos (nI_lt (by omega) (by omega)), nI_1]
    by_cases e : r = 0
    · subst e
      rw [if_pos (by rfl)]
      obtain ⟨b, b1, b2⟩ := ffar w hn hP hv ha256 ha
      rw [b1, kcp]
      cases b with
      | false =>
        rw [if_pos (show k_b false = 0 from rfl)]
        exact go
      | true =>
        rw [if_neg (show ¬ k_b true = 0 by decide)]
        have hno : fs T a (0 + 1) v = none := by
          rw [fs, List.findSome?_eq_none_iff]
          intro i _
          rw [fs, if_neg (far_no (b2 rfl) _)]
          rfl
        rw [hno]
        exact ⟨t, rfl, xl.rf t, fun _ _ => rfl, fun s hs => by simp at hs⟩
    · rw [if_neg (fun q => by have := nI_inj (by omega) (by omega) q; omega)]
      exact go
/-- the fewest rounds, at least k: none, or the first way of that many -/
def few (T : t_D) (a k : Nat) (v : Nat → Nat) (x2 : Int32) (P : List Nat → Prop) : Prop := (x2 = -2 ∧ ∀ i, k ≤ i → i ≤ 3 → fs T a i v = none) ∨ ∃ i s, k ≤ i ∧ i ≤ 3 ∧ x2 = nI i ∧ fs T a i v = some s ∧ (∀ i', k ≤ i' → i' < i → fs T a i' v = none) ∧ P s
theorem ffewest10 {T : t_D} (w : Tw T) {n : Nat} (hn : 200 ≤ n) {a : Nat} (ha256 : a < 256) {v : Nat → Nat} (hv : pk8 v) : ∀ (f k : Nat) (t : k_St), k ≤ 4 → 4 - k < f → PK T t → t.1 24 5 = nI a → ∃ x2 u, f_Pa_fewestRounds_10 n f (lN (pk v)) (nI k) t = some (x2, u) ∧ xl t u ∧ few T a k v x2 (fun s => ∀ i q, s[i]? = some q → u.1 26 i = nI q) := by
  intro f
  induction f with
  | zero => intro k t _ h; omega
  | succ f ih =>
    intro k t hk hf hP ha
    rw [f_Pa_fewestRounds_10]
    rcases Nat.lt_or_ge 3 k with hl | hl
    · rw [if_pos (show (3 : Int32) < nI k from nI_lt (a := 3) hl (by omega))]
      exact ⟨-2, t, rfl, xl.rf t, Or.inl ⟨rfl, fun i h1 h2 => by omega⟩⟩
    · obtain ⟨u, e, b, -, d⟩ := fleads w hn ha256 k 4 0 v t (by omega) (by omega) hv hP ha
      rw [Nat.zero_add] at e
      have e' : f_Pa_leadsOn n 4 (lN (pk v)) 0 (nI k) t = some ((fs T a k v).isSome, u) := e
      rw [if_neg (show ¬ (3 : Int32) < nI k from nI_nlt (a := 3) (by omega) (by omega)), e', kcl]
      match hfs : fs T a k v with
      | none =>
        rw [if_pos (show k_b (Option.isSome (none : Option (List Nat))) = 0 from rfl), klt, nI_1]
        obtain ⟨x2, y, e2, b2, c2⟩ := ih (k + 1) u (by omega) (by omega) (hP.xl b) (by rw [b.1 24 5 (by omega)]; exact ha)
        refine ⟨x2, y, e2, b.tr b2, ?_⟩
        rcases c2 with ⟨h1, h2⟩ | ⟨i, s, h1, h2, h3, h4, h6, h7⟩
        · exact Or.inl ⟨h1, fun i q1 q2 => by
            by_cases z : i = k
            · rw [z]; exact hfs
            · exact h2 i (by omega) q2⟩
        · exact Or.inr ⟨i, s, by omega, h2, h3, h4, fun i' q1 q2 => by
            by_cases z : i' = k
            · rw [z]; exact hfs
            · exact h6 i' (by omega) q2, h7⟩
      | some s =>
        rw [if_neg (show ¬ k_b (Option.isSome (some s)) = 0 from (show ¬ k_b true = 0 by decide))]
        exact ⟨nI k, u, rfl, b, Or.inr ⟨k, s, by omega, hl, rfl, hfs, fun i' q1 q2 => by omega, fun i q hi => by have := d s hfs i q hi; rw [Nat.zero_add] at this; exact this⟩⟩
/-- the most -/
def mf (T : t_D) (a : Nat) : Nat → (Nat → Nat) → Nat
  | 0, v => cnt v a (T 0 4)
  | r + 1, v => (List.range' 0 (wn T)).foldl (fun b i => max b (mf T a r (bh T v (wg T i)))) 0
theorem fold_max_le {L : List Nat} {g : Nat → Nat} {N : Nat} : ∀ (b : Nat), b ≤ N → (∀ i ∈ L, g i ≤ N) → L.foldl (fun b i => max b (g i)) b ≤ N := by
  induction L with
  | nil => intro b h _; exact h
  | cons c L ih =>
    intro b h q
    rw [List.foldl_cons]
    exact ih _ (by have := q c (by simp); omega) (fun i hi => q i (by simp [hi]))
theorem mf_le (T : t_D) (a : Nat) : ∀ r v, mf T a r v ≤ T 0 4
  | 0, v => cna_le v a _
  | r + 1, v => by
    rw [mf]
    exact fold_max_le 0 (by omega) (fun i _ => mf_le T a r _)
theorem fmost {T : t_D} (w : Tw T) {n : Nat} (hn : 200 ≤ n) {a : Nat} (ha256 : a < 256) {x : k_St} (hP : PK T x) (ha : x.1 24 5 = nI a) : ∀ (r d : Nat) (v : Nat → Nat), r ≤ 3 → r < d → pk8 v → f_Pa_mostFrom n x d (lN (pk v)) (nI r) = some (nI (mf T a r v)) := by
  have h5 := w.2.2.2.2.1
  have hw26 := (wy_pf (T 0 4) h5).2.1
  have hwn : wn T = (wy (T 0 4)).length := rfl
  intro r
  induction r with
  | zero =>
    intro d v _ hd hv
    obtain ⟨d, rfl⟩ : ∃ d', d = d' + 1 := ⟨d - 1, by omega⟩
    rw [f_Pa_mostFrom, if_neg (show ¬ (0 : Int32) < nI 0 by decide), fcount w hn hP hv ha256 ha, kcp, mf]
  | succ r ih =>
    intro d v hr hd hv
    obtain ⟨d, rfl⟩ : ∃ d', d = d' + 1 := ⟨d - 1, by omega⟩
    have key : ∀ (f i b : Nat), b ≤ 5 → i ≤ wn T → wn T - i < f → f_Pa_mostFrom_16 n x (f_Pa_mostFrom n x d) f (lN (pk v)) (nI (r + 1)) (nI b) (nI i) = some (nI ((List.range' i (wn T - i)).foldl (fun b i => max b (mf T a r (bh T v (wg T i)))) b)) := by
      intro f
      induction f with
      | zero => intro i b _ _ h; omega
      | succ f ihf =>
        intro i b hb hi hf
        rw [f_Pa_mostFrom_16, hP.1, ← hwn]
        rcases Nat.lt_or_ge i (wn T) with hl | hl
        · have hm := mf_le T a r (bh T v (wg T i))
          rw [if_neg (nI_ge hl (by omega)), fbehind w hn hP hv (wg_get hl), kcp, nI_pred, ih d _ (by omega) (by omega) (bh8 w hv _), kcp, klt, klt, nI_max (by omega) (by omega), nI_1, ihf (i + 1) _ (by omega) (by omega) (by omega)]
          rw [show wn T - i = (wn T - (i + 1)) + 1 by omega, List.range'_succ, List.foldl_cons]
        · rw [if_pos (nI_le hl (by omega)), show wn T - i = 0 by omega]
          rfl
    have := key n 0 0 (by omega) (by omega) (by omega)
    rw [f_Pa_mostFrom, if_pos (show (0 : Int32) < nI (r + 1) from nI_lt (a := 0) (by omega) (by omega))]
    exact this
