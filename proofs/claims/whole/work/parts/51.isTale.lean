/-! ===== isTale ===== -/
/-- a row piece by piece from where the walk stands -/
def wk (T : t_D) (S : Nat) : List Nat → List Nat → Bool
  | rp, [] => whp T rp
  | rp, p :: rest => !whp T rp && (fitp T S rp p && wk T S (p :: rp) rest)
theorem gp_pre {T : t_D} {S : Nat} {rp : List Nat} {p : Nat} {r : List Nat} (h : r ∈ ta_gp T S rp p) : ∃ rest, r = rp.reverse ++ p :: rest := by
  have ext : ∀ (d q used kings : Nat) (path r : List Nat), r ∈ ta_ext T S d q used kings path → ∃ rest, r = path ++ rest := by
    intro d
    induction d with
    | zero => intro q used kings path r h; simp [ta_ext] at h
    | succ d ih =>
      intro q used kings path r h
      rw [ta_ext, List.mem_flatMap] at h
      obtain ⟨i, -, h⟩ := h
      by_cases hf : ta_fit T S used kings q i = true
      · rw [if_pos hf] at h
        by_cases h3 : T 1 i = 3
        · rw [if_pos h3, List.mem_singleton] at h
          exact ⟨[i], h⟩
        · rw [if_neg h3] at h
          obtain ⟨rest, e⟩ := ih _ _ _ _ r h
          exact ⟨i :: rest, by rw [e, List.append_assoc]; rfl⟩
      · rw [if_neg hf] at h; cases h
  cases rp with
  | nil =>
    rw [ta_gp] at h
    by_cases hf : ta_fit0 T S p = true
    · rw [if_pos hf] at h
      obtain ⟨rest, e⟩ := ext _ _ _ _ _ r h
      exact ⟨rest, by rw [e]; rfl⟩
    · rw [if_neg hf] at h; cases h
  | cons q rp =>
    rw [ta_gp] at h
    by_cases hf : ta_fit T S (us (q :: rp)) (kg T (q :: rp)) q p = true
    · rw [if_pos hf] at h
      by_cases h3 : T 1 p = 3
      · rw [if_pos h3, List.mem_singleton] at h
        exact ⟨[], h⟩
      · rw [if_neg h3] at h
        obtain ⟨rest, e⟩ := ext _ _ _ _ _ r h
        exact ⟨rest, by rw [e, List.append_assoc]; rfl⟩
    · rw [if_neg hf] at h; cases h
theorem wk_mem {T : t_D} (w : Tw T) {S : Nat} : ∀ (rest rp : List Nat) (p : Nat), ok T rp → p < T 0 2 → (∀ q ∈ rest, q < T 0 2) → ((fitp T S rp p && wk T S (p :: rp) rest) = true ↔ rp.reverse ++ p :: rest ∈ ta_gp T S rp p) := by
  intro rest
  induction rest with
  | nil =>
    intro rp p hok hp _
    by_cases hf : fitp T S rp p = true
    · rw [hf, Bool.true_and]
      show whp T (p :: rp) = true ↔ _
      match rp, hok, hf with
      | [], hok, hf =>
        constructor
        · intro h; cases h
        · intro h
          exfalso
          rw [ta_gp_on w hp hok hf (Or.inl rfl), List.mem_flatMap] at h
          obtain ⟨i, -, h⟩ := h
          obtain ⟨rest, e⟩ := gp_pre h
          have := congrArg List.length e
          simp at this
      | q :: r0, hok, hf =>
        by_cases h3 : T 1 p = 3
        · rw [ta_gp_end hf h3]
          simp [whp, h3]
        · have : whp T (p :: q :: r0) = false := by simp [whp, h3]
          rw [this]
          constructor
          · intro h; cases h
          · intro h
            exfalso
            rw [ta_gp_on w hp hok hf (Or.inr h3), List.mem_flatMap] at h
            obtain ⟨i, -, h⟩ := h
            obtain ⟨rest, e⟩ := gp_pre h
            have := congrArg List.length e
            simp at this
    · simp only [Bool.not_eq_true] at hf
      rw [hf, ta_gp_no hf]
      simp
  | cons p2 rest ih =>
    intro rp p hok hp hr
    have hp2 := hr p2 (by simp)
    by_cases hf : fitp T S rp p = true
    · have hok2 : ok T (p :: rp) := ⟨hp, fitp_us hf, hok⟩
      have ih2 := ih (p :: rp) p2 hok2 hp2 (fun q hq => hr q (by simp [hq]))
      rw [hf, Bool.true_and, wk]
      by_cases hw : whp T (p :: rp) = true
      · rw [hw]
        match rp, hok, hf, hw with
        | [], _, _, hw => simp [whp] at hw
        | q :: r0, hok, hf, hw =>
          have h3 : T 1 p = 3 := by simpa [whp] using hw
          rw [ta_gp_end hf h3]
          constructor
          · intro h; simp at h
          · intro h
            exfalso
            rw [List.mem_singleton, List.reverse_cons (a := p)] at h
            have := congrArg List.length h
            simp at this
      · simp only [Bool.not_eq_true] at hw
        have h3 : rp = [] ∨ T 1 p ≠ 3 := by
          match rp, hw with
          | [], _ => exact Or.inl rfl
          | q :: r0, hw => exact Or.inr (by simpa [whp] using hw)
        rw [hw, Bool.not_false, Bool.true_and, ih2, ta_gp_on w hp hok hf h3, List.mem_flatMap, List.reverse_cons, List.append_assoc, List.singleton_append]
        constructor
        · intro h
          exact ⟨p2, by rw [← List.range_eq_range']; exact List.mem_range.mpr hp2, h⟩
        · rintro ⟨i, -, h⟩
          obtain ⟨rest2, e⟩ := gp_pre h
          rw [List.reverse_cons, List.append_assoc, List.singleton_append] at e
          have e2 := List.append_cancel_left e
          simp at e2
          rw [← e2.1] at h
          exact h
    · simp only [Bool.not_eq_true] at hf
      rw [hf, ta_gp_no hf]
      simp
theorem wk_all {T : t_D} (w : Tw T) {S : Nat} {r : List Nat} (hr : ∀ p ∈ r, p < T 0 2) : wk T S [] r = true ↔ r ∈ ta_all T S := by
  cases r with
  | nil =>
    constructor
    · intro h; simp [wk, whp] at h
    · intro h
      have := (ta_all_row w h).1
      simp at this
  | cons p rest =>
    have hp := hr p (by simp)
    have := wk_mem w (S := S) rest [] p trivial hp (fun q hq => hr q (by simp [hq]))
    rw [wk]
    rw [show (!whp T []) = true from rfl, Bool.true_and, this, ← ta_rem_all, ta_rem, Nat.sub_zero, ← List.range_eq_range', List.mem_flatMap]
    constructor
    · intro h
      exact ⟨p, List.mem_range.mpr hp, h⟩
    · rintro ⟨i, -, h⟩
      obtain ⟨rest2, e⟩ := gp_pre h
      simp at e
      rw [← e.1] at h
      exact h
/-- digits, the highest first, less 1 each -/
def dg : Nat → Nat → List Nat
  | 0, _ => []
  | k + 1, x => if x = 0 then [] else dg k (x / 10) ++ [x % 10 - 1]
theorem dg_code : ∀ (k x : Nat), x < 10 ^ k → (∀ j, x / 10 ^ j ≠ 0 → x / 10 ^ j % 10 ≠ 0) → ta_code (dg k x) = x
  | 0, x, h, _ => by simp at h; rw [h]; rfl
  | k + 1, x, h, hd => by
    rw [dg]
    by_cases e : x = 0
    · rw [if_pos e, e]; rfl
    · have h0 := hd 0 (by simpa using e)
      rw [Nat.pow_zero, Nat.div_one] at h0
      rw [if_neg e, ta_code_app, dg_code k (x / 10) (by rw [Nat.pow_succ] at h; omega) (fun j hj => by
        have := hd (j + 1)
        rw [Nat.pow_succ', ← Nat.div_div_eq_div_mul] at this
        exact this hj)]
      omega
theorem ta_code_inj : ∀ (r s : List Nat), (∀ p ∈ r, p < 9) → (∀ p ∈ s, p < 9) → ta_code r = ta_code s → r = s := by
  have key : ∀ (n : Nat) (r s : List Nat), r.length ≤ n → (∀ p ∈ r, p < 9) → (∀ p ∈ s, p < 9) → ta_code r = ta_code s → r = s := by
    intro n
    induction n with
    | zero =>
      intro r s hl _ _ h
      have : r = [] := List.length_eq_zero_iff.mp (by omega)
      subst this
      rcases List.eq_nil_or_concat s with e | ⟨s', q, e⟩
      · exact e.symm
      · rw [e, List.concat_eq_append, ta_code_app] at h
        simp [ta_code] at h
    | succ n ih =>
      intro r s hl hr hs h
      rcases List.eq_nil_or_concat r with e | ⟨r', p, e⟩
      · subst e
        rcases List.eq_nil_or_concat s with e | ⟨s', q, e⟩
        · exact e.symm
        · rw [e, List.concat_eq_append, ta_code_app] at h
          simp [ta_code] at h
      · rw [List.concat_eq_append] at e
        subst e
        rcases List.eq_nil_or_concat s with e | ⟨s', q, e⟩
        · rw [e, ta_code_app] at h
          simp [ta_code] at h
        · rw [List.concat_eq_append] at e
          subst e
          rw [ta_code_app, ta_code_app] at h
          have hp := hr p (by simp)
          have hq := hs q (by simp)
          have e1 : p = q := by omega
          have e2 : ta_code r' = ta_code s' := by omega
          rw [e1, ih r' s' (by simp at hl; omega) (fun x hx => hr x (by simp [hx])) (fun x hx => hs x (by simp [hx])) e2]
  intro r s
  exact key r.length r s (Nat.le_refl _)
/-! the reference's isRow -/
theorem Ps.any {T : t_D} {S : Nat} {t : k_St} {rp : List Nat} (h : MTT T t ∧ t.1 0 25 = nI S ∧ t.1 0 22 = nI rp.length ∧ t.1 0 23 = nI (us rp) ∧ t.1 0 24 = nI (kg T rp) ∧ (∀ i p, rp.reverse[i]? = some p → t.1 6 i = nI p) ∧ ok T rp) : ∃ c, Ps T S t rp c := by
  obtain ⟨c, -, hc⟩ := wb_of32 (t.1 6 rp.length)
  exact ⟨c, h.1, h.2.1, h.2.2.1, h.2.2.2.1, h.2.2.2.2.1, h.2.2.2.2.2.1, hc, h.2.2.2.2.2.2⟩
theorem fisRow62 {T : t_D} (w : Tw T) {S : Nat} (hS : S < 2 ^ 31) {n x k p : Nat} {rec47 : Int32 → Int32 → Int32 → k_St → Option (Bool × k_St)} {rp : List Nat} {c : Nat} {t : k_St} (h : Ps T S t rp c) (hp : p < T 0 2) (hk : k < 20) : ∀ (f y j : Nat), y < 2 ^ 31 → j ≤ k → k - j < f → y / 10 ^ (k - j) % 10 = p + 1 → ((!whp T rp && fitp T S rp p) = true → ∃ u, mw t u ∧ f_M_isRow_62 n rec47 f (nI x) (nI k) (nI y) (nI j) t = rec47 (nI x) 1 (nI k + (-1)) u ∧ ∃ c', Ps T S u (p :: rp) c') ∧ ((!whp T rp && fitp T S rp p) = false → f_M_isRow_62 n rec47 f (nI x) (nI k) (nI y) (nI j) t = rec47 (nI x) 0 (nI k + (-1)) t) := by
  have hP := w.1.2
  intro f
  induction f with
  | zero => intro y j _ _ h; omega
  | succ f ih =>
    intro y j hy hj hf hd
    have hdiv : nI y / (10 : Int32) = nI (y / 10) := pk_div hy (by decide) (by decide)
    have hrem : nI y - nI y / (10 : Int32) * (10 : Int32) = nI (y % 10) := pk_rem hy (by decide) (by decide)
    rw [f_M_isRow_62]
    rcases Nat.lt_or_ge j k with hl | hl
    · rw [if_neg (nI_ge hl (by omega)), klt, klt, hdiv, nI_1]
      exact ih (y / 10) (j + 1) (by omega) (by omega) (by omega) (by
        rw [show k - j = (k - (j + 1)) + 1 by omega, Nat.pow_succ', ← Nat.div_div_eq_div_mul] at hd
        exact hd)
    · rw [show k - j = 0 by omega, Nat.pow_zero, Nat.div_one] at hd
      rw [if_pos (nI_le hl (by omega)), klt, hrem, hd, nI_pred, fisWhole w h, kcp]
      have no : f_M_isRow_111 n rec47 (nI x) (nI k) (nI p) t = rec47 (nI x) 0 (nI k + (-1)) t := by
        unfold f_M_isRow_111 f_M_isRow_112
        rw [if_pos rfl, klt]
      by_cases hwh : whp T rp = true
      · rw [hwh, if_neg (show ¬ k_b true = 0 by decide), no]
        exact ⟨fun q => by simp at q, fun _ => rfl⟩
      · simp only [Bool.not_eq_true] at hwh
        rw [hwh, if_pos (show k_b false = 0 by decide), ffitsOn w hS h hp, kcp]
        by_cases hf2 : fitp T S rp p = true
        · refine ⟨fun _ => ?_, fun q => by rw [hf2] at q; simp at q⟩
          rw [if_neg (k_bne hf2)]
          unfold f_M_isRow_112
          have hus := fitp_us hf2
          have hok2 : ok T (p :: rp) := ⟨hp, hus, h.2.2.2.2.2.2.2⟩
          have hl2 := ok_len w hok2
          rw [List.length_cons] at hl2
          have hkd := (w.2.2.2.2.2.2.2.2.1 p hp).1
          rw [if_neg (show ¬ (1 : Int32) = 0 by decide), h.2.2.1, kgi (kin (by omega) (by decide)), klt, klt, nI_clamp (by omega), nI_shl p (by omega)]
          have e23 : (k_sI t 6 rp.length (nI p)).1 0 23 = nI (us rp) := by rw [sI1, if_neg (by omega)]; exact h.2.2.2.1
          rw [e23, nI_or, kgi (kin (by omega) (by decide)), nI_clamp (by omega)]
          generalize hv : k_sI (k_sI t 6 rp.length (nI p)) 0 23 (nI (us rp ||| 2 ^ p)) = v
          have mv : mw t v := by rw [← hv]; exact (mw.set6 _ _ _).tr (mw.set0 _ _ _ (by omega))
          have v19 : v.1 19 p = nI (T 1 p) := by rw [mv.2 19 p (by omega) (by omega)]; exact (h.1.2.1 p hp).1
          have v22 : v.1 0 22 = nI rp.length := by rw [← hv, sI1, if_neg (by omega), sI1, if_neg (by omega)]; exact h.2.2.1
          have v23 : v.1 0 23 = nI (us rp ||| 2 ^ p) := by rw [← hv, sI1, if_pos ⟨rfl, rfl⟩]
          have v24 : v.1 0 24 = nI (kg T rp) := by rw [← hv, sI1, if_neg (by omega), sI1, if_neg (by omega)]; exact h.2.2.2.2.1
          have v6 : ∀ i, v.1 6 i = if i = rp.length then nI p else t.1 6 i := fun i => by rw [← hv, sI1, if_neg (by omega), sI1]; simp
          have fin : ∀ u : k_St, mw v u → u.1 0 22 = nI (rp.length + 1) → u.1 0 23 = nI (us rp ||| 2 ^ p) → u.1 0 24 = nI (if T 1 p = 2 then kg T rp + 1 else kg T rp) → (∀ i, u.1 6 i = v.1 6 i) → mw t u ∧ ∃ c', Ps T S u (p :: rp) c' := by
            intro u mu a22 a23 a24 a6
            refine ⟨mv.tr mu, Ps.any ⟨h.1.mw (mv.tr mu), by rw [(mv.tr mu).2 0 25 (by omega) (by omega)]; exact h.2.1, a22, by rw [us_cons]; exact a23, by rw [kg_cons]; exact a24, fun i q hi => ?_, hok2⟩⟩
            rw [List.reverse_cons] at hi
            have hlt : i < (rp.reverse ++ [p]).length := (List.getElem?_eq_some_iff.mp hi).1
            simp only [List.length_append, List.length_reverse, List.length_cons, List.length_nil] at hlt
            rw [a6, v6]
            rcases Nat.lt_or_ge i rp.length with q1 | q1
            · rw [List.getElem?_append_left (by rw [List.length_reverse]; exact q1)] at hi
              rw [if_neg (by omega)]
              exact h.2.2.2.2.2.1 i q hi
            · have e : i = rp.length := by omega
              rw [List.getElem?_append_right (by rw [List.length_reverse]; omega), List.length_reverse, e, Nat.sub_self] at hi
              simp at hi
              rw [if_pos e, hi]
          rw [v19]
          by_cases h2 : T 1 p = 2
          · rw [if_pos (by rw [h2]; rfl), klt, klt, klt]
            have z22 : (k_sI v 0 24 (v.1 0 24 + 1)).1 0 22 = nI rp.length := by rw [sI1, if_neg (by omega), v22]
            obtain ⟨q1, q2⟩ := fin (k_sI (k_sI v 0 24 (v.1 0 24 + 1)) 0 22 ((k_sI v 0 24 (v.1 0 24 + 1)).1 0 22 + 1)) ((mw.set0 _ _ _ (by omega)).tr (mw.set0 _ _ _ (by omega))) (by rw [sI1, if_pos ⟨rfl, rfl⟩, z22, nI_1]) (by rw [sI1, if_neg (by omega), sI1, if_neg (by omega), v23]) (by rw [sI1, if_neg (by omega), sI1, if_pos ⟨rfl, rfl⟩, v24, nI_1, if_pos h2]) (fun i => by rw [sI1, if_neg (by omega), sI1, if_neg (by omega)])
            exact ⟨_, q1, rfl, q2⟩
          · rw [if_neg (neL 2 h2 rfl (by omega) (by decide)), klt, klt, klt]
            have z22 : (k_sI v 0 24 (v.1 0 24 + 0)).1 0 22 = nI rp.length := by rw [sI1, if_neg (by omega), v22]
            obtain ⟨q1, q2⟩ := fin (k_sI (k_sI v 0 24 (v.1 0 24 + 0)) 0 22 ((k_sI v 0 24 (v.1 0 24 + 0)).1 0 22 + 1)) ((mw.set0 _ _ _ (by omega)).tr (mw.set0 _ _ _ (by omega))) (by rw [sI1, if_pos ⟨rfl, rfl⟩, z22, nI_1]) (by rw [sI1, if_neg (by omega), sI1, if_neg (by omega), v23]) (by rw [sI1, if_neg (by omega), sI1, if_pos ⟨rfl, rfl⟩, v24, Int32.add_zero, if_neg h2]) (fun i => by rw [sI1, if_neg (by omega), sI1, if_neg (by omega)])
            exact ⟨_, q1, rfl, q2⟩
        · simp only [Bool.not_eq_true] at hf2
          rw [if_pos (k_beq hf2), no]
          exact ⟨fun q => by rw [hf2] at q; simp at q, fun _ => rfl⟩
theorem fisRow47 {T : t_D} (w : Tw T) {S : Nat} (hS : S < 2 ^ 31) {n : Nat} (hn : 200 ≤ n) {r : List Nat} (hr : ∀ p ∈ r, p < T 0 2) (hr8 : r.length ≤ 8) (hx : ta_code r < 2 ^ 31) : ∀ (rest : List Nat) (f : Nat) (rp : List Nat) (c : Nat) (t : k_St), rp.reverse ++ rest = r → rest.length + 1 < f → Ps T S t rp c → ∃ u, f_M_isRow_47 n f (nI (ta_code r)) 1 (nI rest.length + (-1)) t = some (wk T S rp rest, u) ∧ mw t u := by
  have hP := w.1.2
  intro rest
  induction rest with
  | nil =>
    intro f rp c t he hf h
    obtain ⟨f, rfl⟩ : ∃ f', f = f' + 1 := ⟨f - 1, by omega⟩
    rw [f_M_isRow_47, if_pos (by decide)]
    unfold f_M_isRow_188
    rw [if_neg (show ¬ (1 : Int32) = 0 by decide), fisWhole w h, kcp, wk]
    cases whp T rp
    · exact ⟨t, rfl, mw.rf t⟩
    · exact ⟨t, rfl, mw.rf t⟩
  | cons p rest ih =>
    intro f rp c t he hf h
    obtain ⟨f, rfl⟩ : ∃ f', f = f' + 1 := ⟨f - 1, by omega⟩
    rw [List.length_cons] at hf
    have hp : p < T 0 2 := hr p (by rw [← he]; simp)
    have hlen : rp.length + (rest.length + 1) = r.length := by rw [← he]; simp
    have hidx : r[rp.length]? = some p := by rw [← he, List.getElem?_append_right (by simp), List.length_reverse, Nat.sub_self]; rfl
    have hd := ta_code_at r (fun q hq => by have := hr q hq; omega) hidx
    rw [show r.length - 1 - rp.length = rest.length - 0 by omega] at hd
    rw [f_M_isRow_47, List.length_cons, pk_m1, if_neg (nI_pos (by omega)), if_neg (show ¬ (1 : Int32) = 0 by decide), wk]
    obtain ⟨hu1, hu2⟩ := fisRow62 (n := n) (x := ta_code r) (k := rest.length) (rec47 := f_M_isRow_47 n f) w hS h hp (by omega) n (ta_code r) 0 hx (by omega) (by omega) hd
    have z0 : (0 : Int32) = nI 0 := rfl
    by_cases hc : (!whp T rp && fitp T S rp p) = true
    · obtain ⟨u, mu, e1, c', hc'⟩ := hu1 hc
      have e1' : f_M_isRow_62 n (f_M_isRow_47 n f) n (nI (ta_code r)) (nI rest.length) (nI (ta_code r)) 0 t = _ := e1
      obtain ⟨u2, e2, m2⟩ := ih f (p :: rp) c' u (by rw [List.reverse_cons, List.append_assoc]; exact he) (by omega) hc'
      refine ⟨u2, ?_, mu.tr m2⟩
      rw [e1', e2]
      rw [Bool.and_eq_true] at hc
      rw [hc.1, hc.2]
      rfl
    · simp only [Bool.not_eq_true] at hc
      have e1' : f_M_isRow_62 n (f_M_isRow_47 n f) n (nI (ta_code r)) (nI rest.length) (nI (ta_code r)) 0 t = _ := hu2 hc
      rw [e1']
      obtain ⟨f, rfl⟩ : ∃ f', f = f' + 1 := ⟨f - 1, by omega⟩
      have e188 : f_M_isRow_188 n 0 t = some (false, t) := by unfold f_M_isRow_188; rw [if_pos rfl]
      have hfin : f_M_isRow_47 n (f + 1) (nI (ta_code r)) 0 (nI rest.length + -1) t = some (false, t) := by
        rw [f_M_isRow_47, e188]
        split
        · rfl
        · rw [if_pos rfl]
      refine ⟨t, ?_, mw.rf t⟩
      rw [hfin]
      rw [← Bool.and_assoc, hc]
      rfl
theorem fisRow4 {n : Nat} (hn : 200 ≤ n) (x : Int32) (t : k_St) : ∀ (k c y : Nat), y < 10 ^ k → y < 2 ^ 31 → ∀ f, k < f → (∀ j, y / 10 ^ j ≠ 0 → y / 10 ^ j % 10 ≠ 0) → f_M_isRow_4 n f x (nI c) (nI y) t = k_cv (f_M_startsTales (f_Mt_all t) t) (fun t_1 => (if (8 : Int32) < nI (c + (dg k y).length) then f_M_isRow_47 n n x 0 (nI (c + (dg k y).length) - 1) t_1 else f_M_isRow_47 n n x 1 (nI (c + (dg k y).length) - 1) t_1)) := by
  intro k
  induction k with
  | zero =>
    intro c y hy _ f hf _
    obtain ⟨f, rfl⟩ : ∃ f', f = f' + 1 := ⟨f - 1, by omega⟩
    simp at hy
    subst hy
    rw [f_M_isRow_4, if_pos (by decide)]
    simp only [klt]
    rfl
  | succ k ih =>
    intro c y hy hy31 f hf hd
    obtain ⟨f, rfl⟩ : ∃ f', f = f' + 1 := ⟨f - 1, by omega⟩
    rw [f_M_isRow_4, dg]
    by_cases e : y = 0
    · subst e
      rw [if_pos (by decide), if_pos rfl]
      simp only [klt]
      rfl
    · rw [if_neg (nI_nle (by omega) hy31), if_neg e, klt, klt, nI_1, show nI y / (10 : Int32) = nI (y / 10) from pk_div hy31 (by decide) (by decide), ih (c + 1) (y / 10) (by rw [Nat.pow_succ] at hy; omega) (by omega) f (by omega) (fun j hj => by
        have := hd (j + 1)
        rw [Nat.pow_succ', ← Nat.div_div_eq_div_mul] at this
        exact this hj)]
      rw [List.length_append, List.length_singleton, show c + 1 + (dg k (y / 10)).length = c + ((dg k (y / 10)).length + 1) by omega]
theorem fisRow {T : t_D} (w : Tw T) {n x : Nat} (hn : 200 ≤ n) {t : k_St} (g : MTT T t) (hx : x < 2 ^ 31) (hd : ∀ j, x / 10 ^ j ≠ 0 → x / 10 ^ j % 10 ≠ 0) (hr : ∀ p ∈ dg 10 x, p < T 0 2) : ∃ u, f_M_isRow n (nI x) t = some (wk T (allp T) [] (dg 10 x), u) ∧ mz t u := by
  have hP := w.1.2
  have h256 := w.pow
  have hcode := dg_code 10 x (by omega) hd
  obtain ⟨u, e, hm, hA⟩ := fstartsTales g (allp T)
  unfold f_M_isRow
  have e4 := fisRow4 (n := n) hn (nI x) t 10 0 x (by omega) hx n (by omega) hd
  rw [nI_0, Nat.zero_add] at e4
  rw [e4, fMall w g, e, kcv]
  rcases Nat.lt_or_ge 8 (dg 10 x).length with hl | hl
  · have hlt : (dg 10 x).length ≤ 10 := by
      have key : ∀ k y, (dg k y).length ≤ k := by
        intro k
        induction k with
        | zero => intro y; exact Nat.le_refl 0
        | succ k ih =>
          intro y
          rw [dg]
          split
          · simp
          · have := ih (y / 10); simp; omega
      exact key 10 x
    rw [if_pos (by rw [l8]; exact nI_lt hl (by omega))]
    obtain ⟨n, rfl⟩ : ∃ n', n = n' + 1 := ⟨n - 1, by omega⟩
    have hno : wk T (allp T) [] (dg 10 x) = false := by
      cases hw : wk T (allp T) [] (dg 10 x) with
      | false => rfl
      | true =>
        have := (ta_all_row w ((wk_all w hr).mp hw)).2.1
        omega
    have e188 : f_M_isRow_188 (n + 1) 0 u = some (false, u) := by unfold f_M_isRow_188; rw [if_pos rfl]
    have hfin : f_M_isRow_47 (n + 1) (n + 1) (nI x) 0 (nI (dg 10 x).length - 1) u = some (false, u) := by
      rw [f_M_isRow_47, e188]
      split
      · rfl
      · rw [if_pos rfl]
    rw [hfin, hno]
    exact ⟨u, rfl, hm⟩
  · rw [if_neg (by rw [l8]; exact nI_nlt hl (by omega))]
    have hP0 : ∃ c, Ps T (allp T) u [] c := by
      rcases hA with ⟨rp, c, h1, h2, h3, h4⟩ | ⟨q, rp, h1, h3, h4⟩
      · have : rp = [] := by
          unfold f_M_startsTales at e
          rw [klt, klt, klt, klt, kgi (by decide), klt] at e
          cases e
          have h22 := h1.2.2.1
          rw [sI1, if_neg (by simp), sI1, if_neg (by simp), sI1, if_neg (by simp), sI1, if_pos ⟨rfl, rfl⟩] at h22
          have hl8 := ok_len w h1.2.2.2.2.2.2.2
          have : 0 = rp.length := nI_inj (by decide) (by omega) h22
          exact List.length_eq_zero_iff.mp this.symm
        subst this
        exact ⟨c, h1⟩
      · exfalso
        unfold f_M_startsTales at e
        rw [klt, klt, klt, klt, kgi (by decide), klt] at e
        cases e
        have h22 := h1.2.2.1
        rw [sI1, if_neg (by simp), sI1, if_neg (by simp), sI1, if_neg (by simp), sI1, if_pos ⟨rfl, rfl⟩] at h22
        have hl8 := ok_len w h1.2.2.2.2.2.2.2
        have : 0 = (q :: rp).length := nI_inj (by decide) (by omega) h22
        simp at this
    obtain ⟨c, hc⟩ := hP0
    obtain ⟨u2, e2, m2⟩ := fisRow47 (n := n) w (show allp T < 2 ^ 31 by unfold allp; omega) hn hr hl (by rw [hcode]; exact hx) (dg 10 x) n [] c u rfl (by omega) hc
    rw [hcode] at e2
    have e3 : nI (dg 10 x).length - (1 : Int32) = nI (dg 10 x).length + (-1) := by rw [Int32.sub_eq_add_neg]
    rw [e3, e2]
    exact ⟨u2, rfl, hm.tr m2.mz⟩
theorem digit_or {T : t_D} {x m : k_St} (w : Tw T) (h : XT T x) (g : MTT T m) {c : Nat} (hc : c < 2 ^ 31) : (f_X_noPiece x ((nI c - nI c / (10 : Int32) * (10 : Int32)) - (1 : Int32)) = true ∧ f_M_in (nI c - nI c / (10 : Int32) * (10 : Int32)) 1 (m.1 18 2) = false) ∨ (c % 10 ≠ 0 ∧ c % 10 - 1 < T 0 2 ∧ f_X_noPiece x ((nI c - nI c / (10 : Int32) * (10 : Int32)) - (1 : Int32)) = false ∧ f_M_in (nI c - nI c / (10 : Int32) * (10 : Int32)) 1 (m.1 18 2) = true) := by
  have hP := w.1.2
  have hrem : nI c - nI c / (10 : Int32) * (10 : Int32) = nI (c % 10) := pk_rem hc (by decide) (by decide)
  rw [hrem, g.1 2 (by omega)]
  unfold f_X_noPiece f_M_in
  rw [h.1 2 (by omega)]
  by_cases h0 : c % 10 = 0
  · left
    rw [h0]
    rw [if_pos (by decide), if_pos (show nI 0 < 1 by decide)]
    exact ⟨rfl, rfl⟩
  · obtain ⟨z, hz⟩ : ∃ z, c % 10 = z + 1 := ⟨c % 10 - 1, by omega⟩
    rw [hz, nI_pred, if_neg (nI_pos (by omega)), if_neg (show ¬ nI (z + 1) < 1 from by rw [l1]; exact nI_nlt (by omega) (by omega))]
    rcases Nat.lt_or_ge z (T 0 2) with hl | hl
    · right
      rw [if_pos (nI_lt hl (by omega)), if_neg (nI_nlt (by omega) (by omega))]
      exact ⟨by omega, by omega, rfl, rfl⟩
    · left
      rw [if_neg (nI_nlt hl (by omega)), if_pos (nI_lt (by omega) (by omega))]
      exact ⟨rfl, rfl⟩
theorem e_isTale {T : t_D} {v : Nat → Nat} {x m : k_St} (h : XB T v x) (g : MB T v m) {n : Nat} (hn : big n) (x1 : Int32) : Q2 (f_X_isTale n x1 x) x (f_M_isTale n x1 m) m := by
  have w := h.1
  have g0 := g.mk (th0 m)
  have h256 := w.pow
  have hP := w.1.2
  unfold f_X_isTale f_M_isTale
  rw [klt (k_sI m 0 0 0), h.2.2.2.1, if_neg (show ¬ (1 : Int32) = 0 by decide)]
  by_cases hx : (1 : Int32) ≤ x1
  · rw [if_pos hx, if_pos hx]
    obtain ⟨X, hX, rfl⟩ := nI_of (show ¬ x1 < 0 from fun q => absurd (Int32.lt_of_le_of_lt hx q) (by decide))
    have key : ∀ (k c f f2 : Nat), c < 10 ^ k → c < 2 ^ 31 → k < f → k < f2 → (∃ j, c = X / 10 ^ j ∧ ∀ i, i < j → X / 10 ^ i % 10 ≠ 0 ∧ X / 10 ^ i % 10 - 1 < T 0 2) → Q2 (f_X_isTale_26 n f (nI X) (nI c) x) x (f_M_isTale_31 n f2 (nI X) (nI c) (k_sI m 0 0 0)) m := by
      intro k
      induction k with
      | zero =>
        intro c f f2 hc hc31 hf hf2 hj
        simp at hc
        subst hc
        obtain ⟨f, rfl⟩ : ∃ f', f = f' + 1 := ⟨f - 1, by omega⟩
        obtain ⟨f2, rfl⟩ : ∃ f', f2 = f' + 1 := ⟨f2 - 1, by omega⟩
        obtain ⟨j, hj0, hj⟩ := hj
        have hall : ∀ i, X / 10 ^ i ≠ 0 → i < j := by
          intro i hi
          rcases Nat.lt_or_ge i j with q | q
          · exact q
          · exfalso
            apply hi
            have hle : X / 10 ^ i ≤ X / 10 ^ j := Nat.div_le_div_left (Nat.pow_le_pow_right (by omega) q) (Nat.pow_pos (by omega))
            rw [← hj0] at hle
            exact Nat.le_zero.mp hle
        have hd : ∀ i, X / 10 ^ i ≠ 0 → X / 10 ^ i % 10 ≠ 0 := fun i hi => (hj i (hall i hi)).1
        have hr : ∀ p ∈ dg 10 X, p < T 0 2 := by
          have kk : ∀ (k y i : Nat), y = X / 10 ^ i → ∀ p ∈ dg k y, p < T 0 2 := by
            intro k
            induction k with
            | zero => intro y i _ p hp; cases hp
            | succ k ihk =>
              intro y i hy p hp
              rw [dg] at hp
              by_cases e : y = 0
              · rw [if_pos e] at hp; cases hp
              · rw [if_neg e] at hp
                rcases List.mem_append.mp hp with q | q
                · exact ihk (y / 10) (i + 1) (by rw [hy, Nat.div_div_eq_div_mul, ← Nat.pow_succ]) p q
                · rw [List.mem_singleton.mp q, hy]
                  exact (hj i (hall i (by rw [← hy]; exact e))).2
          exact kk 10 X 0 (by simp)
        obtain ⟨u, eu, hu⟩ := fisRow w (show 200 ≤ n by omega) g0.1 hX hd hr
        have hcode := dg_code 10 X (by omega) hd
        rw [f_X_isTale_26, f_M_isTale_31, if_pos (by decide), if_pos (by decide), fhaveRow h.2.2.1 (by omega), kcp, eu, kcl]
        have heq : (ta_all T (allp T)).any (fun r => nI (ta_code r) = nI X) = wk T (allp T) [] (dg 10 X) := by
          have hw := wk_all w (S := allp T) hr
          cases hb : wk T (allp T) [] (dg 10 X) with
          | true =>
            have hm := hw.mp hb
            rw [List.any_eq_true]
            exact ⟨dg 10 X, hm, by simp [hcode]⟩
          | false =>
            rw [List.any_eq_false]
            intro r hr2 hc2
            simp at hc2
            have hrow := ta_all_row w hr2
            have h9 : ∀ p ∈ r, p < 9 := fun p hp => by have := hrow.2.2.1 p hp; omega
            have hlt : ta_code r < 2 ^ 31 := by
              have h1 := ta_code_lt r h9
              have : 10 ^ r.length ≤ 10 ^ 8 := Nat.pow_le_pow_right (by omega) hrow.2.1
              omega
            have e1 := nI_inj hlt hX hc2
            rw [← hcode] at e1
            have e2 := ta_code_inj r (dg 10 X) h9 (fun p hp => by have := hr p hp; omega) e1
            rw [e2] at hr2
            rw [hw.mpr hr2] at hb
            cases hb
        rw [heq]
        cases wk T (allp T) [] (dg 10 X)
        · rw [if_pos (show k_b false = 0 by decide), if_pos (show k_b false = 0 by decide)]
          exact Q2.ans (xk.rf x) ((th0 m).tr hu.mk) _
        · rw [if_neg (show ¬ k_b true = 0 by decide), if_neg (show ¬ k_b true = 0 by decide)]
          exact Q2.ans (xk.rf x) ((th0 m).tr hu.mk) _
      | succ k ih =>
        intro c f f2 hc hc31 hf hf2 hj
        by_cases hc0 : c = 0
        · exact ih c f f2 (by rw [hc0]; exact Nat.pow_pos (by omega)) hc31 (by omega) (by omega) hj
        · obtain ⟨f, rfl⟩ : ∃ f', f = f' + 1 := ⟨f - 1, by omega⟩
          obtain ⟨f2, rfl⟩ : ∃ f', f2 = f' + 1 := ⟨f2 - 1, by omega⟩
          rw [f_X_isTale_26, f_M_isTale_31, if_neg (nI_nle (by omega) hc31), if_neg (nI_nle (by omega) hc31)]
          rcases digit_or w h.2.1 g0.1 hc31 with ⟨a, b⟩ | ⟨d1, d2, a, b⟩
          · rw [if_neg (k_bne a), if_pos (k_beq b)]
            exact Q2.ref (xk.rf x) (th0 m) 2 (by decide)
          · rw [if_pos (k_beq a), if_neg (k_bne b), klt, klt, show nI c / (10 : Int32) = nI (c / 10) from pk_div hc31 (by decide) (by decide)]
            obtain ⟨j, hj0, hj⟩ := hj
            refine ih (c / 10) f f2 (by rw [Nat.pow_succ] at hc; omega) (by omega) (by omega) (by omega) ⟨j + 1, by rw [hj0, Nat.div_div_eq_div_mul, ← Nat.pow_succ], fun i hi => ?_⟩
            by_cases e : i = j
            · rw [e, ← hj0]; exact ⟨d1, d2⟩
            · exact hj i (by omega)
    exact key 10 X n n (by omega) hX (by omega) (by omega) ⟨0, by simp, fun i hi => by omega⟩
  · rw [if_neg hx, if_neg hx]
    exact Q2.ref (xk.rf x) (th0 m) 2 (by decide)
