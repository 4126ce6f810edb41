/-! ===== the reference's timetable ===== -/
theorem fe_suf (T : t_D) : ∀ (a rp : List Nat), fe T (a ++ rp) = true → fe T rp = true
  | [], _, h => h
  | g :: a, rp, h => by
    rw [List.cons_append, fe, Bool.and_eq_true] at h
    exact fe_suf T a rp h.1
def m13 (t u : k_St) : Prop := (∀ o k, o ≠ 13 → u.1 o k = t.1 o k) ∧ u.2 = t.2
theorem m13.rf (t : k_St) : m13 t t := ⟨fun _ _ _ => rfl, rfl⟩
theorem m13.tr {t u v : k_St} (h : m13 t u) (g : m13 u v) : m13 t v := ⟨fun o k a => (g.1 o k a).trans (h.1 o k a), g.2.trans h.2⟩
def wv (T : t_D) (r : List Nat) : Int32 := if fe T r.reverse then nI (wl T r.reverse) else 9999
theorem fwalks6 {T : t_D} (w : Tw T) {n : Nat} {r : List Nat} (hr : r.length = T 0 4) (hm : ∀ h ∈ r, h < T 0 4) : ∀ (rest : List Nat) (f : Nat) (rp : List Nat) (x1 : Int32) (t : k_St), rp.reverse ++ rest = r → rest.length < f → x1 + 1 = nI (ck T rp) → fe T rp = true → MTT T t → (∀ i h, r[i]? = some h → t.1 12 i = nI h) → (∀ h ∈ rp, t.1 13 h = nI (hq T rp h)) → ∃ u, f_M_walksBy_6 n f x1 (nI (wl T rp)) (nI rp.length) t = some (wv T r, u) ∧ m13 t u ∧ (fe T r.reverse = true → ∀ h ∈ r, u.1 13 h = nI (hq T r.reverse h)) := by
  have h5 := w.2.2.2.2.1
  intro rest
  induction rest with
  | nil =>
    intro f rp x1 t e hf hx1 hfe hM h12 h13
    obtain ⟨f, rfl⟩ : ∃ f', f = f' + 1 := ⟨f - 1, by simp at hf; omega⟩
    have hl : rp.length = T 0 4 := by rw [← hr, ← e]; simp
    have e2 : r.reverse = rp := by rw [← e, List.append_nil, List.reverse_reverse]
    rw [f_M_walksBy_6, hM.1 4 (by omega), if_pos (nI_le (by omega) (by omega))]
    unfold wv
    rw [e2, if_pos hfe]
    refine ⟨t, rfl, m13.rf t, fun _ h hh => ?_⟩
    rw [← e, List.append_nil] at hh
    exact h13 h (List.mem_reverse.mp hh)
  | cons g rest ih =>
    intro f rp x1 t e hf hx1 hfe hM h12 h13
    rw [List.length_cons] at hf
    obtain ⟨f, rfl⟩ : ∃ f', f = f' + 1 := ⟨f - 1, by omega⟩
    have hl : rp.length + (rest.length + 1) = T 0 4 := by rw [← hr, ← e]; simp
    have hg : g < T 0 4 := hm g (by rw [← e]; simp)
    have hrp : ∀ h ∈ rp, h < T 0 4 := fun h hh => hm h (by rw [← e]; simp [hh])
    have hck := ck_le2 w rp hrp
    have hgg := w.2.2.2.2.2.2.2.2.2.1 g hg
    have hMg := hM.2.2.1 g hg
    have hg12 : t.1 12 rp.length = nI g := h12 rp.length g (by rw [← e, List.getElem?_append_right (by simp)]; simp)
    have er : r.reverse = rest.reverse ++ (g :: rp) := by rw [← e]; simp
    have main : ∃ u, f_M_walksBy_57 n (f_M_walksBy_6 n f) (nI (wl T rp)) (nI rp.length) (nI g) (nI (max (ck T rp) (T 4 g))) t = some (wv T r, u) ∧ m13 t u ∧ (fe T r.reverse = true → ∀ h ∈ r, u.1 13 h = nI (hq T r.reverse h)) := by
      unfold f_M_walksBy_57
      rw [kgi (kin (by omega) (by decide)), nI_clamp (n := g) (by omega), hMg.2.2.1]
      by_cases hfc : max (ck T rp) (T 4 g) ≤ T 5 g
      · have hfe2 : fe T (g :: rp) = true := by rw [fe, hfe, Bool.true_and, decide_eq_true_eq]; exact hfc
        rw [if_pos (nI_le hfc (by omega)), kgi (kin (by omega) (by decide)), klt (k_sI t 13 g _)]
        have tz : m13 t (k_sI t 13 g (nI (max (ck T rp) (T 4 g)))) := ⟨fun o k ho => by rw [sI1, if_neg (by omega)], rfl⟩
        have go : ∃ u, f_M_walksBy_6 n f (nI (max (ck T rp) (T 4 g))) (nI (wl T (g :: rp))) (nI (rp.length + 1)) (k_sI t 13 g (nI (max (ck T rp) (T 4 g)))) = some (wv T r, u) ∧ m13 t u ∧ (fe T r.reverse = true → ∀ h ∈ r, u.1 13 h = nI (hq T r.reverse h)) := by
          obtain ⟨u, a, b, c⟩ := ih f (g :: rp) (nI (max (ck T rp) (T 4 g))) (k_sI t 13 g (nI (max (ck T rp) (T 4 g)))) (by rw [List.reverse_cons, List.append_assoc]; exact e) (by omega) (by rw [nI_1, ck]) hfe2 (hM.same (fun o k _ _ => by rw [sI1, if_neg (by omega)])) (fun i h hi => by rw [sI1, if_neg (by omega)]; exact h12 i h hi) (fun h hh => by
            rw [sI1, hq]
            by_cases q : h = g
            · rw [if_pos ⟨rfl, q⟩, if_pos q]
            · rw [if_neg (fun z => q z.2), if_neg q]
              exact h13 h ((List.mem_cons.mp hh).resolve_left q))
          exact ⟨u, a, tz.tr b, c⟩
        match rp, go, hg12, hl, hrp, e with
        | [], go, hg12, hl, hrp, e =>
          rw [if_pos (show nI ([] : List Nat).length = 0 from rfl), if_pos (show (0 : Int32) ≤ 0 by decide), klt (nI (wl T []) + 0), klt, nI_1]
          exact go
        | p :: rp, go, hg12, hl, hrp, e =>
          rw [List.length_cons] at hl
          have hp := hrp p (by simp)
          have hhp := (w.2.2.2.2.2.2.2.2.2.1 p hp).1
          have hp12 : (k_sI t 13 g (nI (max (ck T (p :: rp)) (T 4 g)))).1 12 rp.length = nI p := by
            rw [sI1, if_neg (by omega)]
            refine h12 rp.length p ?_
            rw [← e, List.reverse_cons, List.append_assoc, List.getElem?_append_right (by simp)]
            simp
          have z21 : ∀ k, (k_sI t 13 g (nI (max (ck T (p :: rp)) (T 4 g)))).1 21 k = t.1 21 k := fun k => by rw [sI1, if_neg (by omega)]
          have hd := nI_dst (T 3 g) (by omega) (T 3 p) (by omega)
          rw [if_neg (neL (b := 0) 0 (by simp) rfl (by simp; omega) (by omega)), kgi (kin (by omega) (by decide)), List.length_cons, nI_pred, kgi (kin (by omega) (by decide)), nI_clamp (n := rp.length) (by omega), hp12, kgi (kin (by omega) (by decide)), nI_clamp (n := p) (by omega), z21, z21, hMg.1, (hM.2.2.1 p hp).1, klt (nI (T 3 g) - nI (T 3 p))]
          by_cases q : (0 : Int32) ≤ nI (T 3 g) - nI (T 3 p)
          · rw [if_pos q] at hd ⊢
            rw [hd, klt, klt, nI_add, nI_1]
            exact go
          · rw [if_neg q] at hd ⊢
            rw [hd, klt, klt, nI_add, nI_1]
            exact go
      · have hfe2 : fe T r.reverse = false := by
          rw [Bool.eq_false_iff, er]
          intro q
          have q2 := fe_suf T _ _ q
          rw [fe, Bool.and_eq_true, decide_eq_true_eq] at q2
          exact hfc q2.2
        rw [if_neg (nI_ge (by omega) (by omega))]
        unfold wv
        rw [hfe2]
        exact ⟨t, rfl, m13.rf t, fun q => by simp at q⟩
    rw [f_M_walksBy_6, hM.1 4 (by omega), if_neg (nI_ge (by omega) (by omega)), kgi (kin (by omega) (by decide)), nI_clamp (n := rp.length) (by omega), hg12, klt (nI g), kgi (kin (by omega) (by decide)), nI_clamp (n := g) (by omega), hx1, hMg.2.1]
    by_cases q : ck T rp ≤ T 4 g
    · rw [if_pos (nI_le q (by omega)), kgi (kin (by omega) (by decide))]
      rw [show max (ck T rp) (T 4 g) = T 4 g by omega] at main
      exact main
    · rw [if_neg (nI_ge (by omega) (by omega))]
      rw [show max (ck T rp) (T 4 g) = ck T rp by omega] at main
      exact main
theorem fwalksBy {T : t_D} (w : Tw T) {n : Nat} (hn : 200 ≤ n) {r : List Nat} (hr : r.length = T 0 4) (hm : ∀ h ∈ r, h < T 0 4) {t : k_St} (hM : MTT T t) (h12 : ∀ i h, r[i]? = some h → t.1 12 i = nI h) : ∃ u, f_M_walksBy n t = some (wv T r, u) ∧ m13 t u ∧ (fe T r.reverse = true → ∀ h ∈ r, u.1 13 h = nI (hq T r.reverse h)) := by
  have h5 := w.2.2.2.2.1
  exact fwalks6 w hr hm r n [] (-1) t (by simp) (by omega) (show (-1 : Int32) + 1 = nI 0 by decide) rfl hM h12 (fun h hh => by simp at hh)
/-- what the reference's timetable leaves alone -/
def mt (t u : k_St) : Prop := (∀ o k, ¬ (o = 0 ∧ k = 37) → ¬ (12 ≤ o ∧ o ≤ 15) → u.1 o k = t.1 o k) ∧ u.2 = t.2
theorem mt.rf (t : k_St) : mt t t := ⟨fun _ _ _ _ => rfl, rfl⟩
theorem mt.tr {t u v : k_St} (h : mt t u) (g : mt u v) : mt t v := ⟨fun o k a b => (g.1 o k a b).trans (h.1 o k a b), g.2.trans h.2⟩
theorem m12.mt {t u : k_St} (h : m12 t u) : mt t u := ⟨fun o k _ b => h.1 o k (by omega), h.2⟩
theorem m13.mt {t u : k_St} (h : m13 t u) : mt t u := ⟨fun o k _ b => h.1 o k (by omega), h.2⟩
theorem mt.mk {t u : k_St} (h : mt t u) : mk t u := fun o k a => h.1 o k (by omega) (by omega)
theorem mt.mtt {T : t_D} {t u : k_St} (h : mt t u) (g : MTT T t) : MTT T u := g.same (fun o k _ _ => h.1 o k (by omega) (by omega))
theorem f67 {n : Nat} {rec31 : Int32 → Int32 → k_St → Option (Int32 × k_St)} (x1 : Int32) : ∀ (f i : Nat) (t : k_St), i ≤ 5 → 5 - i < f → (∀ k, k < i → t.1 14 k = t.1 12 k ∧ t.1 15 k = t.1 13 k) → ∃ u, f_M_timetable_67 n rec31 f x1 (nI i) t = k_cl (f_M_nextOrder n u) (fun r_2 t_1 => k_lt (k_b r_2) (fun x2_3 => rec31 x1 x2_3 t_1)) ∧ (∀ o k, o ≠ 14 → o ≠ 15 → u.1 o k = t.1 o k) ∧ u.2 = t.2 ∧ ∀ k, k < 5 → u.1 14 k = t.1 12 k ∧ u.1 15 k = t.1 13 k := by
  intro f
  induction f with
  | zero => intro i t _ h; omega
  | succ f ih =>
    intro i t hi hf h
    rw [f_M_timetable_67]
    rcases Nat.lt_or_ge i 5 with hl | hl
    · rw [if_neg (by rw [l5]; exact nI_ge hl (by omega)), kgi (kin (by omega) (by decide)), kgi (kin (by omega) (by decide)), klt, kgi (kin (by omega) (by decide)), kgi (kin (by omega) (by decide)), klt, klt, nI_1, nI_clamp (n := i) (by omega)]
      generalize hz : k_sI (k_sI t 14 i (t.1 12 i)) 15 i ((k_sI t 14 i (t.1 12 i)).1 13 i) = z
      have zk : ∀ o k, o ≠ 14 → o ≠ 15 → z.1 o k = t.1 o k := fun o k a b => by rw [← hz, sI1, if_neg (by omega), sI1, if_neg (by omega)]
      have z14 : ∀ k, z.1 14 k = if k = i then t.1 12 i else t.1 14 k := fun k => by
        rw [← hz, sI1, if_neg (by omega), sI1]
        by_cases e : k = i
        · rw [if_pos ⟨rfl, e⟩, if_pos e]
        · rw [if_neg (by omega), if_neg e]
      have z15 : ∀ k, z.1 15 k = if k = i then t.1 13 i else t.1 15 k := fun k => by
        rw [← hz, sI1, sI1, if_neg (show ¬ (13 = 14 ∧ i = i) by omega)]
        by_cases e : k = i
        · rw [if_pos ⟨rfl, e⟩, if_pos e]
        · rw [if_neg (by omega), if_neg e, sI1, if_neg (by omega)]
      have z2 : z.2 = t.2 := by rw [← hz]; rfl
      obtain ⟨u, a, b, c, d⟩ := ih (i + 1) z (by omega) (by omega) (fun k hk => by
        rw [z14, z15, zk 12 k (by omega) (by omega), zk 13 k (by omega) (by omega)]
        by_cases e : k = i
        · rw [if_pos e, if_pos e, e]; exact ⟨rfl, rfl⟩
        · rw [if_neg e, if_neg e]; exact h k (by omega))
      exact ⟨u, a, fun o k p q => (b o k p q).trans (zk o k p q), c.trans z2, fun k hk => by rw [(d k hk).1, (d k hk).2, zk 12 k (by omega) (by omega), zk 13 k (by omega) (by omega)]; exact ⟨rfl, rfl⟩⟩
    · rw [if_pos (by rw [l5]; exact nI_le hl (by omega))]
      exact ⟨t, rfl, fun _ _ _ _ => rfl, rfl, fun k hk => h k (by omega)⟩
def tM (T : t_D) (s : tS) (x1 : Int32) (t : k_St) : Prop := match s with
  | none => x1 = 9999 ∧ t.1 0 37 = 0
  | some (k, v, r) => v ≤ 600 ∧ x1 = nI v ∧ t.1 0 37 = nI k ∧ (∀ i h, r[i]? = some h → t.1 14 i = nI h) ∧ ∀ h ∈ r, t.1 15 h = nI (hq T r.reverse h)
theorem tM.sm {T : t_D} {s : tS} {x1 : Int32} {t u : k_St} (h : tM T s x1 t) (e : ∀ o k, (o = 0 ∧ k = 37) ∨ o = 14 ∨ o = 15 → u.1 o k = t.1 o k) : tM T s x1 u := by
  match s, h with
  | none, h => exact ⟨h.1, by rw [e 0 37 (by omega)]; exact h.2⟩
  | some (k, v, r), h => exact ⟨h.1, h.2.1, by rw [e 0 37 (by omega)]; exact h.2.2.1, fun i q hi => by rw [e 14 i (by omega)]; exact h.2.2.2.1 i q hi, fun q hh => by rw [e 15 q (by omega)]; exact h.2.2.2.2 q hh⟩
