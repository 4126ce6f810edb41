/-! ===== the timetable: both ===== -/
theorem la_get {N : Nat} {r : List Nat} {i h : Nat} (e : r[i]? = some h) : la N r i = h := by
  unfold la
  rw [List.getD_eq_getElem?_getD, List.getElem?_append_left (List.getElem?_eq_some_iff.mp e).1, e]
  rfl
theorem A12.row {t : k_St} {N : Nat} {r : List Nat} (hr : r.length ≤ 5) (h : A12 t (la N r)) : ∀ i q, r[i]? = some q → t.1 12 i = nI q := fun i q e => by
  have := (List.getElem?_eq_some_iff.mp e).1
  rw [(h i (by omega)).1, la_get e]
theorem A12.sm {t u : k_St} {a : Nat → Nat} (h : A12 t a) (e : ∀ k, u.1 12 k = t.1 12 k) : A12 u a := fun k hk => by rw [e]; exact h k hk
theorem ft31 {T : t_D} (w : Tw T) {n : Nat} (hn : 200 ≤ n) (h1 : 1 ≤ T 0 4) : ∀ (f i : Nat) (s : tS) (x1 : Int32) (t : k_St), i < (pm (T 0 4) (T 0 4) []).length → (pm (T 0 4) (T 0 4) []).length - i < f → A12 t (la (T 0 4) ((pm (T 0 4) (T 0 4) []).getD i [])) → MTT T t → tM T s x1 t → ∃ x2 u, f_M_timetable_31 n f x1 1 t = some (x2, u) ∧ mt t u ∧ tM T (((pm (T 0 4) (T 0 4) []).drop i).foldl (tf T) s) x2 u := by
  have h5 := w.2.2.2.2.1
  have hp := pm_all (T 0 4) h5
  have hch := (pm_chain (T 0 4) h5).2.2
  intro f
  induction f with
  | zero => intro i s x1 t _ h; omega
  | succ f ih =>
    intro i s x1 t hi hf hA hM hs
    have eL : (pm (T 0 4) (T 0 4) [])[i]? = some ((pm (T 0 4) (T 0 4) []).getD i []) := by rw [List.getD_eq_getElem?_getD, List.getElem?_eq_getElem hi]; rfl
    generalize hr : (pm (T 0 4) (T 0 4) []).getD i [] = r at hA eL
    have hc := hch i hi
    rw [hr] at hc
    have hrr := hp.2 r (List.mem_of_getElem? eL)
    have hdrop : (pm (T 0 4) (T 0 4) []).drop i = r :: (pm (T 0 4) (T 0 4) []).drop (i + 1) := by
      rw [List.drop_eq_getElem_cons hi]
      rw [List.getElem?_eq_getElem hi] at eL
      rw [Option.some.inj eL]
    have go : ∀ (v : k_St) (s' : tS) (x1' : Int32), A12 v (la (T 0 4) r) → mt t v → tM T s' x1' v → ∃ x2 u, k_cl (f_M_nextOrder n v) (fun r_2 t_1 => k_lt (k_b r_2) (fun x2_3 => f_M_timetable_31 n f x1' x2_3 t_1)) = some (x2, u) ∧ mt t u ∧ tM T (((pm (T 0 4) (T 0 4) []).drop (i + 1)).foldl (tf T) s') x2 u := by
      intro v s' x1' hAv tv hsv
      have hMv := tv.mtt hM
      obtain ⟨o1, o2⟩ := fnextOrder hn hAv (hMv.1 4 (by omega)) h1 h5
      match hx : nxt (la (T 0 4) r) (T 0 4), hy : (pm (T 0 4) (T 0 4) [])[i + 1]? with
      | none, none =>
        obtain ⟨f, rfl⟩ : ∃ f', f = f' + 1 := ⟨f - 1, by omega⟩
        rw [o1 hx, kcl, klt, f_M_timetable_31, if_pos (show k_b false = 0 from rfl), List.drop_eq_nil_of_le (List.getElem?_eq_none_iff.mp hy)]
        exact ⟨x1', v, rfl, tv, hsv⟩
      | some b, some l =>
        rw [hx, hy] at hc
        have hc2 := List.map_inj_left.mp (Option.some.inj hc)
        obtain ⟨u, e, hAu, vu⟩ := o2 b hx
        have hi2 := (List.getElem?_eq_some_iff.mp hy).1
        have hAu2 : A12 u (la (T 0 4) ((pm (T 0 4) (T 0 4) []).getD (i + 1) [])) := by
          rw [List.getD_eq_getElem?_getD, hy]
          intro k hk
          have := hc2 k (List.mem_range.mpr hk)
          show u.1 12 k = nI (la (T 0 4) l k) ∧ la (T 0 4) l k < 5
          rw [← this]
          exact hAu k hk
        obtain ⟨x2, y, a, b2, c⟩ := ih (i + 1) s' x1' u hi2 (by omega) hAu2 (vu.mt.mtt hMv) (hsv.sm (fun o k _ => vu.1 o k (by omega)))
        rw [e, kcl, klt, show k_b true = 1 from rfl, a]
        exact ⟨x2, y, rfl, (tv.tr vu.mt).tr b2, c⟩
      | none, some l => rw [hx, hy] at hc; simp at hc
      | some b, none => rw [hx, hy] at hc; simp at hc
    obtain ⟨v, e, tv, h13⟩ := fwalksBy w hn hrr.1 hrr.2.2.1 hM (hA.row (by omega))
    have hAv : A12 v (la (T 0 4) r) := hA.sm (fun k => tv.1 12 k (by omega))
    have hsv : tM T s x1 v := hs.sm (fun o k _ => tv.1 o k (by omega))
    rw [f_M_timetable_31, if_neg (by decide), e, kcl, hdrop, List.foldl_cons]
    have hwl := wl_le w r.reverse (fun h hh => hrr.2.2.1 h (List.mem_reverse.mp hh))
    rw [List.length_reverse] at hwl
    by_cases hfe : fe T r.reverse = true
    · have ew : wv T r = nI (wl T r.reverse) := if_pos hfe
      rw [ew, if_neg (show ¬ (9999 : Int32) ≤ nI (wl T r.reverse) from nI_ge (b := 9999) (by omega) (by omega)), klt]
      generalize hz : k_sI v 0 37 (v.1 0 37 + 1) = z
      have vz : mt v z := by rw [← hz]; exact ⟨fun o k a b => by rw [sI1, if_neg (by omega)], rfl⟩
      have z12 : ∀ o k, ¬ (o = 0 ∧ k = 37) → z.1 o k = v.1 o k := fun o k a => by rw [← hz, sI1, if_neg (by omega)]
      have z37 : z.1 0 37 = v.1 0 37 + 1 := by rw [← hz, sI1, if_pos ⟨rfl, rfl⟩]
      have hAz : A12 z (la (T 0 4) r) := hAv.sm (fun k => z12 12 k (by omega))
      have tz := tv.mt.tr vz
      unfold f_M_timetable_57
      have new : ∀ k : Nat, v.1 0 37 = nI k → ∃ x2 u, f_M_timetable_67 n (f_M_timetable_31 n f) n (nI (wl T r.reverse)) 0 z = some (x2, u) ∧ mt t u ∧ tM T (((pm (T 0 4) (T 0 4) []).drop (i + 1)).foldl (tf T) (some (k + 1, wl T r.reverse, r))) x2 u := by
        intro k ek
        obtain ⟨y, a, b, c, d⟩ := f67 (n := n) (rec31 := f_M_timetable_31 n f) (nI (wl T r.reverse)) n 0 z (by omega) (by omega) (fun k hk => by omega)
        have a' : f_M_timetable_67 n (f_M_timetable_31 n f) n (nI (wl T r.reverse)) 0 z = k_cl (f_M_nextOrder n y) (fun r_2 t_1 => k_lt (k_b r_2) (fun x2_3 => f_M_timetable_31 n f (nI (wl T r.reverse)) x2_3 t_1)) := a
        rw [a']
        refine go y _ _ (hAz.sm (fun k => b 12 k (by omega) (by omega))) (tz.tr ⟨fun o k _ q => b o k (by omega) (by omega), c⟩) ⟨by omega, rfl, by rw [b 0 37 (by omega) (by omega), z37, ek, nI_1], fun j h hj => ?_, fun h hh => ?_⟩
        · rw [(d j (by have := (List.getElem?_eq_some_iff.mp hj).1; omega)).1]
          exact hAz.row (by omega) j h hj
        · have := hrr.2.2.1 h hh
          rw [(d h (by omega)).2, z12 13 h (by omega)]
          exact h13 hfe h hh
      match s, hsv with
      | none, hsv =>
        obtain ⟨rfl, h37⟩ := hsv
        rw [if_neg (show ¬ (9999 : Int32) ≤ nI (wl T r.reverse) from nI_ge (b := 9999) (by omega) (by omega)), show tf T none r = some (0 + 1, wl T r.reverse, r) by unfold tf; rw [if_pos hfe]]
        exact new 0 h37
      | some (k, v0, r0), hsv =>
        obtain ⟨hv0, rfl, h37, h14, h15⟩ := hsv
        have es : tf T (some (k, v0, r0)) r = if wl T r.reverse < v0 then some (k + 1, wl T r.reverse, r) else some (k + 1, v0, r0) := by unfold tf; rw [if_pos hfe]
        rw [es]
        by_cases hlt : wl T r.reverse < v0
        · rw [if_neg (nI_ge hlt (by omega)), if_pos hlt]
          exact new k h37
        · rw [if_pos (nI_le (by omega) (by omega)), if_neg hlt]
          exact go z _ _ hAz tz ⟨hv0, rfl, by rw [z37, h37, nI_1], fun j h hj => by rw [z12 14 j (by omega)]; exact h14 j h hj, fun h hh => by rw [z12 15 h (by omega)]; exact h15 h hh⟩
    · have ew : wv T r = 9999 := if_neg hfe
      rw [ew, if_pos (by decide), show tf T s r = s by unfold tf; rw [if_neg hfe]]
      unfold f_M_timetable_57
      rw [if_pos (show x1 ≤ 9999 by
        match s, hsv with
        | none, hsv => rw [hsv.1]; decide
        | some (k, v0, r0), hsv => rw [hsv.2.1]; exact nI_le (b := 9999) (by have := hsv.1; omega) (by omega))]
      exact go v s x1 hAv tv.mt hsv
theorem ft11 {n : Nat} (x1 : Int32) : ∀ (f i : Nat) (t : k_St), i ≤ 5 → 5 - i < f → (∀ k, k < i → t.1 12 k = nI k) → ∃ u, f_M_timetable_11 n f x1 (nI i) t = f_M_timetable_31 n n x1 1 u ∧ m12 t u ∧ ∀ k, k < 5 → u.1 12 k = nI k := by
  intro f
  induction f with
  | zero => intro i t _ h; omega
  | succ f ih =>
    intro i t hi hf h
    rw [f_M_timetable_11]
    rcases Nat.lt_or_ge i 5 with hl | hl
    · rw [if_neg (by rw [l5]; exact nI_ge hl (by omega)), kgi (kin (by omega) (by decide)), klt, klt, nI_1, nI_clamp (n := i) (by omega)]
      obtain ⟨u, a, b, c⟩ := ih (i + 1) (k_sI t 12 i (nI i)) (by omega) (by omega) (fun k hk => by
        rw [sI1]
        by_cases e : k = i
        · rw [if_pos ⟨rfl, e⟩, e]
        · rw [if_neg (by omega)]; exact h k (by omega))
      exact ⟨u, a, m12.tr (u := k_sI t 12 i (nI i)) ⟨fun o k ho => by rw [sI1, if_neg (by omega)], rfl⟩ b, c⟩
    · rw [if_pos (by rw [l5]; exact nI_le hl (by omega))]
      exact ⟨t, rfl, m12.rf t, fun k hk => h k (by omega)⟩
theorem ftimetable {T : t_D} (w : Tw T) {n : Nat} (hn : 200 ≤ n) (h1 : 1 ≤ T 0 4) {t : k_St} (hM : MTT T t) : ∃ x2 u, f_M_timetable n t = some (x2, u) ∧ mt t u ∧ tM T (tfs T) x2 u := by
  have h5 := w.2.2.2.2.1
  have hp := pm_all (T 0 4) h5
  obtain ⟨c1, c2, -⟩ := pm_chain (T 0 4) h5
  unfold f_M_timetable
  rw [klt]
  have tz : mt t (k_sI t 0 37 0) := ⟨fun o k a b => by rw [sI1, if_neg (by omega)], rfl⟩
  obtain ⟨u, a, b, c⟩ := ft11 (n := n) 9999 n 0 (k_sI t 0 37 0) (by omega) (by omega) (fun k hk => by omega)
  have a' : f_M_timetable_11 n n 9999 0 (k_sI t 0 37 0) = f_M_timetable_31 n n 9999 1 u := a
  have tu := tz.tr b.mt
  obtain ⟨x2, y, e, d1, d2⟩ := ft31 w hn h1 n 0 none 9999 u c2 (by omega) (fun k hk => by
    have q := List.getElem?_map (f := la (T 0 4) ((pm (T 0 4) (T 0 4) []).getD 0 [])) (l := List.range 5) (i := k)
    rw [c1, List.getElem?_range hk] at q
    have q2 : la (T 0 4) ((pm (T 0 4) (T 0 4) []).getD 0 []) k = k := (Option.some.inj q).symm
    rw [q2]
    exact ⟨c k hk, hk⟩) (tu.mtt hM) ⟨rfl, by rw [b.1 0 37 (by omega), sI1, if_pos ⟨rfl, rfl⟩]⟩
  rw [a', e]
  exact ⟨x2, y, rfl, tu.tr d1, d2⟩
theorem nhouse_or {T : t_D} {v : Nat → Nat} {x m : k_St} (h : XB T v x) (g : MTT T m) : (T 0 4 = 0 ∧ x.1 2 4 = 0 ∧ f_M_refusesHouses m = 6) ∨ (1 ≤ T 0 4 ∧ ¬ x.1 2 4 = 0 ∧ f_M_refusesHouses m = 0) := by
  have h5 := h.1.2.2.2.2.1
  unfold f_M_refusesHouses
  rw [h.2.1.1 4 (by omega), g.1 4 (by omega)]
  by_cases e : T 0 4 = 0
  · left
    rw [e]
    exact ⟨rfl, rfl, rfl⟩
  · right
    have := neL (b := 0) 0 e rfl (by omega) (by omega)
    rw [if_neg this]
    exact ⟨by omega, this, rfl⟩
theorem n9999 {v : Nat} (h : v ≤ 600) : ¬ nI v = 9999 := neL (b := 9999) 9999 (by omega) rfl (by omega) (by omega)
theorem e_walks {T : t_D} {v : Nat → Nat} {x m : k_St} (h : XB T v x) (ht : TI T x) (g : MB T v m) {n : Nat} (hn : big n) : Q2 (some (f_X_walks x)) x (f_M_walks n m) m := by
  have g0 := g.mk (th0 m)
  unfold f_X_walks f_M_walks
  rw [klt (k_sI m 0 0 0), h.2.2.2.1, if_neg (by decide)]
  rcases nhouse_or h g0.1 with ⟨-, a, b⟩ | ⟨p, a, b⟩
  · rw [if_pos a, b, klt (6 : Int32), if_neg (by decide)]
    exact Q2.ref (xk.rf x) (th0 m) 6 (by decide)
  · obtain ⟨x2, u, e, hm, hu⟩ := ftimetable h.1 (show 200 ≤ n by omega) p g0.1
    rw [if_neg a, b, klt (0 : Int32), if_pos (by decide), e, kcl]
    have q := ht.1
    generalize tfs T = s at q hu
    match s, q, hu with
    | none, q, hu =>
      rw [q.1, hu.1, if_pos rfl]
      exact Q2.ans (xk.rf x) ((th0 m).tr hm.mk) _
    | some (k, w, r), q, hu =>
      rw [q.2.2.1, hu.2.1, if_neg (n9999 hu.1)]
      exact Q2.ans (xk.rf x) ((th0 m).tr hm.mk) _
theorem e_orders {T : t_D} {v : Nat → Nat} {x m : k_St} (h : XB T v x) (ht : TI T x) (g : MB T v m) {n : Nat} (hn : big n) : Q2 (some (f_X_orders x)) x (f_M_orders n m) m := by
  have g0 := g.mk (th0 m)
  unfold f_X_orders f_M_orders
  rw [klt (k_sI m 0 0 0), h.2.2.2.1, if_neg (by decide)]
  rcases nhouse_or h g0.1 with ⟨-, a, b⟩ | ⟨p, a, b⟩
  · rw [if_pos a, b, klt (6 : Int32), if_neg (by decide)]
    exact Q2.ref (xk.rf x) (th0 m) 6 (by decide)
  · obtain ⟨x2, u, e, hm, hu⟩ := ftimetable h.1 (show 200 ≤ n by omega) p g0.1
    rw [if_neg a, b, klt (0 : Int32), if_pos (by decide), e, kcl]
    have q := ht.1
    generalize tfs T = s at q hu
    match s, q, hu with
    | none, q, hu =>
      rw [q.2, hu.2]
      exact Q2.ans (xk.rf x) ((th0 m).tr hm.mk) _
    | some (k, w, r), q, hu =>
      rw [q.2.2.2.1, hu.2.2.1]
      exact Q2.ans (xk.rf x) ((th0 m).tr hm.mk) _
theorem e_visit {T : t_D} {v : Nat → Nat} {x m : k_St} (h : XB T v x) (ht : TI T x) (g : MB T v m) {n : Nat} (hn : big n) (x1 : Int32) : Q2 (f_X_visit x1 x) x (f_M_visit n x1 m) m := by
  have g0 := g.mk (th0 m)
  have h5 := h.1.2.2.2.2.1
  unfold f_X_visit f_M_visit
  rw [klt (k_sI m 0 0 0)]
  rcases house_or h.1 h.2.1 g0.1 x1 with ⟨a, b⟩ | ⟨i, hi, rfl, a, b⟩
  · rw [if_neg (k_bne a), if_pos (k_beq b)]
    exact Q2.ref (xk.rf x) (th0 m) 1 (by decide)
  · obtain ⟨x2, u, e, hm, hu⟩ := ftimetable h.1 (show 200 ≤ n by omega) (show 1 ≤ T 0 4 by omega) g0.1
    rw [if_pos (k_beq a), if_neg (k_bne b), e, kcl]
    have q := ht.1
    match he : tfs T with
    | none =>
      rw [he] at q hu
      rw [if_pos q.2, hu.1, if_pos rfl]
      exact Q2.ref (xk.rf x) ((th0 m).tr hm.mk) 1 (by decide)
    | some (k, w, r) =>
      rw [he] at q hu
      have hmem := tfs_mem h.1 he
      have hr := (pm_all (T 0 4) h5).2 r hmem.2.2.2
      have hri := rf_get (r := r) (j := i) (by omega)
      rw [if_neg (by rw [q.2.2.2.1]; exact neL (b := 0) 0 (by have := q.1; omega) rfl (by omega) (by omega)), kgi (kin (by omega) (by decide)), hu.2.1, if_neg (n9999 hu.1), kgi (kin (by omega) (by decide)), nI_clamp (n := i) (by omega), q.2.2.2.2 i _ hri, hu.2.2.2.1 i _ hri]
      exact Q2.ans (xk.rf x) ((th0 m).tr hm.mk) _
theorem e_hourOf {T : t_D} {v : Nat → Nat} {x m : k_St} (h : XB T v x) (ht : TI T x) (g : MB T v m) {n : Nat} (hn : big n) (x1 : Int32) : Q2 (f_X_hourOf x1 x) x (f_M_hourOf n x1 m) m := by
  have g0 := g.mk (th0 m)
  have h5 := h.1.2.2.2.2.1
  unfold f_X_hourOf f_M_hourOf
  rw [klt (k_sI m 0 0 0)]
  rcases house_or h.1 h.2.1 g0.1 x1 with ⟨a, b⟩ | ⟨i, hi, rfl, a, b⟩
  · rw [if_neg (k_bne a), if_pos (k_beq b)]
    exact Q2.ref (xk.rf x) (th0 m) 1 (by decide)
  · obtain ⟨x2, u, e, hm, hu⟩ := ftimetable h.1 (show 200 ≤ n by omega) (show 1 ≤ T 0 4 by omega) g0.1
    rw [if_pos (k_beq a), if_neg (k_bne b), e, kcl]
    have q := ht.1
    match he : tfs T with
    | none =>
      rw [he] at q hu
      rw [if_pos q.2, hu.1, if_pos rfl]
      exact Q2.ans (xk.rf x) ((th0 m).tr hm.mk) _
    | some (k, w, r) =>
      have q2 := ht.2 k w r he
      rw [he] at q hu
      have hmem := tfs_mem h.1 he
      have hr := (pm_all (T 0 4) h5).2 r hmem.2.2.2
      have hin := hr.2.1 i hi
      rw [if_neg (by rw [q.2.2.2.1]; exact neL (b := 0) 0 (by have := q.1; omega) rfl (by omega) (by omega)), kgi (kin (by omega) (by decide)), hu.2.1, if_neg (n9999 hu.1), kgi (kin (by omega) (by decide)), nI_clamp (n := i) (by omega), q2 i hin, hu.2.2.2.2 i hin]
      exact Q2.ans (xk.rf x) ((th0 m).tr hm.mk) _
