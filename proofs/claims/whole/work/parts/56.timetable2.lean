/-! ===== the class's timetable ===== -/
def pg (N k : Nat) (rp : List Nat) : Nat → List (List Nat) := fun h => if h ∈ rp then [] else pm N k (h :: rp)
theorem P30.last {x : k_St} {g : Nat} {rp : List Nat} (h : P30 x (g :: rp)) : x.1 30 rp.length = nI g := by
  refine h rp.length g ?_
  rw [List.reverse_cons, List.getElem?_append_right (by simp)]
  simp
theorem P30.tail {x : k_St} {g : Nat} {rp : List Nat} (h : P30 x (g :: rp)) : P30 x rp := by
  intro i q hi
  refine h i q ?_
  rw [List.reverse_cons, List.getElem?_append_left (List.getElem?_eq_some_iff.mp hi).1]
  exact hi
theorem P30.push {x y : k_St} {g : Nat} {rp : List Nat} (h : P30 x rp) (e : ∀ i, i < rp.length → y.1 30 i = x.1 30 i) (eg : y.1 30 rp.length = nI g) : P30 y (g :: rp) := by
  intro i q hi
  rw [List.reverse_cons] at hi
  rcases Nat.lt_or_ge i rp.length with hl | hl
  · rw [List.getElem?_append_left (by simpa using hl)] at hi
    rw [e i hl]
    exact h i q hi
  · rw [List.getElem?_append_right (by simpa using hl)] at hi
    have h2 := (List.getElem?_eq_some_iff.mp hi).1
    simp at h2
    have : i = rp.length := by omega
    subst this
    simp at hi
    rw [eg, hi]
theorem P30.sm {x y : k_St} {rp : List Nat} (h : P30 x rp) (e : ∀ i, i < rp.length → y.1 30 i = x.1 30 i) : P30 y rp := by
  intro i q hi
  have h2 := (List.getElem?_eq_some_iff.mp hi).1
  rw [List.length_reverse] at h2
  rw [e i h2]
  exact h i q hi
theorem tX.sm {s : tS} {x y : k_St} (h : tX s x) (e : ∀ o k, o = 27 ∨ o = 28 → y.1 o k = x.1 o k) : tX s y := by
  match s, h with
  | none, h => exact ⟨by rw [e 27 0 (by omega)]; exact h.1, by rw [e 27 1 (by omega)]; exact h.2⟩
  | some (k, w, r), h => exact ⟨h.1, h.2.1, by rw [e 27 0 (by omega)]; exact h.2.2.1, by rw [e 27 1 (by omega)]; exact h.2.2.2.1, fun i q hi => by rw [e 28 i (by omega)]; exact h.2.2.2.2 i q hi⟩
theorem fvis22 {T : t_D} (w : Tw T) {n k : Nat} {rp : List Nat} (hl : rp.length + (k + 1) = T 0 4) (hm : ∀ h ∈ rp, h < T 0 4) (hfe : fe T rp = true) {x4 : Int32} (hx4 : x4 + 1 = nI (ck T rp)) {self : Int32 → Int32 → Int32 → Int32 → k_St → Option k_St}
    (hself : ∀ (h : Nat) (s : tS) (x : k_St) (x4 : Int32), h < T 0 4 → h ∉ rp → fe T (h :: rp) = true → x4 + 1 = nI (ck T (h :: rp)) → XT T x → P30 x (h :: rp) → tX s x → tk s + (pm (T 0 4) k (h :: rp)).length ≤ 200 → ∃ y, self (nI (rp.length + 1)) (nI (us (h :: rp))) x4 (nI (wl T (h :: rp))) x = some y ∧ xt x y ∧ (∀ i, i ≤ rp.length → y.1 30 i = x.1 30 i) ∧ tX ((pm (T 0 4) k (h :: rp)).foldl (tf T) s) y) :
    ∀ (f c : Nat) (s : tS) (x : k_St), c ≤ T 0 4 → T 0 4 - c < f → XT T x → P30 x rp → tX s x → tk s + ((List.range' c (T 0 4 - c)).flatMap (pg (T 0 4) k rp)).length ≤ 200 → ∃ y, f_Ti_visitFrom_22 n self f (nI rp.length) (nI (us rp)) x4 (nI (wl T rp)) (nI c) x = some y ∧ xt x y ∧ (∀ i, i < rp.length → y.1 30 i = x.1 30 i) ∧ tX (((List.range' c (T 0 4 - c)).flatMap (pg (T 0 4) k rp)).foldl (tf T) s) y := by
  have h5 := w.2.2.2.2.1
  have hc24 := ck_le w rp hm hfe
  have hw := wl_le w rp hm
  have hus := us_lt rp (fun h hh => by have := hm h hh; omega)
  intro f
  induction f with
  | zero => intro c s x _ h; omega
  | succ f ih =>
    intro c s x hc hf hX hP hs hk
    rw [f_Ti_visitFrom_22, hX.1 4 (by omega)]
    rcases Nat.lt_or_ge c (T 0 4) with hlt | hge
    · have hh := w.2.2.2.2.2.2.2.2.2.1 c hlt
      have hxh := hX.2.2.1 c hlt
      rw [show T 0 4 - c = (T 0 4 - (c + 1)) + 1 by omega, List.range'_succ, List.flatMap_cons, List.length_append] at hk
      rw [show T 0 4 - c = (T 0 4 - (c + 1)) + 1 by omega, List.range'_succ, List.flatMap_cons, List.foldl_append]
      rw [if_neg (nI_ge hlt (by omega)), kgi (kin (by omega) (by decide)), klt, nI_clamp (by omega), hx4, hxh.2.1, nI_max (by omega) (by omega)]
      by_cases hu : c ∈ rp
      · have e : pg (T 0 4) k rp c = [] := if_pos hu
        rw [if_neg (fun q => by rw [nI_bit0 (by omega) (by omega), us_bit] at q; simp [hu] at q), klt, nI_1, e]
        rw [e] at hk
        exact ih (c + 1) s x (by omega) (by omega) hX hP hs (by simpa using hk)
      · have e : pg (T 0 4) k rp c = pm (T 0 4) k (c :: rp) := if_neg hu
        rw [if_pos (by rw [nI_bit0 (by omega) (by omega), us_bit]; simp [hu]), kgi (kin (by omega) (by decide)), hxh.2.2.1, e]
        rw [e] at hk
        by_cases hfc : T 5 c < max (ck T rp) (T 4 c)
        · rw [if_pos (nI_lt hfc (by omega)), klt, nI_1, tf_no T _ s (pm_no T (T 0 4) k (c :: rp) (by rw [fe, hfe, Bool.true_and, decide_eq_false_iff_not]; omega))]
          exact ih (c + 1) s x (by omega) (by omega) hX hP hs (by omega)
        · rw [if_neg (nI_nlt (by omega) (by omega))]
          have hfe2 : fe T (c :: rp) = true := by rw [fe, hfe, Bool.true_and, decide_eq_true_eq]; omega
          have hx42 : nI (max (ck T rp) (T 4 c)) + 1 = nI (ck T (c :: rp)) := by rw [nI_1, ck]
          have go : ∃ y, k_cv (self (nI (rp.length + 1)) (nI (us (c :: rp))) (nI (max (ck T rp) (T 4 c))) (nI (wl T (c :: rp))) (k_sI x 30 rp.length (nI c))) (fun t_16 => k_lt (nI c + (1 : Int32)) (fun x6_17 => f_Ti_visitFrom_22 n self f (nI rp.length) (nI (us rp)) x4 (nI (wl T rp)) x6_17 t_16)) = some y ∧ xt x y ∧ (∀ i, i < rp.length → y.1 30 i = x.1 30 i) ∧ tX (((List.range' (c + 1) (T 0 4 - (c + 1))).flatMap (pg (T 0 4) k rp)).foldl (tf T) ((pm (T 0 4) k (c :: rp)).foldl (tf T) s)) y := by
            have xz := xt.set x 30 rp.length (nI c) (by omega)
            obtain ⟨y, a, b, c1, c2⟩ := hself c s (k_sI x 30 rp.length (nI c)) (nI (max (ck T rp) (T 4 c))) hlt hu hfe2 hx42 (hX.xt xz) (hP.push (fun i hi => by rw [sI1, if_neg (by omega)]) (by rw [sI1, if_pos ⟨rfl, rfl⟩])) (hs.sm (fun o k _ => by rw [sI1, if_neg (by omega)])) (by omega)
            have hks := tf_ks T (pm (T 0 4) k (c :: rp)) s
            have xy := xz.tr b
            have e30 : ∀ i, i < rp.length → y.1 30 i = x.1 30 i := fun i hi => by rw [c1 i (by omega), sI1, if_neg (by omega)]
            obtain ⟨u, a2, b2, d1, d2⟩ := ih (c + 1) _ y (by omega) (by omega) (hX.xt xy) (hP.sm e30) c2 (by omega)
            rw [a, kcv, klt, nI_1, a2]
            exact ⟨u, rfl, xy.tr b2, fun i hi => (d1 i hi).trans (e30 i hi), d2⟩
          rw [nI_shl c (by omega), nI_or, ← us_cons, nI_1 (a := rp.length)]
          match rp, go, hP, hl, hm with
          | [], go, hP, hl, hm =>
            rw [if_pos (show nI ([] : List Nat).length = 0 from rfl), kgi (kin (by simp) (by decide)), klt, nI_clamp (n := ([] : List Nat).length) (by simp)]
            exact go
          | g :: rp, go, hP, hl, hm =>
            rw [List.length_cons] at hl
            have hg := hm g (by simp)
            have hhg := (w.2.2.2.2.2.2.2.2.2.1 g hg).1
            rw [if_neg (neL (b := 0) 0 (by simp) rfl (by simp; omega) (by omega)), List.length_cons, nI_pred, nI_clamp (n := rp.length) (by omega), hP.last, kgi (kin (by omega) (by decide)), kgi (kin (by omega) (by decide)), kgi (kin (by omega) (by decide)), nI_clamp (n := g) (by omega), hxh.1, (hX.2.2.1 g hg).1, nI_dst _ (by omega) _ (by omega), klt, kgi (kin (by omega) (by decide)), klt, nI_clamp (by omega), nI_add]
            exact go
    · rw [if_pos (nI_le hge (by omega)), show T 0 4 - c = 0 by omega]
      exact ⟨x, rfl, xt.rf x, fun _ _ => rfl, hs⟩
theorem fvis {T : t_D} (w : Tw T) {n : Nat} (hn : 200 ≤ n) : ∀ (k d : Nat) (rp : List Nat) (s : tS) (x : k_St) (x4 : Int32), k < d → rp.length + k = T 0 4 → (∀ h ∈ rp, h < T 0 4) → fe T rp = true → x4 + 1 = nI (ck T rp) → XT T x → P30 x rp → tX s x → tk s + (pm (T 0 4) k rp).length ≤ 200 → ∃ y, f_Ti_visitFrom n d (nI rp.length) (nI (us rp)) x4 (nI (wl T rp)) x = some y ∧ xt x y ∧ (∀ i, i < rp.length → y.1 30 i = x.1 30 i) ∧ tX ((pm (T 0 4) k rp).foldl (tf T) s) y := by
  have h5 := w.2.2.2.2.1
  intro k
  induction k with
  | zero =>
    intro d rp s x x4 hd hl hm hfe hx4 hX hP hs hk
    obtain ⟨d, rfl⟩ : ∃ d', d = d' + 1 := ⟨d - 1, by omega⟩
    have hw := wl_le w rp hm
    rw [f_Ti_visitFrom, hX.1 4 (by omega), if_neg (nI_nlt (by omega) (by omega))]
    rw [pm] at hk ⊢
    simp at hk
    obtain ⟨y, a, b, c1, c2⟩ := fTkeep (T := T) (r := rp.reverse) hn (by rw [List.length_reverse]; omega) (by rw [List.reverse_reverse]; exact hfe) (by rw [List.reverse_reverse]; omega) (s := s) (by omega) (by rw [List.reverse_reverse]; exact hP) hs
    rw [List.reverse_reverse, List.length_reverse, show rp.length = T 0 4 by omega] at a
    rw [a, kcv]
    exact ⟨y, rfl, b, fun i _ => c1 i, c2⟩
  | succ k ih =>
    intro d rp s x x4 hd hl hm hfe hx4 hX hP hs hk
    obtain ⟨d, rfl⟩ : ∃ d', d = d' + 1 := ⟨d - 1, by omega⟩
    rw [f_Ti_visitFrom, hX.1 4 (by omega), if_pos (nI_lt (by omega) (by omega))]
    have := fvis22 (n := n) (self := f_Ti_visitFrom n d) w hl hm hfe hx4 (fun h s x x4 h1 h2 h3 h4 h6 h7 h8 h9 => by
      obtain ⟨y, a, b, c1, c2⟩ := ih d (h :: rp) s x x4 (by omega) (by rw [List.length_cons]; omega) (fun q hq => by
        rcases List.mem_cons.mp hq with e | e
        · rw [e]; exact h1
        · exact hm q e) h3 h4 h6 h7 h8 h9
      exact ⟨y, a, b, fun i hi => c1 i (by rw [List.length_cons]; omega), c2⟩) n 0 s x (by omega) (by omega) hX hP hs (by simpa [pg, pm] using hk)
    rw [Nat.sub_zero] at this
    exact this
def tfs (T : t_D) : tS := (pm (T 0 4) (T 0 4) []).foldl (tf T) none
theorem pm_all : ∀ N, N ≤ 5 → (pm N N []).length ≤ 120 ∧ ∀ r ∈ pm N N [], r.length = N ∧ (∀ h, h < N → h ∈ r) ∧ (∀ h ∈ r, h < N) ∧ r.Nodup := by decide +kernel
