/-! ===== NOW, what can be undone, IMAGES ===== -/
abbrev nv : Type := Nat → Nat
def fl (v : nv) : Nat := v 5 * 2 ^ 40 + pk v
def xk0 (x y : k_St) : Prop := ∀ o k, ((o = 0 ∧ k ≠ 12) ∨ o = 1 ∨ (2 ≤ o ∧ o ≤ 9) ∨ (18 ≤ o ∧ o ≤ 23) ∨ (o = 24 ∧ k ≠ 5) ∨ o = 25 ∨ (27 ≤ o ∧ o ≤ 32)) → y.1 o k = x.1 o k
def mk0 (m u : k_St) : Prop := ∀ o k, ((o = 0 ∧ (k = 6 ∨ k = 12)) ∨ o = 1 ∨ (18 ≤ o ∧ o ≤ 25)) → u.1 o k = m.1 o k
theorem xk.k0 {x y : k_St} (h : xk x y) : xk0 x y := fun o k a => h.1 o k (by omega)
theorem mk.k0 {m u : k_St} (h : mk m u) : mk0 m u := fun o k a => h o k (by omega)
theorem xk0.rf (x : k_St) : xk0 x x := fun _ _ _ => rfl
theorem mk0.rf (m : k_St) : mk0 m m := fun _ _ _ => rfl
theorem xk0.tr {x y z : k_St} (h : xk0 x y) (g : xk0 y z) : xk0 x z := fun o k a => (g o k a).trans (h o k a)
theorem mk0.tr {m u v : k_St} (h : mk0 m u) (g : mk0 u v) : mk0 m v := fun o k a => (g o k a).trans (h o k a)
theorem xk0.set (x : k_St) (o j : Nat) (a : Int32) (h : (o = 0 ∧ j = 12) ∨ o = 33 ∨ o = 34) : xk0 x (k_sI x o j a) := fun o' k q => by rw [sI1, if_neg (by omega)]
theorem mk0.set (m : k_St) (o j : Nat) (a : Int32) (h : (o = 0 ∧ j ≠ 6 ∧ j ≠ 12) ∨ (2 ≤ o ∧ o ≤ 17)) : mk0 m (k_sI m o j a) := fun o' k q => by rw [sI1, if_neg (by omega)]
def XN (T : t_D) (v : nv) (K I : List nv) (x : k_St) : Prop := (x.2 34 0 = lN (pk v) ∧ x.1 34 1 = nI (v 5) ∧ x.1 34 4 = nI (T 0 4) ∧ nvok T v) ∧ (x.1 34 2 = nI K.length ∧ K.length ≤ 16 ∧ (∀ i u, K[i]? = some u → x.2 35 i = lN (fl u)) ∧ ∀ u ∈ K, nvok T u) ∧ (x.1 34 3 = nI I.length ∧ I.length ≤ 3 ∧ (∀ i u, I[i]? = some u → x.2 36 i = lN (fl u)) ∧ ∀ u ∈ I, nvok T u)
def MN (v : nv) (K I : List nv) (m : k_St) : Prop := (∀ k, k < 6 → m.1 2 k = nI (v k)) ∧ (m.1 0 19 = nI K.length ∧ ∀ i u, K[i]? = some u → ∀ k, k < 6 → m.1 4 (6 * i + k) = nI (u k)) ∧ (m.1 0 20 = nI I.length ∧ ∀ i u, I[i]? = some u → ∀ k, k < 6 → m.1 5 (6 * i + k) = nI (u k))
theorem XN.xk {T : t_D} {v : nv} {K I : List nv} {x y : k_St} (h : XN T v K I x) (e : xk x y) : XN T v K I y :=
  ⟨⟨by rw [e.2 34 0 (by omega)]; exact h.1.1, by rw [e.1 34 1 (by omega)]; exact h.1.2.1, by rw [e.1 34 4 (by omega)]; exact h.1.2.2.1, h.1.2.2.2⟩, ⟨by rw [e.1 34 2 (by omega)]; exact h.2.1.1, h.2.1.2.1, fun i u hu => by rw [e.2 35 i (by omega)]; exact h.2.1.2.2.1 i u hu, h.2.1.2.2.2⟩, ⟨by rw [e.1 34 3 (by omega)]; exact h.2.2.1, h.2.2.2.1, fun i u hu => by rw [e.2 36 i (by omega)]; exact h.2.2.2.2.1 i u hu, h.2.2.2.2.2⟩⟩
theorem MN.mk {v : nv} {K I : List nv} {m u : k_St} (h : MN v K I m) (e : mk m u) : MN v K I u :=
  ⟨fun k hk => by rw [e 2 k (by omega)]; exact h.1 k hk, ⟨by rw [e 0 19 (by omega)]; exact h.2.1.1, fun i w hw k hk => by rw [e 4 _ (by omega)]; exact h.2.1.2 i w hw k hk⟩, ⟨by rw [e 0 20 (by omega)]; exact h.2.2.1, fun i w hw k hk => by rw [e 5 _ (by omega)]; exact h.2.2.2 i w hw k hk⟩⟩
def Q3 {α : Type} (T : t_D) (fX : Option (α × k_St)) (x : k_St) (fM : Option (α × k_St)) (m : k_St) : Prop := ∃ (r : α) (τ : Int32) (v : nv) (K I : List nv) (y u : k_St), fX = some (r, y) ∧ xk0 x y ∧ y.1 0 12 = τ ∧ XN T v K I y ∧ fM = some (r, u) ∧ mk0 m u ∧ u.1 0 1 = τ ∧ u.1 0 2 = -1 ∧ MN v K I u ∧ τ ≠ 4
theorem Q2.Q3 {α : Type} {T : t_D} {v : nv} {K I : List nv} {fX fM : Option (α × k_St)} {x m : k_St} (h : Q2 fX x fM m) (hx : XN T v K I x) (hm : MN v K I m) : Q3 T fX x fM m := by
  obtain ⟨r, τ, ⟨y, a1, a2, a3⟩, ⟨u, b1, b2, b3, b4⟩, c⟩ := h
  exact ⟨r, τ, v, K, I, y, u, a1, a2.k0, a3, hx.xk a2, b1, b2.k0, b3, b4, hm.mk b2, c⟩
theorem fl_lt {T : t_D} (w : Tw T) {v : nv} (h : nvok T v) : fl v < 2 ^ 58 := by
  have := pkv_lt (h.p8 w)
  have := h.2
  unfold fl
  omega
theorem fpacked {T : t_D} (w : Tw T) {v : nv} {K I : List nv} {x : k_St} (h : XN T v K I x) : f_No_packed x = lN (fl v) := by
  have h1 := pkv_lt (h.1.2.2.2.p8 w)
  have h2 := h.1.2.2.2.2
  unfold f_No_packed
  rw [h.1.2.1, h.1.1, nI_l (by omega), show (40 : Int32) = nI 40 from rfl, wb_shl _ (by omega), lNor]
  unfold fl
  have := Nat.two_pow_add_eq_or_of_lt h1 (v 5)
  rw [Nat.mul_comm (v 5), this]
def kp (K : List nv) (v : nv) : List nv := if K.length = 16 then K.drop 1 ++ [v] else K ++ [v]
theorem kp_get (K : List nv) (v : nv) (i : Nat) (u : nv) (h : (kp K v)[i]? = some u) : (i + 1 = (kp K v).length ∧ u = v) ∨ (i + 1 < (kp K v).length ∧ (if K.length = 16 then K[i + 1]? else K[i]?) = some u) := by
  unfold kp at h ⊢
  by_cases e : K.length = 16
  · rw [if_pos e] at h ⊢
    rw [if_pos e]
    have hl : i < (K.drop 1 ++ [v]).length := (List.getElem?_eq_some_iff.mp h).1
    simp only [List.length_append, List.length_drop, List.length_cons, List.length_nil] at hl ⊢
    rcases Nat.lt_or_ge i (K.length - 1) with q | q
    · right
      rw [List.getElem?_append_left (by rw [List.length_drop]; exact q), List.getElem?_drop] at h
      refine ⟨by omega, ?_⟩
      rw [show i + 1 = 1 + i by omega]; exact h
    · left
      have : i = K.length - 1 := by omega
      rw [List.getElem?_append_right (by rw [List.length_drop]; omega), List.length_drop, this, Nat.sub_self] at h
      simp at h
      exact ⟨by omega, h.symm⟩
  · rw [if_neg e] at h ⊢
    rw [if_neg e]
    have hl : i < (K ++ [v]).length := (List.getElem?_eq_some_iff.mp h).1
    simp only [List.length_append, List.length_cons, List.length_nil] at hl ⊢
    rcases Nat.lt_or_ge i K.length with q | q
    · right
      rw [List.getElem?_append_left q] at h
      exact ⟨by omega, h⟩
    · left
      have : i = K.length := by omega
      rw [List.getElem?_append_right (by omega), this, Nat.sub_self] at h
      simp at h
      exact ⟨by omega, h.symm⟩
theorem kp_len (K : List nv) (v : nv) (h : K.length ≤ 16) : (kp K v).length = (if K.length = 16 then 15 else K.length) + 1 ∧ (kp K v).length ≤ 16 := by
  unfold kp
  by_cases e : K.length = 16
  · rw [if_pos e, if_pos e]; simp; omega
  · rw [if_neg e, if_neg e]; simp; omega
theorem kp_mem {T : t_D} {K : List nv} {v : nv} (hK : ∀ u ∈ K, nvok T u) (hv : nvok T v) : ∀ u ∈ kp K v, nvok T u := by
  intro u hu
  unfold kp at hu
  split at hu
  · rcases List.mem_append.mp hu with q | q
    · exact hK u (List.mem_of_mem_drop q)
    · rw [List.mem_singleton.mp q]; exact hv
  · rcases List.mem_append.mp hu with q | q
    · exact hK u q
    · rw [List.mem_singleton.mp q]; exact hv
theorem fkeep {T : t_D} (w : Tw T) {v : nv} {K I : List nv} {x : k_St} (h : XN T v K I x) : ∃ y, f_No_keep x = some y ∧ (∀ o k, ¬ (o = 34 ∧ k = 2) → y.1 o k = x.1 o k) ∧ (∀ o k, o ≠ 35 → y.2 o k = x.2 o k) ∧ XN T v (kp K v) I y := by
  have hl := h.2.1.2.1
  obtain ⟨hkl, hkl2⟩ := kp_len K v hl
  have key : ∀ (c : Nat) (z : k_St), c < 16 → z.1 34 2 = nI c → (∀ o k, ¬ (o = 34 ∧ k = 2) → z.1 o k = x.1 o k) → (∀ o k, o ≠ 35 → z.2 o k = x.2 o k) → c + 1 = (kp K v).length → (∀ i u, i < c → (if K.length = 16 then K[i + 1]? else K[i]?) = some u → z.2 35 i = lN (fl u)) → ∃ y, f_No_keep_30 z = some y ∧ (∀ o k, ¬ (o = 34 ∧ k = 2) → y.1 o k = x.1 o k) ∧ (∀ o k, o ≠ 35 → y.2 o k = x.2 o k) ∧ XN T v (kp K v) I y := by
    intro c z hc h2 hz1 hz2 hck hz3
    have hpz : f_No_packed z = lN (fl v) := by
      have e : f_No_packed z = f_No_packed x := by
        unfold f_No_packed
        rw [hz1 34 1 (by omega), hz2 34 0 (by omega)]
      rw [e]; exact fpacked w h
    unfold f_No_keep_30
    rw [h2, kgi (kin hc (by decide)), klt, klt, nI_clamp (by omega), hpz]
    have e1 : ∀ o k, (k_sI (k_sL z 35 c (lN (fl v))) 34 2 ((k_sL z 35 c (lN (fl v))).1 34 2 + 1)).1 o k = if o = 34 ∧ k = 2 then nI (c + 1) else z.1 o k := by
      intro o k
      rw [sI1, sL1, h2, nI_1]
    have e2 : ∀ o k, (k_sI (k_sL z 35 c (lN (fl v))) 34 2 ((k_sL z 35 c (lN (fl v))).1 34 2 + 1)).2 o k = if o = 35 ∧ k = c then lN (fl v) else z.2 o k := by
      intro o k
      rw [sI2, sL2]
    refine ⟨_, rfl, fun o k hok => by rw [e1, if_neg hok]; exact hz1 o k hok, fun o k ho => by rw [e2, if_neg (by omega)]; exact hz2 o k ho, ?_⟩
    refine ⟨⟨by rw [e2, if_neg (by omega), hz2 34 0 (by omega)]; exact h.1.1, by rw [e1, if_neg (by omega), hz1 34 1 (by omega)]; exact h.1.2.1, by rw [e1, if_neg (by omega), hz1 34 4 (by omega)]; exact h.1.2.2.1, h.1.2.2.2⟩, ⟨by rw [e1, if_pos ⟨rfl, rfl⟩, hck], hkl2, fun i u hu => ?_, kp_mem h.2.1.2.2.2 h.1.2.2.2⟩, ⟨by rw [e1, if_neg (by omega), hz1 34 3 (by omega)]; exact h.2.2.1, h.2.2.2.1, fun i u hu => by rw [e2, if_neg (by omega), hz2 36 i (by omega)]; exact h.2.2.2.2.1 i u hu, h.2.2.2.2.2⟩⟩
    rcases kp_get K v i u hu with ⟨q1, rfl⟩ | ⟨q1, q2⟩
    · rw [e2, if_pos ⟨rfl, by omega⟩]
    · rw [e2, if_neg (by omega)]
      exact hz3 i u (by omega) q2
  unfold f_No_keep
  rw [h.2.1.1]
  by_cases e : K.length = 16
  · rw [if_neg (by rw [e]; decide), klt, klt]
    rw [if_pos e] at hkl
    refine key 15 (k_sI (k_cpL x 35 1 0 15) 34 2 15) (by omega) (by rw [sI1, if_pos ⟨rfl, rfl⟩]; rfl) (fun o k hok => by rw [sI1, if_neg hok]; rfl) (fun o k ho => by rw [sI2]; show (if o = 35 then _ else x.2 o) k = _; rw [if_neg ho]) hkl.symm (fun i u hi hu => ?_)
    rw [if_pos e] at hu
    rw [sI2]
    show (if 35 = 35 then va_cpy (x.2 35) (x.2 35) 1 0 15 else x.2 35) i = _
    rw [if_pos rfl, pk_cpy_in (by omega) (by omega), Nat.sub_zero, Nat.add_comm]
    exact h.2.1.2.2.1 (i + 1) u hu
  · rw [if_neg e] at hkl
    rw [if_pos (by rw [show (16 : Int32) = nI 16 from rfl]; exact nI_lt (by omega) (by omega))]
    refine key K.length x (by omega) h.2.1.1 (fun _ _ _ => rfl) (fun _ _ _ => rfl) hkl.symm (fun i u hi hu => ?_)
    rw [if_neg e] at hu
    exact h.2.1.2.2.1 i u hu
theorem frem50 {n : Nat} {v : nv} {c : Nat} (hc : c < 16) : ∀ (f i : Nat) (t : k_St), i ≤ 6 → 6 - i < f → (∀ k, k < 6 → t.1 2 k = nI (v k)) → t.1 0 19 = nI c → (∀ k, k < i → t.1 4 (6 * c + k) = nI (v k)) → ∃ u, f_M_remembers_50 n f (nI i) t = some u ∧ (∀ o k, o ≠ 4 → ¬ (o = 0 ∧ k = 19) → u.1 o k = t.1 o k) ∧ (∀ j, j < 6 * c → u.1 4 j = t.1 4 j) ∧ (∀ k, k < 6 → u.1 4 (6 * c + k) = nI (v k)) ∧ u.1 0 19 = nI (c + 1) := by
  intro f
  induction f with
  | zero => intro i t _ h; omega
  | succ f ih =>
    intro i t hi hf hv h19 h4
    rw [f_M_remembers_50, h19]
    rcases Nat.lt_or_ge i 6 with hl | hl
    · rw [if_neg (by rw [l6]; exact nI_ge hl (by omega)), l6, pk_mul, nI_add, kgi (kin hl (by decide)), kgi (kin (by omega) (by decide)), klt, klt, nI_1, nI_clamp (by omega), nI_clamp (by omega), hv i hl]
      obtain ⟨u, a, b, c1, d, e⟩ := ih (i + 1) (k_sI t 4 (6 * c + i) (nI (v i))) (by omega) (by omega) (fun k hk => by rw [sI1, if_neg (by omega)]; exact hv k hk) (by rw [sI1, if_neg (by omega)]; exact h19) (fun k hk => by
        rw [sI1]
        by_cases q : k = i
        · rw [if_pos ⟨rfl, by omega⟩, q]
        · rw [if_neg (by omega)]; exact h4 k (by omega))
      exact ⟨u, a, fun o k ho hk => by rw [b o k ho hk, sI1, if_neg (by omega)], fun j hj => by rw [c1 j hj, sI1, if_neg (by omega)], d, e⟩
    · have : i = 6 := by omega
      subst this
      rw [if_pos (by decide), klt]
      exact ⟨_, rfl, fun o k ho hk => by rw [sI1, if_neg (by omega)], fun j hj => by rw [sI1, if_neg (by omega)], fun k hk => by rw [sI1, if_neg (by omega)]; exact h4 k hk, by rw [sI1, if_pos ⟨rfl, rfl⟩, nI_1]⟩
theorem frem11 {n : Nat} {g : Nat → Int32} : ∀ (f i : Nat) (t : k_St), i ≤ 90 → 90 - i < f → t.1 0 19 = nI 16 → (∀ j, j < i → t.1 4 j = g (j + 6)) → (∀ j, i ≤ j → t.1 4 j = g j) → ∃ u, f_M_remembers_11 n f (nI i) t = f_M_remembers_50 n n 0 u ∧ (∀ o k, o ≠ 4 → ¬ (o = 0 ∧ k = 19) → u.1 o k = t.1 o k) ∧ (∀ j, j < 90 → u.1 4 j = g (j + 6)) ∧ u.1 0 19 = nI 15 := by
  intro f
  induction f with
  | zero => intro i t _ h; omega
  | succ f ih =>
    intro i t hi hf h19 h4 h4b
    rw [f_M_remembers_11]
    rcases Nat.lt_or_ge i 90 with hl | hl
    · rw [if_neg (by rw [show (90 : Int32) = nI 90 from rfl]; exact nI_ge hl (by omega)), l6, nI_add, kgi (kin (by omega) (by decide)), kgi (kin (by omega) (by decide)), klt, klt, nI_1, nI_clamp (by omega), nI_clamp (by omega), h4b (i + 6) (by omega)]
      obtain ⟨u, a, b, c, d⟩ := ih (i + 1) (k_sI t 4 i (g (i + 6))) (by omega) (by omega) (by rw [sI1, if_neg (by omega)]; exact h19) (fun j hj => by
        rw [sI1]
        by_cases q : j = i
        · rw [if_pos ⟨rfl, q⟩, q]
        · rw [if_neg (by omega)]; exact h4 j (by omega)) (fun j hj => by rw [sI1, if_neg (by omega)]; exact h4b j (by omega))
      exact ⟨u, a, fun o k ho hk => by rw [b o k ho hk, sI1, if_neg (by omega)], c, d⟩
    · have : i = 90 := by omega
      subst this
      rw [if_pos (by decide), klt]
      exact ⟨_, rfl, fun o k ho hk => by rw [sI1, if_neg (by omega)], fun j hj => by rw [sI1, if_neg (by omega)]; exact h4 j hj, by rw [sI1, if_pos ⟨rfl, rfl⟩, h19]; rfl⟩
theorem fremembers {v : nv} {K I : List nv} {m : k_St} (h : MN v K I m) (hl : K.length ≤ 16) {n : Nat} (hn : 200 ≤ n) : ∃ u, f_M_remembers n m = some u ∧ (∀ o k, o ≠ 4 → ¬ (o = 0 ∧ k = 19) → u.1 o k = m.1 o k) ∧ MN v (kp K v) I u := by
  obtain ⟨hkl, hkl2⟩ := kp_len K v hl
  unfold f_M_remembers
  rw [h.2.1.1]
  by_cases e : K.length = 16
  · rw [if_pos e] at hkl
    rw [if_pos (by rw [e]; rfl)]
    obtain ⟨t, a, b, c, d⟩ := frem11 (n := n) (g := m.1 4) n 0 m (by omega) (by omega) (by rw [h.2.1.1, e]) (fun j hj => by omega) (fun j _ => rfl)
    obtain ⟨u, a2, b2, c2, d2, e2⟩ := frem50 (n := n) (v := v) (c := 15) (by omega) n 0 t (by omega) (by omega) (fun k hk => by rw [b 2 k (by omega) (by omega)]; exact h.1 k hk) d (fun k hk => by omega)
    have a' : f_M_remembers_11 n n 0 m = f_M_remembers_50 n n 0 t := a
    have a2' : f_M_remembers_50 n n 0 t = some u := a2
    rw [a', a2']
    have hb : ∀ o k, o ≠ 4 → ¬ (o = 0 ∧ k = 19) → u.1 o k = m.1 o k := fun o k ho hk => (b2 o k ho hk).trans (b o k ho hk)
    refine ⟨u, rfl, hb, fun k hk => by rw [hb 2 k (by omega) (by omega)]; exact h.1 k hk, ⟨by rw [e2, hkl], fun i w hw k hk => ?_⟩, ⟨by rw [hb 0 20 (by omega) (by omega)]; exact h.2.2.1, fun i w hw k hk => by rw [hb 5 _ (by omega) (by omega)]; exact h.2.2.2 i w hw k hk⟩⟩
    rcases kp_get K v i w hw with ⟨q1, rfl⟩ | ⟨q1, q2⟩
    · rw [show i = 15 by omega]; exact d2 k hk
    · rw [if_pos e] at q2
      rw [c2 _ (by omega), c _ (by omega), show 6 * i + k + 6 = 6 * (i + 1) + k by omega]
      exact h.2.1.2 (i + 1) w q2 k hk
  · rw [if_neg e] at hkl
    rw [if_neg (neL 16 e rfl (by omega) (by decide))]
    obtain ⟨u, a2, b2, c2, d2, e2⟩ := frem50 (n := n) (v := v) (c := K.length) (by omega) n 0 m (by omega) (by omega) h.1 h.2.1.1 (fun k hk => by omega)
    have a2' : f_M_remembers_50 n n 0 m = some u := a2
    rw [a2']
    refine ⟨u, rfl, b2, fun k hk => by rw [b2 2 k (by omega) (by omega)]; exact h.1 k hk, ⟨by rw [e2, hkl], fun i w hw k hk => ?_⟩, ⟨by rw [b2 0 20 (by omega) (by omega)]; exact h.2.2.1, fun i w hw k hk => by rw [b2 5 _ (by omega) (by omega)]; exact h.2.2.2 i w hw k hk⟩⟩
    rcases kp_get K v i w hw with ⟨q1, rfl⟩ | ⟨q1, q2⟩
    · rw [show i = K.length by omega]; exact d2 k hk
    · rw [if_neg e] at q2
      rw [c2 _ (by omega)]
      exact h.2.1.2 i w q2 k hk
/-- NOW becomes another -/
theorem XN.now {T : t_D} {v v2 : nv} {K I : List nv} {x y : k_St} (h : XN T v K I x) (hv : nvok T v2) (h0 : y.2 34 0 = lN (pk v2)) (h1 : y.1 34 1 = nI (v2 5)) (e1 : ∀ k, k ≠ 1 → y.1 34 k = x.1 34 k) (e2 : ∀ o k, 35 ≤ o → y.2 o k = x.2 o k) : XN T v2 K I y :=
  ⟨⟨h0, h1, by rw [e1 4 (by omega)]; exact h.1.2.2.1, hv⟩, ⟨by rw [e1 2 (by omega)]; exact h.2.1.1, h.2.1.2.1, fun i u hu => by rw [e2 35 i (by omega)]; exact h.2.1.2.2.1 i u hu, h.2.1.2.2.2⟩, ⟨by rw [e1 3 (by omega)]; exact h.2.2.1, h.2.2.2.1, fun i u hu => by rw [e2 36 i (by omega)]; exact h.2.2.2.2.1 i u hu, h.2.2.2.2.2⟩⟩
theorem MN.now {v v2 : nv} {K I : List nv} {m u : k_St} (h : MN v K I m) (h0 : ∀ k, k < 6 → u.1 2 k = nI (v2 k)) (e : ∀ o k, (o = 4 ∨ o = 5 ∨ (o = 0 ∧ (k = 19 ∨ k = 20))) → u.1 o k = m.1 o k) : MN v2 K I u :=
  ⟨h0, ⟨by rw [e 0 19 (by omega)]; exact h.2.1.1, fun i w hw k hk => by rw [e 4 _ (by omega)]; exact h.2.1.2 i w hw k hk⟩, ⟨by rw [e 0 20 (by omega)]; exact h.2.2.1, fun i w hw k hk => by rw [e 5 _ (by omega)]; exact h.2.2.2 i w hw k hk⟩⟩
