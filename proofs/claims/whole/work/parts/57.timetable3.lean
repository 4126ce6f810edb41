/-! ===== the class's timetable: hours ===== -/
theorem ck_le2 {T : t_D} (w : Tw T) : ∀ rp, (∀ h ∈ rp, h < T 0 4) → ck T rp ≤ 24 + rp.length
  | [], _ => by simp [ck]
  | h :: rp, hm => by
    have i := ck_le2 w rp (fun q hq => hm q (by simp [hq]))
    have h1 := (w.2.2.2.2.2.2.2.2.2.1 h (hm h (by simp))).2.1
    have h2 := (w.2.2.2.2.2.2.2.2.2.1 h (hm h (by simp))).2.2.1
    rw [ck, List.length_cons]
    omega
theorem fmake24 {T : t_D} (w : Tw T) {n k : Nat} (hk : 0 < k) (hk2 : k < 2 ^ 31) {r : List Nat} (hr : r.length = T 0 4) (hm : ∀ h ∈ r, h < T 0 4) : ∀ (rest : List Nat) (f : Nat) (rp : List Nat) (x2 : Int32) (x : k_St), rp.reverse ++ rest = r → rest.length < f → x2 + 1 = nI (ck T rp) → XT T x → (∀ i h, r[i]? = some h → x.1 28 i = nI h) → x.1 27 1 = nI k → (∀ h ∈ rp, x.1 29 h = nI (hq T rp h)) → ∃ y, f_Ti_make_24 n f x2 (nI rp.length) x = some y ∧ (∀ o k, o ≠ 29 → y.1 o k = x.1 o k) ∧ y.2 = x.2 ∧ ∀ h ∈ r, y.1 29 h = nI (hq T r.reverse h) := by
  have h5 := w.2.2.2.2.1
  intro rest
  induction rest with
  | nil =>
    intro f rp x2 x e hf hx2 hX h28 h27 h29
    obtain ⟨f, rfl⟩ : ∃ f', f = f' + 1 := ⟨f - 1, by simp at hf; omega⟩
    have hl : rp.length = T 0 4 := by rw [← hr, ← e]; simp
    rw [f_Ti_make_24, hX.1 4 (by omega), if_pos (nI_le (by omega) (by omega))]
    refine ⟨x, rfl, fun _ _ _ => rfl, rfl, fun h hh => ?_⟩
    rw [← e, List.append_nil] at hh ⊢
    rw [List.reverse_reverse]
    exact h29 h (List.mem_reverse.mp hh)
  | cons g rest ih =>
    intro f rp x2 x e hf hx2 hX h28 h27 h29
    rw [List.length_cons] at hf
    obtain ⟨f, rfl⟩ : ∃ f', f = f' + 1 := ⟨f - 1, by omega⟩
    have hl : rp.length + (rest.length + 1) = T 0 4 := by rw [← hr, ← e]; simp
    have hg : g < T 0 4 := hm g (by rw [← e]; simp)
    have hrp : ∀ h ∈ rp, h < T 0 4 := fun h hh => hm h (by rw [← e]; simp [hh])
    have hck := ck_le2 w rp hrp
    have hgg := w.2.2.2.2.2.2.2.2.2.1 g hg
    have hg28 : x.1 28 rp.length = nI g := h28 rp.length g (by rw [← e, List.getElem?_append_right (by simp)]; simp)
    rw [f_Ti_make_24, hX.1 4 (by omega), if_neg (nI_ge (by omega) (by omega)), h27, if_neg (nI_nle hk hk2), nI_clamp (n := rp.length) (by omega), hg28, kgi (kin (by omega) (by decide)), kgi (kin (by omega) (by decide)), klt, hx2, nI_clamp (n := g) (by omega), (hX.2.2.1 g hg).2.1, nI_max (by omega) (by omega), kgi (kin (by omega) (by decide)), kgi (kin (by omega) (by decide)), klt, klt, nI_1]
    obtain ⟨y, a, b, c, d⟩ := ih f (g :: rp) (nI (max (ck T rp) (T 4 g))) (k_sI x 29 g (nI (max (ck T rp) (T 4 g)))) (by rw [List.reverse_cons, List.append_assoc]; exact e) (by omega) (by rw [nI_1, ck]) (hX.same (fun o k _ _ => by rw [sI1, if_neg (by omega)])) (fun i h hi => by rw [sI1, if_neg (by omega)]; exact h28 i h hi) (by rw [sI1, if_neg (by omega)]; exact h27) (fun h hh => by
      rw [sI1, hq]
      by_cases q : h = g
      · rw [if_pos ⟨rfl, q⟩, if_pos q]
      · rw [if_neg (fun z => q z.2), if_neg q]
        exact h29 h ((List.mem_cons.mp hh).resolve_left q))
    exact ⟨y, a, fun o k ho => by rw [b o k ho, sI1, if_neg (by omega)], c, d⟩
theorem tf_mem (T : t_D) (P : Nat → List Nat → Prop) : ∀ (R : List (List Nat)) (s : tS), (∀ k v r, s = some (k, v, r) → P v r) → (∀ r ∈ R, fe T r.reverse = true → P (wl T r.reverse) r) → ∀ k v r, R.foldl (tf T) s = some (k, v, r) → P v r
  | [], s, h, _ => h
  | r :: R, s, h, g => by
    rw [List.foldl_cons]
    refine tf_mem T P R _ ?_ (fun q hq => g q (by simp [hq]))
    intro k v r1 e
    unfold tf at e
    split at e
    · rename_i hfe
      match s, h, e with
      | none, h, e =>
        simp only [Option.some.injEq, Prod.mk.injEq] at e
        obtain ⟨-, rfl, rfl⟩ := e
        exact g _ (by simp) hfe
      | some (k0, v0, r0), h, e =>
        simp only at e
        split at e
        · simp only [Option.some.injEq, Prod.mk.injEq] at e
          obtain ⟨-, rfl, rfl⟩ := e
          exact g _ (by simp) hfe
        · simp only [Option.some.injEq, Prod.mk.injEq] at e
          obtain ⟨-, rfl, rfl⟩ := e
          exact h _ _ _ rfl
    · exact h _ _ _ e
theorem tfs_mem {T : t_D} (w : Tw T) {k v : Nat} {r : List Nat} (h : tfs T = some (k, v, r)) : k ≤ 120 ∧ v ≤ 600 ∧ fe T r.reverse = true ∧ r ∈ pm (T 0 4) (T 0 4) [] := by
  have h5 := w.2.2.2.2.1
  have hp := pm_all (T 0 4) h5
  have h1 := tf_ks T (pm (T 0 4) (T 0 4) []) none
  have h2 := tf_mem T (fun v r => v ≤ 600 ∧ fe T r.reverse = true ∧ r ∈ pm (T 0 4) (T 0 4) []) (pm (T 0 4) (T 0 4) []) none (fun _ _ _ e => by simp at e) (fun r hr hfe => by
    refine ⟨?_, hfe, hr⟩
    have q := hp.2 r hr
    have := wl_le w r.reverse (fun h hh => q.2.2.1 h (List.mem_reverse.mp hh))
    rw [List.length_reverse] at this
    omega) k v r h
  unfold tfs at h
  rw [h] at h1
  have e1 : tk (some (k, v, r)) = k := rfl
  have e2 : tk none = 0 := rfl
  exact ⟨by omega, h2⟩
def TI (T : t_D) (x : k_St) : Prop := tX (tfs T) x ∧ ∀ k v r, tfs T = some (k, v, r) → ∀ h ∈ r, x.1 29 h = nI (hq T r.reverse h)
theorem fTmake {T : t_D} (w : Tw T) {n : Nat} (hn : 200 ≤ n) {x : k_St} (hX : XT T x) : ∃ y, f_Ti_make n x = some y ∧ xt x y ∧ TI T y := by
  have h5 := w.2.2.2.2.1
  have hp := pm_all (T 0 4) h5
  unfold f_Ti_make
  rw [klt, klt]
  generalize hz : k_sI (k_sI x 27 0 (-2)) 27 1 0 = z
  have xz : xt x z := by rw [← hz]; exact (xt.set _ _ _ _ (by omega)).tr (xt.set _ _ _ _ (by omega))
  have hs : tX none z := ⟨by rw [← hz, sI1, if_neg (by omega), sI1, if_pos ⟨rfl, rfl⟩], by rw [← hz, sI1, if_pos ⟨rfl, rfl⟩]⟩
  obtain ⟨y, a, b, c1, c2⟩ := fvis w hn (T 0 4) 6 [] none z (-1) (by omega) (by simp) (by simp) rfl (show (-1 : Int32) + 1 = nI 0 by decide) (hX.xt xz) (fun i h hi => by simp at hi) hs (by have : tk none = 0 := rfl; omega)
  have a' : f_Ti_visitFrom n 6 0 0 (-1) 0 z = some y := a
  have hXy := hX.xt (xz.tr b)
  rw [a', kcv]
  have c3 : tX (tfs T) y := c2
  match he : tfs T with
  | none =>
    rw [he] at c3
    obtain ⟨n, rfl⟩ : ∃ n', n = n' + 1 := ⟨n - 1, by omega⟩
    refine ⟨y, ?_, xz.tr b, by rw [he]; exact c3, fun k v r e => by rw [he] at e; simp at e⟩
    rw [f_Ti_make_24, c3.2]
    split
    · rfl
    · rfl
  | some (k, v, r) =>
    rw [he] at c3
    have hm := tfs_mem w he
    have hr := hp.2 r hm.2.2.2
    obtain ⟨u, d1, d2, d3, d4⟩ := fmake24 (n := n) w c3.1 (by omega) hr.1 hr.2.2.1 r n [] (-1) y (by simp) (by omega) (show (-1 : Int32) + 1 = nI 0 by decide) hXy c3.2.2.2.2 c3.2.2.2.1 (fun h hh => by simp at hh)
    refine ⟨u, d1, (xz.tr b).tr ⟨fun o k _ _ q _ => d2 o k q, d3⟩, ?_, fun k' v' r' e => ?_⟩
    · rw [he]
      exact c3.sm (fun o k q => d2 o k (by omega))
    · rw [he] at e
      simp only [Option.some.injEq, Prod.mk.injEq] at e
      obtain ⟨-, -, rfl⟩ := e
      exact d4
