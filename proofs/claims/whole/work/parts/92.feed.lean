/-! ===== feed: both ===== -/
def fb (a s : Int32) : Int32 := ((a >>> (s &&& 31)).toInt8.toInt32).toInt8.toInt32
def put1 (g : Nat) (t : k_St) (c : Int32) : k_St := k_sI (k_sI t 1 (t.1 0 g).toNatClampNeg c) 0 g ((k_sI t 1 (t.1 0 g).toNatClampNeg c).1 0 g + 1)
def puts (g : Nat) (t : k_St) (l : List Int32) : k_St := l.foldl (put1 g) t
def f4 (a : Int32) : List Int32 := [fb a 24, fb a 16, fb a 8, fb a 0]
theorem fb_i8 : ∀ k, k < 256 → (Int8.ofNat k).toInt32.toInt8.toInt32 = bv k := by decide +kernel
theorem fb_bv (a s : Int32) : ∃ c, c < 256 ∧ fb a s = bv c := by
  unfold fb
  generalize (a >>> (s &&& 31)).toInt8 = z
  refine ⟨z.toBitVec.toNat, z.toBitVec.isLt, ?_⟩
  have e : z = Int8.ofNat z.toBitVec.toNat := Int8.toBitVec_inj.mp (by show _ = BitVec.ofNat 8 _; simp)
  have := fb_i8 z.toBitVec.toNat z.toBitVec.isLt
  rw [← e] at this
  exact this
theorem put1_n {g : Nat} {t : k_St} {k : Nat} (h : t.1 0 g = nI k) (c : Int32) : (put1 g t c).1 0 g = nI (k + 1) := by
  unfold put1
  rw [sI1, if_pos ⟨rfl, rfl⟩, sI1, if_neg (by omega), h, nI_1]
theorem put1_o {g : Nat} {t : k_St} (c : Int32) {o j : Nat} (h : ¬ (o = 0 ∧ j = g)) (h1 : o ≠ 1) : (put1 g t c).1 o j = t.1 o j := by
  unfold put1
  rw [sI1, if_neg h, sI1, if_neg (fun z => h1 z.1)]
theorem put1_t {g : Nat} {t : k_St} {k : Nat} (h : t.1 0 g = nI k) (hk : k < 2 ^ 31) (c : Int32) (j : Nat) : (put1 g t c).1 1 j = if j = k then c else t.1 1 j := by
  unfold put1
  rw [sI1, if_neg (by omega), sI1, h, nI_clamp hk]
  by_cases e : j = k
  · rw [if_pos ⟨rfl, e⟩, if_pos e]
  · rw [if_neg (fun z => e z.2), if_neg e]
theorem puts_n {g : Nat} : ∀ (l : List Int32) (t : k_St) (k : Nat), t.1 0 g = nI k → (puts g t l).1 0 g = nI (k + l.length)
  | [], t, k, h => h
  | c :: l, t, k, h => by
    have := puts_n l (put1 g t c) (k + 1) (put1_n h c)
    rw [List.length_cons, show k + (l.length + 1) = k + 1 + l.length by omega]
    exact this
theorem puts_o {g : Nat} : ∀ (l : List Int32) (t : k_St) (o j : Nat), ¬ (o = 0 ∧ j = g) → o ≠ 1 → (puts g t l).1 o j = t.1 o j
  | [], t, o, j, h, h1 => rfl
  | c :: l, t, o, j, h, h1 => (puts_o l (put1 g t c) o j h h1).trans (put1_o c h h1)
theorem puts_2 {g : Nat} : ∀ (l : List Int32) (t : k_St), (puts g t l).2 = t.2
  | [], t => rfl
  | c :: l, t => (puts_2 l (put1 g t c)).trans rfl
theorem puts_app (g : Nat) (t : k_St) (l l' : List Int32) : puts g t (l ++ l') = puts g (puts g t l) l' := by
  unfold puts
  rw [List.foldl_append]
/-- the tapes stay alike -/
theorem puts_b : ∀ (l : List Int32), (∀ c ∈ l, ∃ b, b < 256 ∧ c = bv b) → ∀ (x m : k_St) (k : Nat), k + l.length < 2 ^ 31 → x.1 0 11 = nI k → m.1 0 6 = nI k → (∀ i, i < 900 → x.1 1 i = m.1 1 i ∧ ∃ c, c < 256 ∧ x.1 1 i = bv c) → ∀ i, i < 900 → (puts 11 x l).1 1 i = (puts 6 m l).1 1 i ∧ ∃ c, c < 256 ∧ (puts 11 x l).1 1 i = bv c
  | [], _, x, m, k, _, _, _, h => h
  | c :: l, hl, x, m, k, hk, hx, hm, h => by
    rw [List.length_cons] at hk
    refine puts_b l (fun d hd => hl d (by simp [hd])) (put1 11 x c) (put1 6 m c) (k + 1) (by omega) (put1_n hx c) (put1_n hm c) (fun i hi => ?_)
    rw [put1_t hx (by omega), put1_t hm (by omega)]
    by_cases e : i = k
    · rw [if_pos e, if_pos e]
      exact ⟨rfl, hl c (by simp)⟩
    · rw [if_neg e, if_neg e]
      exact h i hi
theorem fputFour {n k : Nat} (hn : 100 ≤ n) {t : k_St} (a : Int32) (h : t.1 0 11 = nI k) (hk : k + 4 ≤ 900) : f_Re_takeFour n a t = some (puts 11 t (f4 a)) := by
  have one : ∀ (f : Nat) (s s' : Int32) (t : k_St) (j : Nat), t.1 0 11 = nI j → j < 900 → ¬ s < 0 → s + (-8) = s' → f_Re_takeFour_3 n (f + 1) a s t = f_Re_takeFour_3 n f a s' (put1 11 t (fb a s)) := by
    intro f s s' t j hj h9 hs e
    rw [f_Re_takeFour_3, if_neg hs, if_neg (show ¬ (900 : Int32) ≤ t.1 0 11 by rw [hj]; exact nI_ge (b := 900) h9 (by omega)), kgi (by rw [hj]; exact kin h9 (by decide)), klt, klt, klt, e]
    rfl
  obtain ⟨f, rfl⟩ : ∃ f, n = f + 5 := ⟨n - 5, by omega⟩
  unfold f_Re_takeFour
  have h1 := put1_n h (fb a 24)
  have h2 := put1_n h1 (fb a 16)
  have h3 := put1_n h2 (fb a 8)
  rw [one (f + 4) 24 16 t k h (by omega) (by decide) (by decide), one (f + 3) 16 8 _ (k + 1) h1 (by omega) (by decide) (by decide), one (f + 2) 8 0 _ (k + 1 + 1) h2 (by omega) (by decide) (by decide), one (f + 1) 0 (-8) _ (k + 1 + 1 + 1) h3 (by omega) (by decide) (by decide), f_Re_takeFour_3, if_pos (by decide)]
  rfl
def f20 (a b c d e : Int32) : List Int32 := f4 a ++ (f4 b ++ (f4 c ++ (f4 d ++ f4 e)))
theorem f20_b (a b c d e : Int32) : ∀ z ∈ f20 a b c d e, ∃ q, q < 256 ∧ z = bv q := by
  intro z hz
  simp only [f20, f4, List.mem_append, List.mem_cons, List.not_mem_nil, or_false] at hz
  rcases hz with (h | h | h | h) | (h | h | h | h) | (h | h | h | h) | (h | h | h | h) | h | h | h | h <;> (rw [h]; exact fb_bv _ _)
theorem n900 {k : Nat} (h : k ≤ 900) : (nI k + 20 ≤ (900 : Int32)) ↔ k + 20 ≤ 900 := by
  rw [show (20 : Int32) = nI 20 from rfl, nI_add, show (900 : Int32) = nI 900 from rfl]
  exact ⟨fun z => Nat.le_of_not_lt (fun q => nI_ge q (by omega) z), fun z => nI_le z (by omega)⟩
theorem fXfeed {n k : Nat} (hn : 100 ≤ n) {t : k_St} (a b c d e : Int32) (h : t.1 0 11 = nI k) (hk : k ≤ 900) : f_X_feed n a b c d e t = if k + 20 ≤ 900 then some (nI (k + 20), puts 11 t (f20 a b c d e)) else some (-1, t) := by
  unfold f_X_feed
  rw [h]
  by_cases z : k + 20 ≤ 900
  · rw [if_pos ((n900 hk).mpr z), if_pos z]
    have h1 := puts_n (f4 a) t k h
    have h2 := puts_n (f4 b) _ _ h1
    have h3 := puts_n (f4 c) _ _ h2
    have h4 := puts_n (f4 d) _ _ h3
    have h5 := puts_n (f4 e) _ _ h4
    have l : ∀ a, (f4 a).length = 4 := fun _ => rfl
    rw [l] at h1
    rw [l, l] at h2
    rw [l, l, l] at h3
    rw [l, l, l, l] at h4
    rw [l, l, l, l, l] at h5
    rw [fputFour hn a h (by omega), kcv, fputFour hn b h1 (by omega), kcv, fputFour hn c h2 (by omega), kcv, fputFour hn d h3 (by omega), kcv, fputFour hn e h4 (by omega), kcv, h5, show k + 20 = k + 4 + 4 + 4 + 4 + 4 by omega]
    unfold f20
    rw [puts_app, puts_app, puts_app, puts_app]
  · rw [if_neg (fun q => z ((n900 hk).mp q)), if_neg z]
theorem sh4 : ∀ j, j < 20 → (24 : Int32) - ((8 : Int32) * (nI j - nI j / (4 : Int32) * (4 : Int32))) = nI (24 - 8 * (j % 4)) := by decide +kernel
theorem f20_at {a b c d e : Int32} {j : Nat} (hj : j < 20) : (f20 a b c d e)[j]? = some (fb (if j < 4 then a else if j < 8 then b else if j < 12 then c else if j < 16 then d else e) (nI (24 - 8 * (j % 4)))) := by
  have : j = 0 ∨ j = 1 ∨ j = 2 ∨ j = 3 ∨ j = 4 ∨ j = 5 ∨ j = 6 ∨ j = 7 ∨ j = 8 ∨ j = 9 ∨ j = 10 ∨ j = 11 ∨ j = 12 ∨ j = 13 ∨ j = 14 ∨ j = 15 ∨ j = 16 ∨ j = 17 ∨ j = 18 ∨ j = 19 := by omega
  rcases this with rfl | rfl | rfl | rfl | rfl | rfl | rfl | rfl | rfl | rfl | rfl | rfl | rfl | rfl | rfl | rfl | rfl | rfl | rfl | rfl <;> rfl
theorem fMfeed23 {n : Nat} (a b c d e : Int32) : ∀ (q f j k : Nat) (t : k_St), j + q = 20 → q < f → t.1 0 6 = nI k → k + q ≤ 900 → f_M_feed_23 n f a b c d e (nI j) t = some (nI (k + q), puts 6 t ((f20 a b c d e).drop j)) := by
  intro q
  induction q with
  | zero =>
    intro f j k t hj hf h hk
    obtain ⟨f, rfl⟩ : ∃ f', f = f' + 1 := ⟨f - 1, by omega⟩
    rw [f_M_feed_23, if_pos (show (20 : Int32) ≤ nI j from nI_le (a := 20) (by omega) (by omega)), h, show j = 20 by omega]
    rfl
  | succ q ih =>
    intro f j k t hj hf h hk
    obtain ⟨f, rfl⟩ : ∃ f', f = f' + 1 := ⟨f - 1, by omega⟩
    have h76 : ∀ s0, s0 = (if j < 4 then a else if j < 8 then b else if j < 12 then c else if j < 16 then d else e) → f_M_feed_76 n (f_M_feed_23 n f) a b c d e (nI j) s0 t = some (nI (k + (q + 1)), puts 6 t ((f20 a b c d e).drop j)) := by
      intro s0 es
      unfold f_M_feed_76
      rw [kgi (by rw [h]; exact kin (by omega) (by decide)), klt, klt, klt, nI_1, sh4 j (by omega)]
      have := ih f (j + 1) (k + 1) (put1 6 t (fb s0 (nI (24 - 8 * (j % 4))))) (by omega) (by omega) (put1_n h _) (by omega)
      rw [show k + 1 + q = k + (q + 1) by omega] at this
      rw [List.drop_eq_getElem_cons (show j < (f20 a b c d e).length from (by show j < 20; omega))]
      have e1 := f20_at (a := a) (b := b) (c := c) (d := d) (e := e) (show j < 20 by omega)
      rw [List.getElem?_eq_getElem (show j < (f20 a b c d e).length from (by show j < 20; omega))] at e1
      rw [Option.some.inj e1, ← es]
      exact this
    rw [f_M_feed_23, if_neg (show ¬ (20 : Int32) ≤ nI j from nI_ge (b := 20) (by omega) (by omega))]
    by_cases c4 : 4 ≤ j
    · rw [if_pos (show (4 : Int32) ≤ nI j from nI_le (a := 4) c4 (by omega))]
      by_cases c8 : 8 ≤ j
      · rw [if_pos (show (8 : Int32) ≤ nI j from nI_le (a := 8) c8 (by omega))]
        by_cases c12 : 12 ≤ j
        · rw [if_pos (show (12 : Int32) ≤ nI j from nI_le (a := 12) c12 (by omega))]
          by_cases c16 : 16 ≤ j
          · rw [if_pos (show (16 : Int32) ≤ nI j from nI_le (a := 16) c16 (by omega))]
            exact h76 e (by rw [if_neg (by omega), if_neg (by omega), if_neg (by omega), if_neg (by omega)])
          · rw [if_neg (show ¬ (16 : Int32) ≤ nI j from nI_ge (b := 16) (by omega) (by omega))]
            exact h76 d (by rw [if_neg (by omega), if_neg (by omega), if_neg (by omega), if_pos (by omega)])
        · rw [if_neg (show ¬ (12 : Int32) ≤ nI j from nI_ge (b := 12) (by omega) (by omega))]
          exact h76 c (by rw [if_neg (by omega), if_neg (by omega), if_pos (by omega)])
      · rw [if_neg (show ¬ (8 : Int32) ≤ nI j from nI_ge (b := 8) (by omega) (by omega))]
        exact h76 b (by rw [if_neg (by omega), if_pos (by omega)])
    · rw [if_neg (show ¬ (4 : Int32) ≤ nI j from nI_ge (b := 4) (by omega) (by omega))]
      exact h76 a (by rw [if_pos (by omega)])
theorem fMfeed {n k : Nat} (hn : 100 ≤ n) {t : k_St} (a b c d e : Int32) (h : t.1 0 6 = nI k) (hk : k ≤ 900) : f_M_feed n a b c d e t = if k + 20 ≤ 900 then some (nI (k + 20), puts 6 (k_sI t 0 0 0) (f20 a b c d e)) else some (-1, k_sI t 0 0 0) := by
  have h' : (k_sI t 0 0 0).1 0 6 = nI k := by rw [sI1, if_neg (by omega)]; exact h
  unfold f_M_feed
  rw [klt, h']
  by_cases z : k + 20 ≤ 900
  · rw [if_pos ((n900 hk).mpr z), if_pos z]
    exact fMfeed23 a b c d e 20 n 0 k _ rfl (by omega) h' z
  · rw [if_neg (fun q => z ((n900 hk).mp q)), if_neg z]
theorem feedN76 {n : Nat} {r : Int32 → Int32 → Int32 → Int32 → Int32 → Int32 → k_St → Option (Int32 × k_St)} : f_M_feed_N_76 n r = f_M_feed_76 n r := rfl
theorem feedN23 {n : Nat} : ∀ f, f_M_feed_N_23 n f = f_M_feed_23 n f
  | 0 => rfl
  | f + 1 => by
    funext a b c d e j t
    rw [f_M_feed_N_23, f_M_feed_23, feedN76, feedN23 f]
theorem feedN {n : Nat} (a b c d e : Int32) (t : k_St) : f_M_feed_N n a b c d e t = f_M_feed n a b c d e t := by
  unfold f_M_feed_N f_M_feed
  rw [feedN23]
theorem CR.feed {x m : k_St} (h : CR x m) {k : Nat} (hx : x.1 0 11 = nI k) (hm : m.1 0 6 = nI k) (hk : k + 20 ≤ 900) (a b c d e : Int32) : CR (puts 11 x (f20 a b c d e)) (puts 6 m (f20 a b c d e)) := by
  obtain ⟨h1, -, h3, h4, h5⟩ := h
  refine ⟨puts_b _ (f20_b a b c d e) x m k (by show k + 20 < _; omega) hx hm h1, ⟨k + 20, hk, puts_n (f20 a b c d e) x k hx, puts_n (f20 a b c d e) m k hm⟩, ?_, ?_, ?_⟩
  · rw [puts_o _ _ _ _ (by omega) (by omega), puts_o _ _ _ _ (by omega) (by omega)]; exact h3
  · rw [puts_o _ _ _ _ (by omega) (by omega), puts_o _ _ _ _ (by omega) (by omega)]; exact h4
  · rw [puts_o _ _ _ _ (by omega) (by omega), puts_o _ _ _ _ (by omega) (by omega), puts_o _ _ _ _ (by omega) (by omega)]; exact h5
section
variable {T : t_D} {v : nv} {K I : List nv} {x m : k_St} {n : Nat}
theorem s_feed (h : R1 T v K I x m) (hn : big n) (x1 x2 x3 x4 x5 : Int32) : S1 (f_X_feed n x1 x2 x3 x4 x5 x) (f_M_feed n x1 x2 x3 x4 x5 m) := by
  obtain ⟨k, k1, k2, k3⟩ := h.2.2.2.2.2.1
  rw [fXfeed (by omega) x1 x2 x3 x4 x5 k2 k1, fMfeed (by omega) x1 x2 x3 x4 x5 k3 k1]
  by_cases z : k + 20 ≤ 900
  · rw [if_pos z, if_pos z]
    have k3' : (k_sI m 0 0 0).1 0 6 = nI k := by rw [sI1, if_neg (by omega)]; exact k3
    obtain ⟨⟨w, hX, hB, h10, hN, hM, hMN⟩, hS, hTI, hP, hC⟩ := h.th 0
    have ox : ∀ o j, ¬ (o = 0 ∧ j = 11) → o ≠ 1 → (puts 11 x (f20 x1 x2 x3 x4 x5)).1 o j = x.1 o j := fun o j => puts_o _ _ o j
    have om : ∀ o j, ¬ (o = 0 ∧ j = 6) → o ≠ 1 → (puts 6 (k_sI m 0 0 0) (f20 x1 x2 x3 x4 x5)).1 o j = (k_sI m 0 0 0).1 o j := fun o j => puts_o _ _ o j
    have o2 : (puts 11 x (f20 x1 x2 x3 x4 x5)).2 = x.2 := puts_2 _ _
    refine ⟨_, _, _, rfl, rfl, T, v, K, I, ⟨w, hX.same (fun o k z1 z2 => ox o k (by omega) (by omega)), hB.same (fun o k z1 z2 => ox o k (by omega) (by omega)), by rw [ox 0 10 (by omega) (by omega)]; exact h10, ?_, hM.same (fun o k z1 z2 => om o k (by omega) (by omega)), ?_⟩, hS.same (fun k => ox 31 k (by omega) (by omega)), hTI.same (fun o k z1 z2 => ox o k (by omega) (by omega)), hP.same (fun o k z => ox o k (by omega) (by omega)), hC.feed k2 k3' z x1 x2 x3 x4 x5⟩
    · exact ⟨⟨by rw [o2]; exact hN.1.1, by rw [ox 34 1 (by omega) (by omega)]; exact hN.1.2.1, by rw [ox 34 4 (by omega) (by omega)]; exact hN.1.2.2.1, hN.1.2.2.2⟩, ⟨by rw [ox 34 2 (by omega) (by omega)]; exact hN.2.1.1, hN.2.1.2.1, fun i u hu => by rw [o2]; exact hN.2.1.2.2.1 i u hu, hN.2.1.2.2.2⟩, ⟨by rw [ox 34 3 (by omega) (by omega)]; exact hN.2.2.1, hN.2.2.2.1, fun i u hu => by rw [o2]; exact hN.2.2.2.2.1 i u hu, hN.2.2.2.2.2⟩⟩
    · exact ⟨fun k hk => by rw [om 2 k (by omega) (by omega)]; exact hMN.1 k hk, ⟨by rw [om 0 19 (by omega) (by omega)]; exact hMN.2.1.1, fun i u hu k hk => by rw [om 4 _ (by omega) (by omega)]; exact hMN.2.1.2 i u hu k hk⟩, ⟨by rw [om 0 20 (by omega) (by omega)]; exact hMN.2.2.1, fun i u hu k hk => by rw [om 5 _ (by omega) (by omega)]; exact hMN.2.2.2 i u hu k hk⟩⟩
  · rw [if_neg z, if_neg z]
    exact S1.th h _
theorem z_feed (h : R0 x m) (hn : big n) (x1 x2 x3 x4 x5 : Int32) : S0 (f_X_feed n x1 x2 x3 x4 x5 x) (f_M_feed_N n x1 x2 x3 x4 x5 m) := by
  obtain ⟨k, k1, k2, k3⟩ := h.2.2.2.2.2.2.1
  rw [feedN, fXfeed (by omega) x1 x2 x3 x4 x5 k2 k1, fMfeed (by omega) x1 x2 x3 x4 x5 k3 k1]
  by_cases z : k + 20 ≤ 900
  · rw [if_pos z, if_pos z]
    have k3' : (k_sI m 0 0 0).1 0 6 = nI k := by rw [sI1, if_neg (by omega)]; exact k3
    have ox : ∀ o j, ¬ (o = 0 ∧ j = 11) → o ≠ 1 → (puts 11 x (f20 x1 x2 x3 x4 x5)).1 o j = x.1 o j := fun o j => puts_o _ _ o j
    exact ⟨_, _, _, rfl, rfl, by rw [ox 0 10 (by omega) (by omega)]; exact h.1, fun i hi => by rw [ox 2 i (by omega) (by omega)]; exact h.2.1 i hi, by rw [ox 34 1 (by omega) (by omega)]; exact h.2.2.1, by rw [ox 34 2 (by omega) (by omega)]; exact h.2.2.2.1, by rw [ox 34 3 (by omega) (by omega)]; exact h.2.2.2.2.1, (h.2.2.2.2.2.th 0).feed k2 k3' z x1 x2 x3 x4 x5⟩
  · rw [if_neg z, if_neg z]
    exact S0.th h _
end
