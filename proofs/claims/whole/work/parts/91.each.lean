/-! ===== no terrace yet: each call ===== -/
section
variable {x m : k_St} {n : Nat}
theorem S0.r {α : Type} {fX fM : Option (α × k_St)} (h : R0 x m) (r : α) (τ : Int32) (hτ : τ ≠ 4) (e1 : fX = some (r, k_sI x 0 12 τ)) (e2 : fM = some (r, k_sI (k_sI (k_sI m 0 0 0) 0 1 τ) 0 2 (-1))) : S0 fX fM := by
  refine ⟨r, _, _, e1, e2, by rw [sI1, if_neg (by omega)]; exact h.1, fun i hi => by rw [sI1, if_neg (by omega)]; exact h.2.1 i hi, by rw [sI1, if_neg (by omega)]; exact h.2.2.1, by rw [sI1, if_neg (by omega)]; exact h.2.2.2.1, by rw [sI1, if_neg (by omega)]; exact h.2.2.2.2.1, h.2.2.2.2.2.go (τ := τ) (fun o k z => by rw [sI1, if_neg (by omega)]) (fun o k z => by rw [sI1, if_neg (by omega), sI1, if_neg (by omega), sI1, if_neg (by omega)]) (by rw [sI1, if_pos ⟨rfl, rfl⟩]) (by rw [sI1, if_neg (by omega), sI1, if_pos ⟨rfl, rfl⟩]) (by rw [sI1, if_pos ⟨rfl, rfl⟩]) hτ⟩
theorem R0.nH (h : R0 x m) (x1 : Int32) : f_X_noHouse x x1 = true := by
  unfold f_X_noHouse
  rw [h.2.1 4 (by omega)]
  by_cases e : x1 < 0
  · rw [if_pos e]
  · rw [if_neg e, if_neg e]
theorem R0.nP (h : R0 x m) (x1 : Int32) : f_X_noPiece x x1 = true := by
  unfold f_X_noPiece
  rw [h.2.1 2 (by omega)]
  by_cases e : x1 < 0
  · rw [if_pos e]
  · rw [if_neg e, if_neg e]
theorem R0.nS (h : R0 x m) (x1 : Int32) : f_X_noPieces x x1 = true := by
  unfold f_X_noPieces
  rw [h.1, if_pos rfl]
theorem R0.nM (h : R0 x m) : f_X_noMixed x = true := by
  unfold f_X_noMixed
  rw [h.2.1 7 (by omega), if_pos rfl]
theorem R0.wM (h : R0 x m) : f_X_whyNoMixed x = 1 := by
  unfold f_X_whyNoMixed
  rw [h.1, if_pos rfl]
theorem R0.wH (h : R0 x m) (x1 : Int32) : f_X_whyNoHour x x1 = 1 := by
  unfold f_X_whyNoHour
  rw [h.1, if_pos rfl]
theorem R0.wC (h : R0 x m) (x1 : Int32) : f_X_whyNoChance x x1 = 1 := by
  unfold f_X_whyNoChance
  rw [h.1, if_pos rfl]
theorem z_piece (h : R0 x m) (x1 : Int32) (x2 : Int32) : S0 (f_X_piece n x1 x2 x) (f_M_piece_N x1 x2 m) := S0.r h (-1 : Int32) 1 (by decide) (by
    unfold f_X_piece; rw [h.nP x1, if_neg nk1]; rfl) rfl
theorem z_house (h : R0 x m) (x1 : Int32) (x2 : Int32) : S0 (f_X_house n x1 x2 x) (f_M_house_N x1 x2 m) := S0.r h (-1 : Int32) 1 (by decide) (by
    unfold f_X_house; rw [h.nH x1, if_neg nk1]; rfl) rfl
theorem z_known (h : R0 x m) : S0 (f_X_known n x) (some (f_M_known_N m)) := S0.r h (-1 : Int32) 1 (by decide) (by
    unfold f_X_known; rw [h.1, if_pos rfl]; rfl) rfl
theorem z_alone (h : R0 x m) (x1 : Int32) : S0 (f_X_alone n x1 x) (f_M_alone_N x1 m) := S0.r h (-1 : Int32) 1 (by decide) (by
    unfold f_X_alone; rw [h.nH x1, if_neg nk1]; rfl) rfl
theorem z_tales (h : R0 x m) (x1 : Int32) : S0 (f_X_tales n x1 x) (f_M_tales_N n x1 m) := S0.r h (-1 : Int32) 1 (by decide) (by
    unfold f_X_tales; rw [h.nS x1, if_neg nk1]; rfl) rfl
theorem z_longest (h : R0 x m) (x1 : Int32) : S0 (f_X_longest n x1 x) (f_M_longest_N n x1 m) := S0.r h (-1 : Int32) 1 (by decide) (by
    unfold f_X_longest; rw [h.nS x1, if_neg nk1]; rfl) rfl
theorem z_longestAt (h : R0 x m) (x1 : Int32) (x2 : Int32) : S0 (f_X_longestAt n x1 x2 x) (f_M_longestAt_N n x1 x2 m) := S0.r h (-1 : Int32) 1 (by decide) (by
    unfold f_X_longestAt; rw [h.nS x1, if_neg nk1]; rfl) rfl
theorem z_taleAt (h : R0 x m) (x1 : Int32) (x2 : Int32) (x3 : Int32) : S0 (f_X_taleAt n x1 x2 x3 x) (f_M_taleAt_N n x1 x2 x3 m) := S0.r h (-1 : Int32) 1 (by decide) (by
    unfold f_X_taleAt; rw [h.nS x1, if_neg nk1]; rfl) rfl
theorem z_used (h : R0 x m) (x1 : Int32) : S0 (f_X_used n x1 x) (f_M_used_N n x1 m) := S0.r h (-1 : Int32) 1 (by decide) (by
    unfold f_X_used; rw [h.nS x1, if_neg nk1]; rfl) rfl
theorem z_needed (h : R0 x m) (x1 : Int32) : S0 (f_X_needed n x1 x) (f_M_needed_N n x1 m) := S0.r h (-1 : Int32) 1 (by decide) (by
    unfold f_X_needed; rw [h.nS x1, if_neg nk1]; rfl) rfl
theorem z_leftOver (h : R0 x m) (x1 : Int32) : S0 (f_X_leftOver n x1 x) (f_M_leftOver_N n x1 m) := S0.r h (-1 : Int32) 1 (by decide) (by
    unfold f_X_leftOver; rw [h.nS x1, if_neg nk1]; rfl) rfl
theorem z_isTale (h : R0 x m) (x1 : Int32) : S0 (f_X_isTale n x1 x) (some (f_M_isTale_N x1 m)) := S0.r h (-1 : Int32) 1 (by decide) (by
    unfold f_X_isTale; rw [h.1, if_pos rfl]; rfl) rfl
theorem z_talesOf (h : R0 x m) (x1 : Int32) : S0 (f_X_talesOf n x1 x) (f_M_talesOf_N n x1 m) := S0.r h (-1 : Int32) 1 (by decide) (by
    unfold f_X_talesOf; rw [h.nH x1, if_neg nk1]; rfl) rfl
theorem z_wanted (h : R0 x m) (x1 : Int32) : S0 (f_X_wanted n x1 x) (f_M_wanted_N n x1 m) := S0.r h (-1 : Int32) 1 (by decide) (by
    unfold f_X_wanted; rw [h.nH x1, if_neg nk1]; rfl) rfl
theorem z_ask (h : R0 x m) (x1 : Int32) : S0 (f_X_ask n x1 x) (f_M_ask_N n x1 m) := S0.r h (-1 : Int32) 1 (by decide) (by
    unfold f_X_ask; rw [h.nH x1, if_neg nk1]; rfl) rfl
theorem z_askAll (h : R0 x m) (x1 : Int32) : S0 (f_X_askAll n x1 x) (f_M_askAll_N x1 m) := S0.r h (-1 : Int32) 1 (by decide) (by
    unfold f_X_askAll; rw [h.nH x1, if_neg nk1]; rfl) rfl
theorem z_sense (h : R0 x m) : S0 (f_X_sense n x) (some (f_M_sense_N m)) := S0.r h (-1 : Int32) 1 (by decide) (by
    unfold f_X_sense; rw [h.1, if_pos rfl]; rfl) rfl
theorem z_wisest (h : R0 x m) : S0 (f_X_wisest n x) (some (f_M_wisest_N m)) := S0.r h (-1 : Int32) 1 (by decide) (by
    unfold f_X_wisest; rw [h.1, if_pos rfl]; rfl) rfl
theorem z_soonest (h : R0 x m) : S0 (f_X_soonest n x) (some (f_M_soonest_N m)) := S0.r h (-1 : Int32) 1 (by decide) (by
    unfold f_X_soonest; rw [h.1, if_pos rfl]; rfl) rfl
theorem z_meets (h : R0 x m) (x1 : Int32) (x2 : Int32) : S0 (f_X_meets n x1 x2 x) (f_M_meets_N n x1 x2 m) := S0.r h (-1 : Int32) 1 (by decide) (by
    unfold f_X_meets; rw [h.nH x2, if_neg nk1]; rfl) rfl
theorem z_mostBehind (h : R0 x m) (x1 : Int32) : S0 (f_X_mostBehind n x1 x) (some (f_M_mostBehind_N x1 m)) := S0.r h (-1 : Int32) 1 (by decide) (by
    unfold f_X_mostBehind; rw [h.1, if_pos rfl]; rfl) rfl
theorem z_walks (h : R0 x m) : S0 (some (f_X_walks x)) (f_M_walks_N n m) := S0.r h (-1 : Int32) 1 (by decide) (by
    unfold f_X_walks; rw [h.1, if_pos rfl]; rfl) rfl
theorem z_visit (h : R0 x m) (x1 : Int32) : S0 (f_X_visit x1 x) (f_M_visit_N n x1 m) := S0.r h (-1 : Int32) 1 (by decide) (by
    unfold f_X_visit; rw [h.nH x1, if_neg nk1]; rfl) rfl
theorem z_hourOf (h : R0 x m) (x1 : Int32) : S0 (f_X_hourOf x1 x) (f_M_hourOf_N n x1 m) := S0.r h (-1 : Int32) 1 (by decide) (by
    unfold f_X_hourOf; rw [h.nH x1, if_neg nk1]; rfl) rfl
theorem z_orders (h : R0 x m) : S0 (some (f_X_orders x)) (f_M_orders_N n m) := S0.r h (-1 : Int32) 1 (by decide) (by
    unfold f_X_orders; rw [h.1, if_pos rfl]; rfl) rfl
theorem z_slips (h : R0 x m) : S0 (some (f_X_slips x)) (f_M_slips_N m) := S0.r h (-1 : Int32) 1 (by decide) (by
    unfold f_X_slips; rw [h.nM, if_neg nk1, h.wM]; rfl) rfl
theorem z_meant (h : R0 x m) (x1 : Int32) : S0 (f_X_meant n x1 x) (f_M_meant_N x1 m) := S0.r h (-1 : Int32) 1 (by decide) (by
    unfold f_X_meant; rw [h.nM, if_neg nk1, h.wM]; rfl) rfl
theorem z_meanings (h : R0 x m) : S0 (some (f_X_meanings x)) (f_M_meanings_N m) := S0.r h (-1 : Int32) 1 (by decide) (by
    unfold f_X_meanings; rw [h.nM, if_neg nk1, h.wM]; rfl) rfl
theorem z_father (h : R0 x m) (x1 : Int32) (x2 : Int32) (x3 : Int32) (x4 : Int32) : S0 (some (f_X_father x1 x2 x3 x4 x)) (some (f_M_father_N x1 x2 x3 x4 m)) := S0.r h (-100 : Int32) 1 (by decide) (by
    unfold f_X_father; rw [h.wH x1, klt, if_neg (by decide)]; rfl) rfl
theorem z_rests (h : R0 x m) (x1 : Int32) : S0 (f_X_rests n x1 x) (f_M_rests_N n x1 m) := S0.r h (-1 : Int32) 1 (by decide) (by
    unfold f_X_rests; rw [h.wH x1, klt, if_neg (by decide)]; rfl) rfl
theorem z_rest (h : R0 x m) (x1 : Int32) : S0 (f_X_rest n x1 x) (f_M_rest_N n x1 m) := S0.r h (-1 : Int32) 1 (by decide) (by
    unfold f_X_rest; rw [h.wH x1, klt, if_neg (by decide)]; rfl) rfl
theorem z_tells (h : R0 x m) (x1 : Int32) (x2 : Int32) (x3 : Int32) : S0 (f_X_tells n x1 x2 x3 x) (f_M_tells_N n x1 x2 x3 m) := S0.r h (-1 : Int64) 1 (by decide) (by
    unfold f_X_tells; rw [h.wC x1, klt, if_neg (by decide)]; rfl) rfl
theorem z_mean (h : R0 x m) (x1 : Int32) (x2 : Int32) : S0 (f_X_mean n x1 x2 x) (f_M_mean_N n x1 x2 m) := S0.r h (-1 : Int64) 1 (by decide) (by
    unfold f_X_mean; rw [h.wC x1, klt, if_neg (by decide)]; rfl) rfl
theorem z_evenings (h : R0 x m) (x1 : Int32) (x2 : Int32) (x3 : Int32) : S0 (f_X_evenings n x1 x2 x3 x) (f_M_evenings_N x1 x2 x3 m) := S0.r h (-1 : Int32) 1 (by decide) (by
    unfold f_X_evenings; rw [h.nH x1, if_neg nk1]; rfl) rfl
theorem z_allSense (h : R0 x m) (x1 : Int32) (x2 : Int32) : S0 (f_X_allSense n x1 x2 x) (f_M_allSense_N x1 x2 m) := S0.r h (-1 : Int32) 1 (by decide) (by
    unfold f_X_allSense; rw [h.2.1 4 (by omega), if_pos rfl]; rfl) rfl
theorem z_tell (h : R0 x m) (x1 : Int32) (x2 : Int32) : S0 (f_X_tell x1 x2 x) (f_M_tell_N n x1 x2 m) := S0.r h (-1 : Int32) 1 (by decide) (by
    unfold f_X_tell; rw [h.nH x1, if_neg nk1]; rfl) rfl
theorem z_learn (h : R0 x m) (x1 : Int32) (x2 : Int32) : S0 (f_X_learn x1 x2 x) (f_M_learn_N n x1 x2 m) := S0.r h false 1 (by decide) (by
    unfold f_X_learn; rw [h.nH x1, if_neg nk1]; rfl) rfl
theorem z_forget (h : R0 x m) (x1 : Int32) (x2 : Int32) : S0 (f_X_forget x1 x2 x) (f_M_forget_N n x1 x2 m) := S0.r h false 1 (by decide) (by
    unfold f_X_forget; rw [h.nH x1, if_neg nk1]; rfl) rfl
theorem z_evening (h : R0 x m) (x1 : Int32) : S0 (f_X_evening n x1 x) (f_M_evening_N x1 m) := S0.r h (-1 : Int32) 1 (by decide) (by
    unfold f_X_evening; rw [h.nH x1, if_neg nk1]; rfl) rfl
theorem z_seed (h : R0 x m) (x1 : Int32) : S0 (some (f_X_seed x1 x)) (some (f_M_seed_N x1 m)) := S0.r h false 1 (by decide) (by
    unfold f_X_seed; rw [h.1, if_pos rfl]; rfl) rfl
theorem z_undo (h : R0 x m) : S0 (f_X_undo x) (some (f_M_undo_N m)) := S0.r h false 6 (by decide) (by
    unfold f_X_undo f_No_undoLatest; rw [h.2.2.2.1, if_neg (by decide), kcl, if_pos kbf]; rfl) rfl
theorem z_image (h : R0 x m) : S0 (f_X_image x) (some (f_M_image_N m)) := S0.r h (-1 : Int32) 1 (by decide) (by
    unfold f_X_image; rw [h.1, if_pos rfl]; rfl) rfl
theorem z_back (h : R0 x m) (x1 : Int32) : S0 (f_X_back x1 x) (some (f_M_back_N x1 m)) := S0.r h false 1 (by decide) (by
    have e : f_No_goBack x1 x = some (false, x) := by
      unfold f_No_goBack
      rw [h.2.2.2.2.1]
      by_cases e : x1 < 0
      · rw [if_pos e]
      · rw [if_neg e, if_neg e]
    unfold f_X_back; rw [e, kcl, if_pos kbf]; rfl) rfl
theorem z_size (h : R0 x m) (x1 : Int32) : S0 (some (f_X_size x x1, x)) (some (f_M_size_N x1 m)) := by
  have key : f_M_size_N x1 m = (f_X_size x x1, k_sI m 0 0 0) := by
    obtain ⟨k, k1, k2, k3⟩ := h.2.2.2.2.2.2.1
    have g : ∀ i, i < 8 → x.1 2 i = 0 := h.2.1
    rcases i_cases x1 with ⟨i, hi, rfl⟩ | no
    · have : i = 0 ∨ i = 1 ∨ i = 2 ∨ i = 3 ∨ i = 4 ∨ i = 5 ∨ i = 6 ∨ i = 7 ∨ i = 8 ∨ i = 9 ∨ i = 10 ∨ i = 11 := by omega
      rcases this with rfl | rfl | rfl | rfl | rfl | rfl | rfl | rfl | rfl | rfl | rfl | rfl
      · exact (congrArg (fun z => (z, k_sI m 0 0 0)) (g 0 (by omega))).symm
      · exact (congrArg (fun z => (z, k_sI m 0 0 0)) (g 1 (by omega))).symm
      · exact (congrArg (fun z => (z, k_sI m 0 0 0)) (g 2 (by omega))).symm
      · exact (congrArg (fun z => (z, k_sI m 0 0 0)) (g 3 (by omega))).symm
      · exact (congrArg (fun z => (z, k_sI m 0 0 0)) (g 4 (by omega))).symm
      · exact (congrArg (fun z => (z, k_sI m 0 0 0)) (g 5 (by omega))).symm
      · refine (congrArg (fun z => (z, k_sI m 0 0 0)) (?_ : f_In_bitCount_0f7a4 (x.1 2 6) = 0)).symm
        rw [g 6 (by omega)]
        exact bc8 0 (by omega)
      · exact (congrArg (fun z => (z, k_sI m 0 0 0)) (g 7 (by omega))).symm
      · exact (congrArg (fun z => (z, k_sI m 0 0 0)) h.2.2.1).symm
      · exact (congrArg (fun z => (z, k_sI m 0 0 0)) h.2.2.2.1).symm
      · exact (congrArg (fun z => (z, k_sI m 0 0 0)) h.2.2.2.2.1).symm
      · refine (congrArg (fun z => (z, k_sI m 0 0 0)) (?_ : x.1 0 11 = (k_sI m 0 0 0).1 0 6)).symm
        rw [sI1, if_neg (by omega), k2, k3]
    · unfold f_M_size_N f_X_size
      rw [klt, if_neg (show ¬ x1 = 11 from no 11 (by omega)), show f_M_in x1 0 10 = false from in_no (b := 10) (by omega) no, if_pos kbf, if_neg (show ¬ x1 = 0 from no 0 (by omega)), if_neg (show ¬ x1 = 1 from no 1 (by omega)), if_neg (show ¬ x1 = 2 from no 2 (by omega)), if_neg (show ¬ x1 = 3 from no 3 (by omega)), if_neg (show ¬ x1 = 4 from no 4 (by omega)), if_neg (show ¬ x1 = 5 from no 5 (by omega)), if_neg (show ¬ x1 = 6 from no 6 (by omega)), if_neg (show ¬ x1 = 7 from no 7 (by omega)), if_neg (show ¬ x1 = 8 from no 8 (by omega)), if_neg (show ¬ x1 = 9 from no 9 (by omega)), if_neg (show ¬ x1 = 10 from no 10 (by omega)), if_neg (show ¬ x1 = 11 from no 11 (by omega))]
  rw [key]
  exact S0.th h _
end
/-! ===== with a terrace: each call ===== -/
section
variable {T : t_D} {v : nv} {K I : List nv} {x m : k_St} {n : Nat}
theorem s_piece (h : R1 T v K I x m) (hn : big n) (x1 : Int32) (x2 : Int32) : S1 (f_X_piece n x1 x2 x) (f_M_piece n x1 x2 m) := h.q2 (e_piece h.1.XB h.1.MB hn x1 x2)
theorem s_house (h : R1 T v K I x m) (hn : big n) (x1 : Int32) (x2 : Int32) : S1 (f_X_house n x1 x2 x) (f_M_house n x1 x2 m) := h.q2 (e_house h.1.XB h.1.MB hn x1 x2)
theorem s_known (h : R1 T v K I x m) (hn : big n) : S1 (f_X_known n x) (f_M_known n m) := h.q2 (e_known h.1.XB h.1.MB hn)
theorem s_alone (h : R1 T v K I x m) (hn : big n) (x1 : Int32) : S1 (f_X_alone n x1 x) (f_M_alone n x1 m) := h.q2 (e_alone h.1.XB h.1.MB hn x1)
theorem s_tales (h : R1 T v K I x m) (hn : big n) (x1 : Int32) : S1 (f_X_tales n x1 x) (f_M_tales n x1 m) := h.q2 (e_tales h.1.XB h.1.MB hn x1)
theorem s_longest (h : R1 T v K I x m) (hn : big n) (x1 : Int32) : S1 (f_X_longest n x1 x) (f_M_longest n x1 m) := h.q2 (e_longest h.1.XB h.1.MB hn x1)
theorem s_longestAt (h : R1 T v K I x m) (hn : big n) (x1 : Int32) (x2 : Int32) : S1 (f_X_longestAt n x1 x2 x) (f_M_longestAt n x1 x2 m) := h.q2 (e_longestAt h.1.XB h.1.MB hn x1 x2)
theorem s_taleAt (h : R1 T v K I x m) (hn : big n) (x1 : Int32) (x2 : Int32) (x3 : Int32) : S1 (f_X_taleAt n x1 x2 x3 x) (f_M_taleAt n x1 x2 x3 m) := h.q2 (e_taleAt h.1.XB h.1.MB hn x1 x2 x3)
theorem s_used (h : R1 T v K I x m) (hn : big n) (x1 : Int32) : S1 (f_X_used n x1 x) (f_M_used n x1 m) := h.q2 (e_used h.1.XB h.1.MB hn x1)
theorem s_needed (h : R1 T v K I x m) (hn : big n) (x1 : Int32) : S1 (f_X_needed n x1 x) (f_M_needed n x1 m) := h.q2 (e_needed h.1.XB h.1.MB hn x1)
theorem s_leftOver (h : R1 T v K I x m) (hn : big n) (x1 : Int32) : S1 (f_X_leftOver n x1 x) (f_M_leftOver n x1 m) := h.q2 (e_leftOver h.1.XB h.1.MB hn x1)
theorem s_isTale (h : R1 T v K I x m) (hn : big n) (x1 : Int32) : S1 (f_X_isTale n x1 x) (f_M_isTale n x1 m) := h.q2 (e_isTale h.1.XB h.1.MB hn x1)
theorem s_talesOf (h : R1 T v K I x m) (hn : big n) (x1 : Int32) : S1 (f_X_talesOf n x1 x) (f_M_talesOf n x1 m) := h.q2 (e_talesOf h.1.XB h.1.MB hn x1)
theorem s_wanted (h : R1 T v K I x m) (hn : big n) (x1 : Int32) : S1 (f_X_wanted n x1 x) (f_M_wanted n x1 m) := h.q2 (e_wanted h.1.XB h.1.MB hn x1)
theorem s_ask (h : R1 T v K I x m) (hn : big n) (x1 : Int32) : S1 (f_X_ask n x1 x) (f_M_ask n x1 m) := h.q2 (e_ask h.1.XB h.1.MB hn x1)
theorem s_askAll (h : R1 T v K I x m) (hn : big n) (x1 : Int32) : S1 (f_X_askAll n x1 x) (f_M_askAll n x1 m) := h.q2 (e_askAll h.1.XB h.1.MB hn x1)
theorem s_sense (h : R1 T v K I x m) (hn : big n) : S1 (f_X_sense n x) (f_M_sense n m) := h.q2 (e_sense h.1.XB h.1.MB hn)
theorem s_wisest (h : R1 T v K I x m) (hn : big n) : S1 (f_X_wisest n x) (f_M_wisest n m) := h.q2 (e_wisest h.1.XB h.1.MB hn)
theorem s_soonest (h : R1 T v K I x m) (hn : big n) : S1 (f_X_soonest n x) (f_M_soonest n m) := h.q2 (e_soonest h.1.XB h.2.2.2.1 h.1.MB hn)
theorem s_meets (h : R1 T v K I x m) (hn : big n) (x1 : Int32) (x2 : Int32) : S1 (f_X_meets n x1 x2 x) (f_M_meets n x1 x2 m) := h.q2 (e_meets h.1.XB h.2.2.2.1 h.1.MB hn x1 x2)
theorem s_mostBehind (h : R1 T v K I x m) (hn : big n) (x1 : Int32) : S1 (f_X_mostBehind n x1 x) (f_M_mostBehind n x1 m) := h.q2 (e_mostBehind h.1.XB h.2.2.2.1 h.1.MB hn x1)
theorem s_walks (h : R1 T v K I x m) (hn : big n) : S1 (some (f_X_walks x)) (f_M_walks n m) := h.q2 (e_walks h.1.XB h.2.2.1 h.1.MB hn)
theorem s_visit (h : R1 T v K I x m) (hn : big n) (x1 : Int32) : S1 (f_X_visit x1 x) (f_M_visit n x1 m) := h.q2 (e_visit h.1.XB h.2.2.1 h.1.MB hn x1)
theorem s_hourOf (h : R1 T v K I x m) (hn : big n) (x1 : Int32) : S1 (f_X_hourOf x1 x) (f_M_hourOf n x1 m) := h.q2 (e_hourOf h.1.XB h.2.2.1 h.1.MB hn x1)
theorem s_orders (h : R1 T v K I x m) (hn : big n) : S1 (some (f_X_orders x)) (f_M_orders n m) := h.q2 (e_orders h.1.XB h.2.2.1 h.1.MB hn)
theorem s_slips (h : R1 T v K I x m) (hn : big n) : S1 (some (f_X_slips x)) (f_M_slips n m) := h.q2 (e_slips h.1.XB h.2.1 h.1.MB hn)
theorem s_meant (h : R1 T v K I x m) (hn : big n) (x1 : Int32) : S1 (f_X_meant n x1 x) (f_M_meant n x1 m) := h.q2 (e_meant h.1.XB h.2.1 h.1.MB hn x1)
theorem s_meanings (h : R1 T v K I x m) (hn : big n) : S1 (some (f_X_meanings x)) (f_M_meanings n m) := h.q2 (e_meanings h.1.XB h.2.1 h.1.MB hn)
theorem s_father (h : R1 T v K I x m) (hn : big n) (x1 : Int32) (x2 : Int32) (x3 : Int32) (x4 : Int32) : S1 (some (f_X_father x1 x2 x3 x4 x)) (some (f_M_father x1 x2 x3 x4 m)) := h.q2 (e_father h.1.2.2.2.1 x1 x2 x3 x4)
theorem s_rests (h : R1 T v K I x m) (hn : big n) (x1 : Int32) : S1 (f_X_rests n x1 x) (f_M_rests n x1 m) := h.q2 (e_rests h.1.2.2.2.1 hn x1)
theorem s_rest (h : R1 T v K I x m) (hn : big n) (x1 : Int32) : S1 (f_X_rest n x1 x) (f_M_rest n x1 m) := h.q2 (e_rest h.1.2.2.2.1 hn x1)
theorem s_tells (h : R1 T v K I x m) (hn : big n) (x1 : Int32) (x2 : Int32) (x3 : Int32) : S1 (f_X_tells n x1 x2 x3 x) (f_M_tells n x1 x2 x3 m) := h.q2 (e_tells h.1.XB h.1.MB hn x1 x2 x3)
theorem s_mean (h : R1 T v K I x m) (hn : big n) (x1 : Int32) (x2 : Int32) : S1 (f_X_mean n x1 x2 x) (f_M_mean n x1 x2 m) := h.q2 (e_mean h.1.XB h.1.MB hn x1 x2)
theorem s_evenings (h : R1 T v K I x m) (hn : big n) (x1 : Int32) (x2 : Int32) (x3 : Int32) : S1 (f_X_evenings n x1 x2 x3 x) (f_M_evenings n x1 x2 x3 m) := h.q2 (e_evenings h.1.XB h.1.MB hn x1 x2 x3)
theorem s_allSense (h : R1 T v K I x m) (hn : big n) (x1 : Int32) (x2 : Int32) : S1 (f_X_allSense n x1 x2 x) (f_M_allSense n x1 x2 m) := h.q2 (e_allSense h.1.XB h.1.MB hn x1 x2)
theorem s_tell (h : R1 T v K I x m) (hn : big n) (x1 : Int32) (x2 : Int32) : S1 (f_X_tell x1 x2 x) (f_M_tell n x1 x2 m) := h.q3 (e_tell h.1 hn x1 x2)
theorem s_learn (h : R1 T v K I x m) (hn : big n) (x1 : Int32) (x2 : Int32) : S1 (f_X_learn x1 x2 x) (f_M_learn n x1 x2 m) := h.q3 (e_learn h.1 hn x1 x2)
theorem s_forget (h : R1 T v K I x m) (hn : big n) (x1 : Int32) (x2 : Int32) : S1 (f_X_forget x1 x2 x) (f_M_forget n x1 x2 m) := h.q3 (e_forget h.1 hn x1 x2)
theorem s_evening (h : R1 T v K I x m) (hn : big n) (x1 : Int32) : S1 (f_X_evening n x1 x) (f_M_evening n x1 m) := h.q3 (e_evening h.1 hn x1)
theorem s_seed (h : R1 T v K I x m) (hn : big n) (x1 : Int32) : S1 (some (f_X_seed x1 x)) (f_M_seed x1 m) := h.q3 (e_seed h.1 x1)
theorem s_undo (h : R1 T v K I x m) (hn : big n) : S1 (f_X_undo x) (f_M_undo n m) := h.q3 (e_undo h.1 hn)
theorem s_image (h : R1 T v K I x m) (hn : big n) : S1 (f_X_image x) (f_M_image n m) := h.q3 (e_image h.1 hn)
theorem s_back (h : R1 T v K I x m) (hn : big n) (x1 : Int32) : S1 (f_X_back x1 x) (f_M_back n x1 m) := h.q3 (e_back h.1 hn x1)
theorem s_size (h : R1 T v K I x m) (hn : big n) (x1 : Int32) : S1 (some (f_X_size x x1, x)) (f_M_size n x1 m) := by
  have key : f_M_size n x1 m = some (f_X_size x x1, k_sI m 0 0 0) := by
    obtain ⟨k, k1, k2, k3⟩ := h.2.2.2.2.2.1
    have w := h.1.1
    have hX := h.1.2.1
    have hN := h.1.2.2.2.2.1
    have g := h.1.2.2.2.2.2.1
    have hM := h.1.2.2.2.2.2.2
    have s6 : T 0 6 < 256 := by
      have h4 := w.2.2.2.2.1
      have := w.2.2.2.2.2.2.1
      have : 2 ^ T 0 4 ≤ 2 ^ 5 := Nat.pow_le_pow_right (n := 2) (by omega) h4
      omega
    have gg : ∀ i, i < 8 → x.1 2 i = (k_sI m 0 0 0).1 18 i := fun i hi => by rw [sI1, if_neg (by omega), hX.1 i hi, g.1 i hi]
    rcases i_cases x1 with ⟨i, hi, rfl⟩ | no
    · have : i = 0 ∨ i = 1 ∨ i = 2 ∨ i = 3 ∨ i = 4 ∨ i = 5 ∨ i = 6 ∨ i = 7 ∨ i = 8 ∨ i = 9 ∨ i = 10 ∨ i = 11 := by omega
      rcases this with rfl | rfl | rfl | rfl | rfl | rfl | rfl | rfl | rfl | rfl | rfl | rfl
      · exact (congrArg (fun z => some (z, k_sI m 0 0 0)) (gg 0 (by omega))).symm
      · exact (congrArg (fun z => some (z, k_sI m 0 0 0)) (gg 1 (by omega))).symm
      · exact (congrArg (fun z => some (z, k_sI m 0 0 0)) (gg 2 (by omega))).symm
      · exact (congrArg (fun z => some (z, k_sI m 0 0 0)) (gg 3 (by omega))).symm
      · exact (congrArg (fun z => some (z, k_sI m 0 0 0)) (gg 4 (by omega))).symm
      · exact (congrArg (fun z => some (z, k_sI m 0 0 0)) (gg 5 (by omega))).symm
      · have e1 : f_M_size n (nI 6) m = k_cp (f_M_bits n ((k_sI m 0 0 0).1 18 6)) (fun r_2 => some (r_2, k_sI m 0 0 0)) := rfl
        have e2 : f_X_size x (nI 6) = f_In_bitCount_0f7a4 (x.1 2 6) := rfl
        rw [e1, e2, ← gg 6 (by omega), hX.1 6 (by omega), fMbits (by omega) s6, kcp, bc8 _ s6]
      · exact (congrArg (fun z => some (z, k_sI m 0 0 0)) (gg 7 (by omega))).symm
      · have e1 : f_M_size n (nI 8) m = k_gi (5 : Int32) 6 (some ((k_sI m 0 0 0).1 2 5, k_sI m 0 0 0)) := rfl
        have e2 : f_X_size x (nI 8) = x.1 34 1 := rfl
        rw [e1, e2, kgi (kin_lit (x := 5) (i := 5) rfl (by omega) (by decide)), hN.1.2.1, sI1, if_neg (by omega), hM.1 5 (by omega)]
      · refine (congrArg (fun z => some (z, k_sI m 0 0 0)) (?_ : x.1 34 2 = (k_sI m 0 0 0).1 0 19)).symm
        rw [sI1, if_neg (by omega), hN.2.1.1, hM.2.1.1]
      · refine (congrArg (fun z => some (z, k_sI m 0 0 0)) (?_ : x.1 34 3 = (k_sI m 0 0 0).1 0 20)).symm
        rw [sI1, if_neg (by omega), hN.2.2.1, hM.2.2.1]
      · refine (congrArg (fun z => some (z, k_sI m 0 0 0)) (?_ : x.1 0 11 = (k_sI m 0 0 0).1 0 6)).symm
        rw [sI1, if_neg (by omega), k2, k3]
    · unfold f_M_size f_X_size
      rw [klt, if_neg (show ¬ x1 = 11 from no 11 (by omega)), show f_M_in x1 0 10 = false from in_no (b := 10) (by omega) no, if_pos kbf, if_neg (show ¬ x1 = 0 from no 0 (by omega)), if_neg (show ¬ x1 = 1 from no 1 (by omega)), if_neg (show ¬ x1 = 2 from no 2 (by omega)), if_neg (show ¬ x1 = 3 from no 3 (by omega)), if_neg (show ¬ x1 = 4 from no 4 (by omega)), if_neg (show ¬ x1 = 5 from no 5 (by omega)), if_neg (show ¬ x1 = 6 from no 6 (by omega)), if_neg (show ¬ x1 = 7 from no 7 (by omega)), if_neg (show ¬ x1 = 8 from no 8 (by omega)), if_neg (show ¬ x1 = 9 from no 9 (by omega)), if_neg (show ¬ x1 = 10 from no 10 (by omega)), if_neg (show ¬ x1 = 11 from no 11 (by omega))]
  rw [key]
  exact S1.th h _
end
