theorem dJ0_coder_7d493_0 : decode cJ0_coder_7d493 0 = .ok (.getstatic 38, 3) := by decide +kernel
theorem dJ0_coder_7d493_3 : decode cJ0_coder_7d493 3 = .ok (.ifCond .eq 10, 3) := by decide +kernel
theorem dJ0_coder_7d493_6 : decode cJ0_coder_7d493 6 = .ok (.aload_n 0, 1) := by decide +kernel
theorem dJ0_coder_7d493_7 : decode cJ0_coder_7d493 7 = .ok (.getfield 15, 3) := by decide +kernel
theorem dJ0_coder_7d493_10 : decode cJ0_coder_7d493 10 = .ok (.goto 4, 3) := by decide +kernel
theorem dJ0_coder_7d493_13 : decode cJ0_coder_7d493 13 = .ok (.iconst 1, 1) := by decide +kernel
theorem dJ0_coder_7d493_14 : decode cJ0_coder_7d493 14 = .ok (.ireturn, 1) := by decide +kernel
theorem dJ0_isLatin1_aae02_0 : decode cJ0_isLatin1_aae02 0 = .ok (.getstatic 38, 3) := by decide +kernel
theorem dJ0_isLatin1_aae02_3 : decode cJ0_isLatin1_aae02 3 = .ok (.ifCond .eq 14, 3) := by decide +kernel
theorem dJ0_isLatin1_aae02_6 : decode cJ0_isLatin1_aae02 6 = .ok (.aload_n 0, 1) := by decide +kernel
theorem dJ0_isLatin1_aae02_7 : decode cJ0_isLatin1_aae02 7 = .ok (.getfield 15, 3) := by decide +kernel
theorem dJ0_isLatin1_aae02_10 : decode cJ0_isLatin1_aae02 10 = .ok (.ifCond .ne 7, 3) := by decide +kernel
theorem dJ0_isLatin1_aae02_13 : decode cJ0_isLatin1_aae02 13 = .ok (.iconst 1, 1) := by decide +kernel
theorem dJ0_isLatin1_aae02_14 : decode cJ0_isLatin1_aae02 14 = .ok (.goto 4, 3) := by decide +kernel
theorem dJ0_isLatin1_aae02_17 : decode cJ0_isLatin1_aae02 17 = .ok (.iconst 0, 1) := by decide +kernel
theorem dJ0_isLatin1_aae02_18 : decode cJ0_isLatin1_aae02 18 = .ok (.ireturn, 1) := by decide +kernel
theorem dJ0_length_8abf5_0 : decode cJ0_length_8abf5 0 = .ok (.aload_n 0, 1) := by decide +kernel
theorem dJ0_length_8abf5_1 : decode cJ0_length_8abf5 1 = .ok (.getfield 9, 3) := by decide +kernel
theorem dJ0_length_8abf5_4 : decode cJ0_length_8abf5 4 = .ok (.arraylength, 1) := by decide +kernel
theorem dJ0_length_8abf5_5 : decode cJ0_length_8abf5 5 = .ok (.aload_n 0, 1) := by decide +kernel
theorem dJ0_length_8abf5_6 : decode cJ0_length_8abf5 6 = .ok (.invokevirtual 335, 3) := by decide +kernel
theorem dJ0_length_8abf5_9 : decode cJ0_length_8abf5 9 = .ok (.ishr, 1) := by decide +kernel
theorem dJ0_length_8abf5_10 : decode cJ0_length_8abf5 10 = .ok (.ireturn, 1) := by decide +kernel
theorem dJ0_charAt_5068e_0 : decode cJ0_charAt_5068e 0 = .ok (.aload_n 0, 1) := by decide +kernel
theorem dJ0_charAt_5068e_1 : decode cJ0_charAt_5068e 1 = .ok (.invokevirtual 492, 3) := by decide +kernel
theorem dJ0_charAt_5068e_4 : decode cJ0_charAt_5068e 4 = .ok (.ifCond .eq 12, 3) := by decide +kernel
theorem dJ0_charAt_5068e_7 : decode cJ0_charAt_5068e 7 = .ok (.aload_n 0, 1) := by decide +kernel
theorem dJ0_charAt_5068e_8 : decode cJ0_charAt_5068e 8 = .ok (.getfield 9, 3) := by decide +kernel
theorem dJ0_charAt_5068e_11 : decode cJ0_charAt_5068e 11 = .ok (.iload_n 1, 1) := by decide +kernel
theorem dJ0_charAt_5068e_12 : decode cJ0_charAt_5068e 12 = .ok (.invokestatic 495, 3) := by decide +kernel
theorem dJ0_charAt_5068e_15 : decode cJ0_charAt_5068e 15 = .ok (.ireturn, 1) := by decide +kernel
theorem dJ0_charAt_5068e_16 : decode cJ0_charAt_5068e 16 = .ok (.aload_n 0, 1) := by decide +kernel
theorem dJ0_charAt_5068e_17 : decode cJ0_charAt_5068e 17 = .ok (.getfield 9, 3) := by decide +kernel
theorem dJ0_charAt_5068e_20 : decode cJ0_charAt_5068e 20 = .ok (.iload_n 1, 1) := by decide +kernel
theorem dJ0_charAt_5068e_21 : decode cJ0_charAt_5068e 21 = .ok (.invokestatic 498, 3) := by decide +kernel
theorem dJ0_charAt_5068e_24 : decode cJ0_charAt_5068e 24 = .ok (.ireturn, 1) := by decide +kernel
theorem dJ0_checkIndex_df160_0 : decode cJ0_checkIndex_df160 0 = .ok (.iload_n 0, 1) := by decide +kernel
theorem dJ0_checkIndex_df160_1 : decode cJ0_checkIndex_df160 1 = .ok (.iload_n 1, 1) := by decide +kernel
theorem dJ0_checkIndex_df160_2 : decode cJ0_checkIndex_df160 2 = .ok (.getstatic 1053, 3) := by decide +kernel
theorem dJ0_checkIndex_df160_5 : decode cJ0_checkIndex_df160 5 = .ok (.invokestatic 1059, 3) := by decide +kernel
theorem dJ0_checkIndex_df160_8 : decode cJ0_checkIndex_df160 8 = .ok (.pop, 1) := by decide +kernel
theorem dJ0_checkIndex_df160_9 : decode cJ0_checkIndex_df160 9 = .ok (.return_, 1) := by decide +kernel
theorem dJ1_charAt_3b067_0 : decode cJ1_charAt_3b067 0 = .ok (.iload_n 1, 1) := by decide +kernel
theorem dJ1_charAt_3b067_1 : decode cJ1_charAt_3b067 1 = .ok (.aload_n 0, 1) := by decide +kernel
theorem dJ1_charAt_3b067_2 : decode cJ1_charAt_3b067 2 = .ok (.arraylength, 1) := by decide +kernel
theorem dJ1_charAt_3b067_3 : decode cJ1_charAt_3b067 3 = .ok (.invokestatic 9, 3) := by decide +kernel
theorem dJ1_charAt_3b067_6 : decode cJ1_charAt_3b067 6 = .ok (.aload_n 0, 1) := by decide +kernel
theorem dJ1_charAt_3b067_7 : decode cJ1_charAt_3b067 7 = .ok (.iload_n 1, 1) := by decide +kernel
theorem dJ1_charAt_3b067_8 : decode cJ1_charAt_3b067 8 = .ok (.baload, 1) := by decide +kernel
theorem dJ1_charAt_3b067_9 : decode cJ1_charAt_3b067 9 = .ok (.sipush 255, 3) := by decide +kernel
theorem dJ1_charAt_3b067_12 : decode cJ1_charAt_3b067 12 = .ok (.iand, 1) := by decide +kernel
theorem dJ1_charAt_3b067_13 : decode cJ1_charAt_3b067 13 = .ok (.i2c, 1) := by decide +kernel
theorem dJ1_charAt_3b067_14 : decode cJ1_charAt_3b067 14 = .ok (.ireturn, 1) := by decide +kernel
theorem dJ3_checkIndex_8e157_0 : decode cJ3_checkIndex_8e157 0 = .ok (.iload_n 0, 1) := by decide +kernel
theorem dJ3_checkIndex_8e157_1 : decode cJ3_checkIndex_8e157 1 = .ok (.ifCond .lt 8, 3) := by decide +kernel
theorem dJ3_checkIndex_8e157_4 : decode cJ3_checkIndex_8e157 4 = .ok (.iload_n 0, 1) := by decide +kernel
theorem dJ3_checkIndex_8e157_5 : decode cJ3_checkIndex_8e157 5 = .ok (.iload_n 1, 1) := by decide +kernel
theorem dJ3_checkIndex_8e157_6 : decode cJ3_checkIndex_8e157 6 = .ok (.if_icmp .lt 10, 3) := by decide +kernel
theorem dJ3_checkIndex_8e157_9 : decode cJ3_checkIndex_8e157 9 = .ok (.aload_n 2, 1) := by decide +kernel
theorem dJ3_checkIndex_8e157_10 : decode cJ3_checkIndex_8e157 10 = .ok (.iload_n 0, 1) := by decide +kernel
theorem dJ3_checkIndex_8e157_11 : decode cJ3_checkIndex_8e157 11 = .ok (.iload_n 1, 1) := by decide +kernel
theorem dJ3_checkIndex_8e157_12 : decode cJ3_checkIndex_8e157 12 = .ok (.invokestatic 95, 3) := by decide +kernel
theorem dJ3_checkIndex_8e157_15 : decode cJ3_checkIndex_8e157 15 = .ok (.athrow, 1) := by decide +kernel
theorem dJ3_checkIndex_8e157_16 : decode cJ3_checkIndex_8e157 16 = .ok (.iload_n 0, 1) := by decide +kernel
theorem dJ3_checkIndex_8e157_17 : decode cJ3_checkIndex_8e157 17 = .ok (.ireturn, 1) := by decide +kernel
theorem m_Sc (l : Launch) (G : k_G) (w : va_W) {q : Nat} (hq : q < 16) : k_CI l G yJ0_coder_7d493 cJ0_coder_7d493 1 (some .byte) 1 w [.ref (G.2.2.1 q)] 0 w := by
  refine k_startI (lv := [(0, .ref (G.2.2.1 q))]) (by decide +kernel) (Nat.le_of_ble_eq_true rfl) rfl ?_
  intro p e s m args below meth c hA hr
  have hA : k_Amb p s m args meth c cJ0_coder_7d493 1 "java/lang/String" G _ := hA
  refine k_gtCS hA wd_531 dJ0_coder_7d493_0 ?_
  refine k_if_eq (tgt := 13) hA dJ0_coder_7d493_3 rfl (fun hc => absurd hc (by decide)) (fun hc => ?_)
  refine k_aload_n (i := 0) hA dJ0_coder_7d493_6 rfl 0 rfl ?_
  refine k_gtCo hA hq wd_2007 dJ0_coder_7d493_7 ?_
  refine k_goto (tgt := 14) hA dJ0_coder_7d493_10 rfl ?_
  exact k_iret hA hr rfl dJ0_coder_7d493_14
theorem m_Sl1 (l : Launch) (G : k_G) (w : va_W) {q : Nat} (hq : q < 16) : k_CI l G yJ0_isLatin1_aae02 cJ0_isLatin1_aae02 1 (some .boolean) 1 w [.ref (G.2.2.1 q)] 1 w := by
  refine k_startI (lv := [(0, .ref (G.2.2.1 q))]) (by decide +kernel) (Nat.le_of_ble_eq_true rfl) rfl ?_
  intro p e s m args below meth c hA hr
  have hA : k_Amb p s m args meth c cJ0_isLatin1_aae02 1 "java/lang/String" G _ := hA
  refine k_gtCS hA wd_531 dJ0_isLatin1_aae02_0 ?_
  refine k_if_eq (tgt := 17) hA dJ0_isLatin1_aae02_3 rfl (fun hc => absurd hc (by decide)) (fun hc => ?_)
  refine k_aload_n (i := 0) hA dJ0_isLatin1_aae02_6 rfl 0 rfl ?_
  refine k_gtCo hA hq wd_2007 dJ0_isLatin1_aae02_7 ?_
  refine k_if_ne (tgt := 17) hA dJ0_isLatin1_aae02_10 rfl (fun hc => absurd rfl hc) (fun hc => ?_)
  refine k_iconst hA dJ0_isLatin1_aae02_13 kc_i_1 ?_
  refine k_goto (tgt := 18) hA dJ0_isLatin1_aae02_14 rfl ?_
  exact k_iret hA hr rfl dJ0_isLatin1_aae02_18
theorem m_Sln (l : Launch) (G : k_G) (w : va_W) {q : Nat} (hq : q < 16) : k_CI l G yJ0_length_8abf5 cJ0_length_8abf5 1 (some .int) 2 w [.ref (G.2.2.1 q)] (k_slen q) w := by
  refine k_startI (lv := [(0, .ref (G.2.2.1 q))]) (by decide +kernel) (Nat.le_of_ble_eq_true rfl) rfl ?_
  intro p e s m args below meth c hA hr
  have hA : k_Amb p s m args meth c cJ0_length_8abf5 1 "java/lang/String" G _ := hA
  refine k_aload_n (i := 0) hA dJ0_length_8abf5_0 rfl 0 rfl ?_
  refine k_gtVa hA hq wd_2006 dJ0_length_8abf5_1 ?_
  refine k_tlen hA hq dJ0_length_8abf5_4 ?_
  refine k_aload_n (i := 0) hA dJ0_length_8abf5_5 rfl 0 rfl ?_
  refine k_callTi (As := []) (rest := [.int (k_slen q)]) hA (m_Sc l G w hq) cd_J0_coder_7d493 wd_527 hq rfl (Nat.le_of_ble_eq_true rfl) rfl rfl (Nat.le_of_ble_eq_true rfl) dJ0_length_8abf5_6 ?_
  refine k_ishr hA dJ0_length_8abf5_9 ?_
  have e0 : k_slen q >>> ((0 : Int32) &&& 31) = k_slen q := sb_shr0 _
  rw [e0]
  exact k_iret hA hr rfl dJ0_length_8abf5_10
theorem m_Spc (l : Launch) (G : k_G) (w : va_W) {i n : Int32} {v : Value} (hv : v = .null ∨ ∃ q, v = .ref q) (h0 : ¬ i < 0) (h1 : i < n) : k_CI l G yJ3_checkIndex_8e157 cJ3_checkIndex_8e157 3 (some .int) 1 w [.int i, .int n, v] i w := by
  refine k_startI (lv := (lv_args 0 [.int i, .int n, v])) (by decide +kernel) (by rcases hv with rfl | ⟨q, rfl⟩ <;> exact Nat.le_of_ble_eq_true rfl) rfl ?_
  intro p e s m args below meth c hA hr
  have hA : k_Amb p s m args meth c cJ3_checkIndex_8e157 3 "jdk/internal/util/Preconditions" G _ := hA
  refine k_pick (lv' := [(0, .int i), (1, .int n)]) [0, 1] (by rcases hv with rfl | ⟨q, rfl⟩ <;> rfl) ?_
  refine k_iload_n (i := 0) hA dJ3_checkIndex_8e157_0 rfl 0 rfl ?_
  refine k_if_lt (tgt := 9) hA dJ3_checkIndex_8e157_1 rfl (fun hc => absurd hc h0) (fun hc => ?_)
  refine k_iload_n (i := 0) hA dJ3_checkIndex_8e157_4 rfl 0 rfl ?_
  refine k_iload_n (i := 1) hA dJ3_checkIndex_8e157_5 rfl 1 rfl ?_
  refine k_icmp_lt (tgt := 16) hA dJ3_checkIndex_8e157_6 rfl (fun hc => ?_) (fun hc => absurd h1 hc)
  refine k_iload_n (i := 0) hA dJ3_checkIndex_8e157_16 rfl 0 rfl ?_
  exact k_iret hA hr rfl dJ3_checkIndex_8e157_17
theorem m_Sck (l : Launch) (G : k_G) (w : va_W) {i n : Int32} (h0 : ¬ i < 0) (h1 : i < n) : k_CV l G yJ0_checkIndex_df160 cJ0_checkIndex_df160 2 none 2 w [.int i, .int n] w := by
  refine k_startV (lv := [(0, .int i), (1, .int n)]) (by decide +kernel) (Nat.le_of_ble_eq_true rfl) rfl ?_
  intro p e s m args below meth c hA hr
  have hA : k_Amb p s m args meth c cJ0_checkIndex_df160 2 "java/lang/String" G _ := hA
  refine k_iload_n (i := 0) hA dJ0_checkIndex_df160_0 rfl 0 rfl ?_
  refine k_iload_n (i := 1) hA dJ0_checkIndex_df160_1 rfl 1 rfl ?_
  refine k_gtSF hA wd_547 dJ0_checkIndex_df160_2 (fun v hc1 hv => ?_)
  refine k_callSi (As := [.int i, .int n, v]) (rest := []) hA (m_Spc l G w hv h0 h1) cd_J3_checkIndex_8e157 wd_549 (Nat.le_of_ble_eq_true rfl) rfl rfl (Nat.le_of_ble_eq_true rfl) dJ0_checkIndex_df160_5 ?_
  refine k_pop hA dJ0_checkIndex_df160_8 rfl ?_
  exact k_vret hA hr dJ0_checkIndex_df160_9
theorem k_inS {i : Int32} {n : Nat} (hn : n < 2 ^ 31) (h : k_in i n) : ¬ i < 0 ∧ i < Int32.ofNat n := by
  obtain ⟨j, hj, rfl⟩ := vp_in_of h hn
  exact ⟨nI_pos (by omega), nI_lt hj hn⟩
theorem k_len31 : ∀ q, q < 16 → k_len.getD q 0 < 2 ^ 31 := by decide
theorem k_schc : ∀ q, q < 16 → ∀ j, j < k_len.getD q 0 → ((((k_byt.getD q []).getD j 0) &&& (255 : Int32)).toUInt32 % 65536).toInt32 = (k_byt.getD q []).getD j 0 := by decide +kernel
theorem k_schc2 : ∀ q, q < 16 → ∀ j, j < k_len.getD q 0 → narrow .char (.int ((k_byt.getD q []).getD j 0)) = .int ((k_byt.getD q []).getD j 0) := by decide +kernel
theorem m_Slc (l : Launch) (G : k_G) (w : va_W) {q : Nat} (hq : q < 16) {i : Int32} (hi : k_in i (k_len.getD q 0)) : k_CI l G yJ1_charAt_3b067 cJ1_charAt_3b067 2 (some .char) 3 w [.ref (G.2.2.2 q), .int i] (k_sch q i) w := by
  obtain ⟨h0, h1⟩ := k_inS (k_len31 q hq) hi
  refine k_startI (lv := [(0, .ref (G.2.2.2 q)), (1, .int i)]) (by decide +kernel) (Nat.le_of_ble_eq_true rfl) rfl ?_
  intro p e s m args below meth c hA hr
  have hA : k_Amb p s m args meth c cJ1_charAt_3b067 2 "java/lang/StringLatin1" G _ := hA
  refine k_iload_n (i := 1) hA dJ1_charAt_3b067_0 rfl 1 rfl ?_
  refine k_aload_n (i := 0) hA dJ1_charAt_3b067_1 rfl 0 rfl ?_
  refine k_tlen hA hq dJ1_charAt_3b067_2 ?_
  refine k_callSv (As := [.int i, .int (k_slen q)]) (rest := []) hA (m_Sck l G w h0 h1) cd_J0_checkIndex_df160 wd_544 (Nat.le_of_ble_eq_true rfl) rfl rfl (Nat.le_of_ble_eq_true rfl) dJ1_charAt_3b067_3 ?_
  refine k_aload_n (i := 0) hA dJ1_charAt_3b067_6 rfl 0 rfl ?_
  refine k_iload_n (i := 1) hA dJ1_charAt_3b067_7 rfl 1 rfl ?_
  refine k_tbld hA hq hi dJ1_charAt_3b067_8 ?_
  refine k_sipush hA dJ1_charAt_3b067_9 kc_s_255 ?_
  refine k_iand hA dJ1_charAt_3b067_12 ?_
  refine k_i2c hA dJ1_charAt_3b067_13 ?_
  have hj : i.toNatClampNeg < k_len.getD q 0 := by
    obtain ⟨j, hj, rfl⟩ := vp_in_of hi (k_len31 q hq)
    have := k_len31 q hq
    rw [nI_clamp (by omega)]; exact hj
  have e1 : ((k_sch q i &&& (255 : Int32)).toUInt32 % 65536).toInt32 = k_sch q i := k_schc q hq _ hj
  rw [e1]
  exact k_iret hA hr (k_schc2 q hq _ hj) dJ1_charAt_3b067_14
theorem m_Sch (l : Launch) (G : k_G) (w : va_W) {q : Nat} (hq : q < 16) {i : Int32} (hi : k_in i (k_len.getD q 0)) : k_CI l G yJ0_charAt_5068e cJ0_charAt_5068e 2 (some .char) 4 w [.ref (G.2.2.1 q), .int i] (k_sch q i) w := by
  have hj : i.toNatClampNeg < k_len.getD q 0 := by
    obtain ⟨j, hj, rfl⟩ := vp_in_of hi (k_len31 q hq)
    have := k_len31 q hq
    rw [nI_clamp (by omega)]; exact hj
  refine k_startI (lv := [(0, .ref (G.2.2.1 q)), (1, .int i)]) (by decide +kernel) (Nat.le_of_ble_eq_true rfl) rfl ?_
  intro p e s m args below meth c hA hr
  have hA : k_Amb p s m args meth c cJ0_charAt_5068e 2 "java/lang/String" G _ := hA
  refine k_aload_n (i := 0) hA dJ0_charAt_5068e_0 rfl 0 rfl ?_
  refine k_callTi (As := []) (rest := []) hA (m_Sl1 l G w hq) cd_J0_isLatin1_aae02 wd_537 hq rfl (Nat.le_of_ble_eq_true rfl) rfl rfl (Nat.le_of_ble_eq_true rfl) dJ0_charAt_5068e_1 ?_
  refine k_if_eq (tgt := 16) hA dJ0_charAt_5068e_4 rfl (fun hc => absurd hc (by decide)) (fun hc => ?_)
  refine k_aload_n (i := 0) hA dJ0_charAt_5068e_7 rfl 0 rfl ?_
  refine k_gtVa hA hq wd_2006 dJ0_charAt_5068e_8 ?_
  refine k_iload_n (i := 1) hA dJ0_charAt_5068e_11 rfl 1 rfl ?_
  refine k_callSi (As := [.ref (G.2.2.2 q), .int i]) (rest := []) hA (m_Slc l G w hq hi) cd_J1_charAt_3b067 wd_541 (Nat.le_of_ble_eq_true rfl) rfl rfl (Nat.le_of_ble_eq_true rfl) dJ0_charAt_5068e_12 ?_
  exact k_iret hA hr (k_schc2 q hq _ hj) dJ0_charAt_5068e_15
theorem k_slenR {p : Program} {l : Launch} {e : Env} {L : Nat} {s : State} {m : MethodId} {args : Array Value} {below : List Frame} {meth : Method} {c : Code} {Q : State → Prop} {cc : ByteArray} {nL : Nat} {own : String} {G : k_G} {A : Nat → Prop} {w : va_W} {pc index q : Nat} {lv : List (Nat × Value)} {rest : List Value} (hA : k_Amb p s m args meth c cc nL own G A) (hq : q < 16) (hlink : Cond.methodLink own index yJ0_length_8abf5 ∈ k_TB) (hL : 3 ≤ L) (hr : (rest.map fun v => v.category).sum ≤ 8) (hd : decode cc pc = .ok (.invokevirtual index, 3)) (k : k_Go p l e (k_rm L) s m args below meth c Q nL G A w (pc + 3) lv (.int (k_slen q) :: rest)) : k_Go p l e (k_rm L) s m args below meth c Q nL G A w pc lv (.ref (G.2.2.1 q) :: rest) := k_callTi (As := []) (rest := rest) hA (m_Sln l G w hq) cd_J0_length_8abf5 hlink hq rfl hL rfl rfl hr hd k
theorem k_scharR {p : Program} {l : Launch} {e : Env} {L : Nat} {s : State} {m : MethodId} {args : Array Value} {below : List Frame} {meth : Method} {c : Code} {Q : State → Prop} {cc : ByteArray} {nL : Nat} {own : String} {G : k_G} {A : Nat → Prop} {w : va_W} {pc index q : Nat} {lv : List (Nat × Value)} {rest : List Value} {i : Int32} (hA : k_Amb p s m args meth c cc nL own G A) (hq : q < 16) (hi : k_in i (k_len.getD q 0)) (hlink : Cond.methodLink own index yJ0_charAt_5068e ∈ k_TB) (hL : 5 ≤ L) (hr : (rest.map fun v => v.category).sum ≤ 8) (hd : decode cc pc = .ok (.invokevirtual index, 3)) (k : k_Go p l e (k_rm L) s m args below meth c Q nL G A w (pc + 3) lv (.int (k_sch q i) :: rest)) : k_Go p l e (k_rm L) s m args below meth c Q nL G A w pc lv (.int i :: .ref (G.2.2.1 q) :: rest) := k_callTi (As := [.int i]) (rest := rest) hA (m_Sch l G w hq hi) cd_J0_charAt_5068e hlink hq rfl hL rfl rfl hr hd k
theorem pt_told {p : Program} {l : Launch} {e : Env} {R : Room} {s : State} {m : MethodId} {args : Array Value} {below : List Frame} {meth : Method} {c : Code} {Q : State → Prop} {cc : ByteArray} {nL : Nat} {own : String} {G : k_G} {A : Nat → Prop} {pc index : Nat} {lv : List (Nat × Value)} {rest : List Value} {a : Nat → Nat} {tl : Value} {t : k_St} (hA : k_Amb p s m args meth c cc nL own G A) (hlink : Cond.fieldLink own index "TaleShares$Reader" "told" "LTaleShares$Terrace;" ∈ k_TB) (hd : decode cc pc = .ok (.putfield index, 3)) (kk : k_Go p l e R s m args below meth c Q nL G A (k_WX G.2.1 a (.ref (a 10)) t) (pc + 3) lv rest) : k_Go p l e R s m args below meth c Q nL G A (k_WX G.2.1 a tl t) pc lv (.ref (a 10) :: .ref (a 18) :: rest) := k_put hA k_in_X5 tyX5 tyX5_ok nmX5 (hc_X_18 G.2.1 a tl t) rfl 10 (by decide) hlink rfl (v := .ref (a 10)) rfl rfl (Nat.le_of_ble_eq_true rfl) rfl hd kk
theorem cp_X_35 {p : Program} {l : Launch} {e : Env} {L : Nat} {s : State} {m : MethodId} {args : Array Value} {below : List Frame} {meth : Method} {c : Code} {Q : State → Prop} {cc : ByteArray} {nL : Nat} {own : String} {G : k_G} {A : Nat → Prop} {pc index : Nat} {lv : List (Nat × Value)} {rest : List Value} {a : Nat → Nat} {tl : Value} {t t2 : k_St} (hA : k_Amb p s m args meth c cc nL own G A) (hlink : Cond.methodLink own index arraycopyName ∈ k_TB) (hnat : Cond.native arraycopyName ∈ k_TB) (ht : t2 = k_cpL t 35 1 0 15) (hr : (rest.map fun v => v.category).sum ≤ 8) (hL : 1 ≤ L) (hd : decode cc pc = .ok (.invokestatic index, 3)) (k : k_Go p l e (k_rm L) s m args below meth c Q nL G A (k_WX G.2.1 a tl t2) (pc + 3) lv rest) : k_Go p l e (k_rm L) s m args below meth c Q nL G A (k_WX G.2.1 a tl t) pc lv (.int 15 :: .int 0 :: .ref (a 35) :: .int 1 :: .ref (a 35) :: rest) := by
  subst ht
  exact fun H locs ls hP hD hS hl => va_copyl hA.1.1 hA.1.2.1 (hA.1.2.2.1.trans hl.1.symm) hA.1.2.2.2.1 (hA.1.2.2.2.2 _ hlink) (hA.1.2.2.2.2 _ hnat) (hA.1.2.2.2.2 _ wd_1105) (hA.1.2.2.2.2 _ wd_138) hA.2.1.1 hP hD hS 35 35 2 2 (hc_X_35 G.2.1 a tl t) (hc_X_35 G.2.1 a tl t) rfl rfl rfl (by decide) (by decide) (by decide) (by decide) (by decide) (fun i _ => rfl) hL (by
    simp only [k_rm]
    have : nativeFrameWords "java/lang/System" "arraycopy" 5 ≤ 30 := by decide +kernel
    omega) hd (fun H1 locs1 hP1 hD1 hS1 => k H1 locs1 ls hP1 hD1 hS1 hl)
