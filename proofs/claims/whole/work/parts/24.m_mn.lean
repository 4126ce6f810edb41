
def f_M_feed_N_76 (n : Nat) (rec23 : Int32 → Int32 → Int32 → Int32 → Int32 → Int32 → k_St → Option (Int32 × k_St)) (x1 : Int32) (x2 : Int32) (x3 : Int32) (x4 : Int32) (x5 : Int32) (x6 : Int32) (s0 : Int32) (t : k_St) : Option (Int32 × k_St) := k_gi (t.1 0 6) 900 (k_lt (k_sI t 1 (t.1 0 6).toNatClampNeg (((s0 >>> (((24 : Int32) - ((8 : Int32) * (x6 - x6 / (4 : Int32) * (4 : Int32)))) &&& 31)).toInt8.toInt32).toInt8.toInt32)) (fun t_2 => k_lt (k_sI t_2 0 6 ((t_2.1 0 6) + (1 : Int32))) (fun t_3 => k_lt (x6 + (1 : Int32)) (fun x6_4 => rec23 x1 x2 x3 x4 x5 x6_4 t_3))))
def f_M_feed_N_23 (n : Nat) : Nat → Int32 → Int32 → Int32 → Int32 → Int32 → Int32 → k_St → Option (Int32 × k_St)
  | 0, _, _, _, _, _, _, _ => none
  | k + 1, x1, x2, x3, x4, x5, x6, t => (if (20 : Int32) ≤ x6 then some ((t.1 0 6), t) else (if (4 : Int32) ≤ x6 then (if (8 : Int32) ≤ x6 then (if (12 : Int32) ≤ x6 then (if (16 : Int32) ≤ x6 then f_M_feed_N_76 n (f_M_feed_N_23 n k) x1 x2 x3 x4 x5 x6 x5 t else f_M_feed_N_76 n (f_M_feed_N_23 n k) x1 x2 x3 x4 x5 x6 x4 t) else f_M_feed_N_76 n (f_M_feed_N_23 n k) x1 x2 x3 x4 x5 x6 x3 t) else f_M_feed_N_76 n (f_M_feed_N_23 n k) x1 x2 x3 x4 x5 x6 x2 t) else f_M_feed_N_76 n (f_M_feed_N_23 n k) x1 x2 x3 x4 x5 x6 x1 t))
def f_M_feed_N (n : Nat) (x1 : Int32) (x2 : Int32) (x3 : Int32) (x4 : Int32) (x5 : Int32) (t : k_St) : Option (Int32 × k_St) := k_lt (k_sI t 0 0 (0 : Int32)) (fun t_1 => (if ((t_1.1 0 6) + (20 : Int32)) ≤ (900 : Int32) then f_M_feed_N_23 n n x1 x2 x3 x4 x5 (0 : Int32) t_1 else some ((-1 : Int32), t_1)))
theorem m_M_feed_N_76 {p : Program} (l : Launch) {e : Env} {s : State} {m : MethodId} {args : Array Value} {below : List Frame} {meth : Method} {c : Code} (G : k_G) (a : Nat → Nat) (rv : Value) (n : Nat) {w0 : va_W} {r : Int32} {t' : k_St} (hA : k_Amb p s m args meth c cX12_feed 8 "TaleSharesModel" G (va_A w0 s.heap.size)) (hr : meth.sig.returnType = (some .int)) (rec23 : Int32 → Int32 → Int32 → Int32 → Int32 → Int32 → k_St → Option (Int32 × k_St)) (hrec23 : ∀ (x1 : Int32) (x2 : Int32) (x3 : Int32) (x4 : Int32) (x5 : Int32) (x6 : Int32) (t : k_St), rec23 x1 x2 x3 x4 x5 x6 t = some (r, t') → k_Go p l e (k_rm 1) s m args below meth c (k_QI G w0 r (k_WN G.2.1 a rv t') args s below) 8 G (va_A w0 s.heap.size) (k_WN G.2.1 a rv t) 23 [(0, .ref (a 0)), (1, .int x1), (2, .int x2), (3, .int x3), (4, .int x4), (5, .int x5), (6, .int x6)] []) : ∀ (x1 : Int32) (x2 : Int32) (x3 : Int32) (x4 : Int32) (x5 : Int32) (x6 : Int32) (s0 : Int32) (t : k_St), f_M_feed_N_76 n rec23 x1 x2 x3 x4 x5 x6 s0 t = some (r, t') → k_Go p l e (k_rm 1) s m args below meth c (k_QI G w0 r (k_WN G.2.1 a rv t') args s below) 8 G (va_A w0 s.heap.size) (k_WN G.2.1 a rv t) 76 [(0, .ref (a 0)), (1, .int x1), (2, .int x2), (3, .int x3), (4, .int x4), (5, .int x5), (6, .int x6)] [.int s0] := by
  intro x1 x2 x3 x4 x5 x6 s0 t hf
  unfold f_M_feed_N_76 at hf
  obtain ⟨hi_1, hf⟩ := k_gi_e hf
  obtain ⟨t_2, et_2, hf⟩ := k_lt_e hf
  obtain ⟨t_3, et_3, hf⟩ := k_lt_e hf
  obtain ⟨x6_4, ex6_4, hf⟩ := k_lt_e hf
  refine k_istore (lv' := [(7, .int s0), (0, .ref (a 0)), (1, .int x1), (2, .int x2), (3, .int x3), (4, .int x4), (5, .int x5), (6, .int x6)]) hA dX12_feed_76 rfl (Nat.le_of_ble_eq_true rfl) rfl ?_
  refine k_aload_n (i := 0) hA dX12_feed_78 rfl 1 rfl ?_
  refine gt_MN_0_5 hA wd_1253 dX12_feed_79 ?_
  refine k_aload_n (i := 0) hA dX12_feed_82 rfl 1 rfl ?_
  refine gt_MN_0_6 hA wd_1254 dX12_feed_83 ?_
  refine k_iload hA dX12_feed_86 0 rfl ?_
  refine k_bipush hA dX12_feed_88 kc_b_24 ?_
  refine k_bipush hA dX12_feed_90 kc_b_8 ?_
  refine k_iload hA dX12_feed_92 7 rfl ?_
  refine k_iconst hA dX12_feed_94 kc_i_4 ?_
  refine k_irem hA dX12_feed_95 (by decide) ?_
  refine k_imul hA dX12_feed_96 ?_
  refine k_isub hA dX12_feed_97 ?_
  refine k_ishr hA dX12_feed_98 ?_
  refine k_i2b hA dX12_feed_99 ?_
  refine sr_MN_1 hA hi_1 et_2 dX12_feed_100 ?_
  refine k_aload_n (i := 0) hA dX12_feed_101 rfl 1 rfl ?_
  refine k_dup hA dX12_feed_102 rfl ?_
  refine gt_MN_0_6 hA wd_1254 dX12_feed_103 ?_
  refine k_iconst hA dX12_feed_106 kc_i_1 ?_
  refine k_iadd hA dX12_feed_107 ?_
  refine pt_MN_0_6 hA wd_1254 et_3 dX12_feed_108 ?_
  refine k_iinc (j := 7) (v := x6_4) (lv' := [(6, .int x6_4), (7, .int s0), (0, .ref (a 0)), (1, .int x1), (2, .int x2), (3, .int x3), (4, .int x4), (5, .int x5)]) hA dX12_feed_111 rfl (k_inc ex6_4 kc_i_1) (Nat.le_of_ble_eq_true rfl) rfl ?_
  refine k_goto (tgt := 23) hA dX12_feed_114 rfl ?_
  refine k_pick (lv' := [(0, .ref (a 0)), (1, .int x1), (2, .int x2), (3, .int x3), (4, .int x4), (5, .int x5), (6, .int x6_4)]) [2, 3, 4, 5, 6, 7, 0] rfl ?_
  exact hrec23 x1 x2 x3 x4 x5 x6_4 t_3 hf

theorem m_M_feed_N_23 {p : Program} (l : Launch) {e : Env} {s : State} {m : MethodId} {args : Array Value} {below : List Frame} {meth : Method} {c : Code} (G : k_G) (a : Nat → Nat) (rv : Value) (n : Nat) {w0 : va_W} {r : Int32} {t' : k_St} (hA : k_Amb p s m args meth c cX12_feed 8 "TaleSharesModel" G (va_A w0 s.heap.size)) (hr : meth.sig.returnType = (some .int)) : ∀ (k : Nat) (x1 : Int32) (x2 : Int32) (x3 : Int32) (x4 : Int32) (x5 : Int32) (x6 : Int32) (t : k_St), f_M_feed_N_23 n k x1 x2 x3 x4 x5 x6 t = some (r, t') → k_Go p l e (k_rm 1) s m args below meth c (k_QI G w0 r (k_WN G.2.1 a rv t') args s below) 8 G (va_A w0 s.heap.size) (k_WN G.2.1 a rv t) 23 [(0, .ref (a 0)), (1, .int x1), (2, .int x2), (3, .int x3), (4, .int x4), (5, .int x5), (6, .int x6)] [] := by
  intro k
  induction k with
  | zero => intro x1 x2 x3 x4 x5 x6 t hf; cases hf
  | succ k ih =>
  intro x1 x2 x3 x4 x5 x6 t hf
  rw [f_M_feed_N_23] at hf
  refine k_iload hA dX12_feed_23 6 rfl ?_
  refine k_bipush hA dX12_feed_25 kc_b_20 ?_
  refine k_icmp_ge (tgt := 117) hA dX12_feed_27 rfl (fun hc => ?_) (fun hc => ?_)
  · have hf := k_ift hc hf
    obtain ⟨rfl, rfl⟩ := k_r2 hf
    refine k_aload_n (i := 0) hA dX12_feed_117 rfl 0 rfl ?_
    refine gt_MN_0_6 hA wd_1254 dX12_feed_118 ?_
    exact k_iret hA hr rfl dX12_feed_121
  have hf := k_iff hc hf
  refine k_iload hA dX12_feed_30 6 rfl ?_
  refine k_iconst hA dX12_feed_32 kc_i_4 ?_
  refine k_icmp_ge (tgt := 40) hA dX12_feed_33 rfl (fun hc => ?_) (fun hc => ?_)
  · have hf := k_ift hc hf
    refine k_iload hA dX12_feed_40 6 rfl ?_
    refine k_bipush hA dX12_feed_42 kc_b_8 ?_
    refine k_icmp_ge (tgt := 51) hA dX12_feed_44 rfl (fun hc => ?_) (fun hc => ?_)
    · have hf := k_ift hc hf
      refine k_iload hA dX12_feed_51 6 rfl ?_
      refine k_bipush hA dX12_feed_53 kc_b_12 ?_
      refine k_icmp_ge (tgt := 62) hA dX12_feed_55 rfl (fun hc => ?_) (fun hc => ?_)
      · have hf := k_ift hc hf
        refine k_iload hA dX12_feed_62 6 rfl ?_
        refine k_bipush hA dX12_feed_64 kc_b_16 ?_
        refine k_icmp_ge (tgt := 74) hA dX12_feed_66 rfl (fun hc => ?_) (fun hc => ?_)
        · have hf := k_ift hc hf
          refine k_iload hA dX12_feed_74 5 rfl ?_
          exact m_M_feed_N_76 l G a rv n hA hr (f_M_feed_N_23 n k) ih x1 x2 x3 x4 x5 x6 x5 t hf
        have hf := k_iff hc hf
        refine k_iload hA dX12_feed_69 4 rfl ?_
        refine k_goto (tgt := 76) hA dX12_feed_71 rfl ?_
        exact m_M_feed_N_76 l G a rv n hA hr (f_M_feed_N_23 n k) ih x1 x2 x3 x4 x5 x6 x4 t hf
      have hf := k_iff hc hf
      refine k_iload_n (i := 3) hA dX12_feed_58 rfl 3 rfl ?_
      refine k_goto (tgt := 76) hA dX12_feed_59 rfl ?_
      exact m_M_feed_N_76 l G a rv n hA hr (f_M_feed_N_23 n k) ih x1 x2 x3 x4 x5 x6 x3 t hf
    have hf := k_iff hc hf
    refine k_iload_n (i := 2) hA dX12_feed_47 rfl 2 rfl ?_
    refine k_goto (tgt := 76) hA dX12_feed_48 rfl ?_
    exact m_M_feed_N_76 l G a rv n hA hr (f_M_feed_N_23 n k) ih x1 x2 x3 x4 x5 x6 x2 t hf
  have hf := k_iff hc hf
  refine k_iload_n (i := 1) hA dX12_feed_36 rfl 1 rfl ?_
  refine k_goto (tgt := 76) hA dX12_feed_37 rfl ?_
  exact m_M_feed_N_76 l G a rv n hA hr (f_M_feed_N_23 n k) ih x1 x2 x3 x4 x5 x6 x1 t hf

theorem m_M_feed_N (l : Launch) (G : k_G) (a : Nat → Nat) (rv : Value) (n : Nat) (x1 : Int32) (x2 : Int32) (x3 : Int32) (x4 : Int32) (x5 : Int32) (t : k_St) {r : Int32} {t' : k_St} (hf : f_M_feed_N n x1 x2 x3 x4 x5 t = some (r, t')) : k_CI l G yX12_feed cX12_feed 8 (some .int) 1 (k_WN G.2.1 a rv t) [.ref (a 0), .int x1, .int x2, .int x3, .int x4, .int x5] r (k_WN G.2.1 a rv t') := by
  refine k_startI (lv := [(0, .ref (a 0)), (1, .int x1), (2, .int x2), (3, .int x3), (4, .int x4), (5, .int x5)]) (by decide +kernel) (Nat.le_of_ble_eq_true rfl) rfl ?_
  intro p e s m args below meth c hA hr
  have hA : k_Amb p s m args meth c cX12_feed 8 "TaleSharesModel" G _ := hA
  unfold f_M_feed_N at hf
  obtain ⟨t_1, et_1, hf⟩ := k_lt_e hf
  refine k_aload_n (i := 0) hA dX12_feed_0 rfl 0 rfl ?_
  refine k_iconst hA dX12_feed_1 kc_i_0 ?_
  refine pt_MN_0_0 hA wd_1248 et_1 dX12_feed_2 ?_
  refine k_aload_n (i := 0) hA dX12_feed_5 rfl 0 rfl ?_
  refine gt_MN_0_6 hA wd_1254 dX12_feed_6 ?_
  refine k_bipush hA dX12_feed_9 kc_b_20 ?_
  refine k_iadd hA dX12_feed_11 ?_
  refine k_sipush hA dX12_feed_12 kc_s_900 ?_
  refine k_icmp_le (tgt := 20) hA dX12_feed_15 rfl (fun hc => ?_) (fun hc => ?_)
  · have hf := k_ift hc hf
    refine k_iconst hA dX12_feed_20 kc_i_0 ?_
    refine k_istore (lv' := [(6, .int (0 : Int32)), (0, .ref (a 0)), (1, .int x1), (2, .int x2), (3, .int x3), (4, .int x4), (5, .int x5)]) hA dX12_feed_21 rfl (Nat.le_of_ble_eq_true rfl) rfl ?_
    refine k_pick (lv' := [(0, .ref (a 0)), (1, .int x1), (2, .int x2), (3, .int x3), (4, .int x4), (5, .int x5), (6, .int (0 : Int32))]) [1, 2, 3, 4, 5, 6, 0] rfl ?_
    exact m_M_feed_N_23 l G a rv n hA hr n x1 x2 x3 x4 x5 (0 : Int32) t_1 hf
  have hf := k_iff hc hf
  obtain ⟨rfl, rfl⟩ := k_r2 hf
  refine k_iconst hA dX12_feed_18 kc_i_m1 ?_
  exact k_iret hA hr rfl dX12_feed_19

def f_M_fault_N (t : k_St) : Int32 × k_St := k_lt (k_sI t 0 0 (0 : Int32)) (fun t_1 => ((t_1.1 0 12), t_1))
theorem m_M_fault_N (l : Launch) (G : k_G) (a : Nat → Nat) (rv : Value) (t : k_St) {r : Int32} {t' : k_St} (hf : f_M_fault_N t = (r, t')) : k_CI l G yX12_fault cX12_fault 1 (some .int) 1 (k_WN G.2.1 a rv t) [.ref (a 0)] r (k_WN G.2.1 a rv t') := by
  refine k_startI (lv := [(0, .ref (a 0))]) (by decide +kernel) (Nat.le_of_ble_eq_true rfl) rfl ?_
  intro p e s m args below meth c hA hr
  have hA : k_Amb p s m args meth c cX12_fault 1 "TaleSharesModel" G _ := hA
  unfold f_M_fault_N at hf
  obtain ⟨t_1, et_1, hf⟩ := k_lt_e hf
  obtain ⟨rfl, rfl⟩ := k_p2 hf
  refine k_aload_n (i := 0) hA dX12_fault_0 rfl 0 rfl ?_
  refine k_iconst hA dX12_fault_1 kc_i_0 ?_
  refine pt_MN_0_0 hA wd_1248 et_1 dX12_fault_2 ?_
  refine k_aload_n (i := 0) hA dX12_fault_5 rfl 0 rfl ?_
  refine gt_MN_0_12 hA wd_1260 dX12_fault_6 ?_
  exact k_iret hA hr rfl dX12_fault_9

def f_M_where_N (t : k_St) : Int32 × k_St := k_lt (k_sI t 0 0 (0 : Int32)) (fun t_1 => ((t_1.1 0 2), t_1))
theorem m_M_where_N (l : Launch) (G : k_G) (a : Nat → Nat) (rv : Value) (t : k_St) {r : Int32} {t' : k_St} (hf : f_M_where_N t = (r, t')) : k_CI l G yX12_where cX12_where 1 (some .int) 1 (k_WN G.2.1 a rv t) [.ref (a 0)] r (k_WN G.2.1 a rv t') := by
  refine k_startI (lv := [(0, .ref (a 0))]) (by decide +kernel) (Nat.le_of_ble_eq_true rfl) rfl ?_
  intro p e s m args below meth c hA hr
  have hA : k_Amb p s m args meth c cX12_where 1 "TaleSharesModel" G _ := hA
  unfold f_M_where_N at hf
  obtain ⟨t_1, et_1, hf⟩ := k_lt_e hf
  obtain ⟨rfl, rfl⟩ := k_p2 hf
  refine k_aload_n (i := 0) hA dX12_where_0 rfl 0 rfl ?_
  refine k_iconst hA dX12_where_1 kc_i_0 ?_
  refine pt_MN_0_0 hA wd_1248 et_1 dX12_where_2 ?_
  refine k_aload_n (i := 0) hA dX12_where_5 rfl 0 rfl ?_
  refine gt_MN_0_2 hA wd_1250 dX12_where_6 ?_
  exact k_iret hA hr rfl dX12_where_9

def f_M_isPiece_N (t : k_St) (x1 : Int32) : Bool := false
theorem m_M_isPiece_N (l : Launch) (G : k_G) (a : Nat → Nat) (rv : Value) (t : k_St) (x1 : Int32) {r : Bool} (hf : f_M_isPiece_N t x1 = r) : k_CI l G yX12_isPiece cX12_isPiece 2 (some .boolean) 1 (k_WN G.2.1 a rv t) [.ref (a 0), .int x1] (k_b r) (k_WN G.2.1 a rv t) := by
  refine k_startI (lv := [(0, .ref (a 0)), (1, .int x1)]) (by decide +kernel) (Nat.le_of_ble_eq_true rfl) rfl ?_
  intro p e s m args below meth c hA hr
  have hA : k_Amb p s m args meth c cX12_isPiece 2 "TaleSharesModel" G _ := hA
  unfold f_M_isPiece_N at hf
  subst hf
  refine k_aload_n (i := 0) hA dX12_isPiece_0 rfl 0 rfl ?_
  refine gt_MN_0_3 hA wd_1251 dX12_isPiece_1 ?_
  refine k_ifnullN (tgt := 26) hA dX12_isPiece_4 rfl ?_
  refine k_iconst hA dX12_isPiece_26 kc_i_0 ?_
  exact k_iret hA hr (k_narB (k_b01 _)) dX12_isPiece_27

def f_M_refused_N (x1 : Int32) (t : k_St) : Int32 × k_St := k_lt (k_sI t 0 1 x1) (fun t_1 => k_lt (k_sI t_1 0 2 (-1 : Int32)) (fun t_2 => ((-1 : Int32), t_2)))
theorem m_M_refused_N (l : Launch) (G : k_G) (a : Nat → Nat) (rv : Value) (x1 : Int32) (t : k_St) {r : Int32} {t' : k_St} (hf : f_M_refused_N x1 t = (r, t')) : k_CI l G yX12_refused cX12_refused 2 (some .int) 1 (k_WN G.2.1 a rv t) [.ref (a 0), .int x1] r (k_WN G.2.1 a rv t') := by
  refine k_startI (lv := [(0, .ref (a 0)), (1, .int x1)]) (by decide +kernel) (Nat.le_of_ble_eq_true rfl) rfl ?_
  intro p e s m args below meth c hA hr
  have hA : k_Amb p s m args meth c cX12_refused 2 "TaleSharesModel" G _ := hA
  unfold f_M_refused_N at hf
  obtain ⟨t_1, et_1, hf⟩ := k_lt_e hf
  obtain ⟨t_2, et_2, hf⟩ := k_lt_e hf
  obtain ⟨rfl, rfl⟩ := k_p2 hf
  refine k_aload_n (i := 0) hA dX12_refused_0 rfl 0 rfl ?_
  refine k_iload_n (i := 1) hA dX12_refused_1 rfl 1 rfl ?_
  refine pt_MN_0_1 hA wd_1249 et_1 dX12_refused_2 ?_
  refine k_aload_n (i := 0) hA dX12_refused_5 rfl 0 rfl ?_
  refine k_iconst hA dX12_refused_6 kc_i_m1 ?_
  refine pt_MN_0_2 hA wd_1250 et_2 dX12_refused_7 ?_
  refine k_iconst hA dX12_refused_10 kc_i_m1 ?_
  exact k_iret hA hr rfl dX12_refused_11

def f_M_piece_N (x1 : Int32) (x2 : Int32) (t : k_St) : Option (Int32 × k_St) := k_lt (k_sI t 0 0 (0 : Int32)) (fun t_1 => (if (k_b (f_M_isPiece_N t_1 x1)) = 0 then k_lt (f_M_refused_N (1 : Int32) t_1) (fun q_2 => some (q_2.1, q_2.2)) else (if (k_b (f_M_in x2 (0 : Int32) (3 : Int32))) = 0 then k_lt (f_M_refused_N (1 : Int32) t_1) (fun q_3 => some (q_3.1, q_3.2)) else (if x2 = 0 then none else (if x2 = (1 : Int32) then none else (if x2 = (2 : Int32) then none else none))))))
theorem m_M_piece_N (l : Launch) (G : k_G) (a : Nat → Nat) (rv : Value) (x1 : Int32) (x2 : Int32) (t : k_St) {r : Int32} {t' : k_St} (hf : f_M_piece_N x1 x2 t = some (r, t')) : k_CI l G yX12_piece cX12_piece 5 (some .int) 2 (k_WN G.2.1 a rv t) [.ref (a 0), .int x1, .int x2] r (k_WN G.2.1 a rv t') := by
  refine k_startI (lv := [(0, .ref (a 0)), (1, .int x1), (2, .int x2)]) (by decide +kernel) (Nat.le_of_ble_eq_true rfl) rfl ?_
  intro p e s m args below meth c hA hr
  have hA : k_Amb p s m args meth c cX12_piece 5 "TaleSharesModel" G _ := hA
  unfold f_M_piece_N at hf
  obtain ⟨t_1, et_1, hf⟩ := k_lt_e hf
  refine k_aload_n (i := 0) hA dX12_piece_0 rfl 0 rfl ?_
  refine k_iconst hA dX12_piece_1 kc_i_0 ?_
  refine pt_MN_0_0 hA wd_1248 et_1 dX12_piece_2 ?_
  refine k_aload_n (i := 0) hA dX12_piece_5 rfl 0 rfl ?_
  refine k_iload_n (i := 1) hA dX12_piece_6 rfl 1 rfl ?_
  refine k_callVi (As := [.int x1]) (rest := []) hA (m_M_isPiece_N l G a rv t_1 x1 rfl) cd_X12_isPiece wd_1617 (hc_MN_0 G.2.1 a rv t_1) rfl rfl (Nat.le_of_ble_eq_true rfl) rfl rfl (Nat.le_of_ble_eq_true rfl) dX12_piece_7 ?_
  refine k_if_eq (tgt := 22) hA dX12_piece_10 rfl (fun hc => ?_) (fun hc => ?_)
  · have hf := k_ift hc hf
    obtain ⟨⟨rq_2, tq_2⟩, hq_2, hf⟩ := k_lt_e hf
    dsimp only at hf
    obtain ⟨rfl, rfl⟩ := k_r2 hf
    refine k_aload_n (i := 0) hA dX12_piece_22 rfl 0 rfl ?_
    refine k_iconst hA dX12_piece_23 kc_i_1 ?_
    refine k_callVi (As := [.int (1 : Int32)]) (rest := []) hA (m_M_refused_N l G a rv (1 : Int32) t_1 hq_2.symm) cd_X12_refused wd_1390 (hc_MN_0 G.2.1 a rv t_1) rfl rfl (Nat.le_of_ble_eq_true rfl) rfl rfl (Nat.le_of_ble_eq_true rfl) dX12_piece_24 ?_
    exact k_iret hA hr rfl dX12_piece_27
  have hf := k_iff hc hf
  refine k_iload_n (i := 2) hA dX12_piece_13 rfl 2 rfl ?_
  refine k_iconst hA dX12_piece_14 kc_i_0 ?_
  refine k_iconst hA dX12_piece_15 kc_i_3 ?_
  refine k_callSi (As := [.int x2, .int (0 : Int32), .int (3 : Int32)]) (rest := []) hA (m_M_in l G (k_WN G.2.1 a rv t_1) x2 (0 : Int32) (3 : Int32) rfl) cd_X12_in wd_1525 (Nat.le_of_ble_eq_true rfl) rfl rfl (Nat.le_of_ble_eq_true rfl) dX12_piece_16 ?_
  refine k_if_ne (tgt := 28) hA dX12_piece_19 rfl (fun hc => ?_) (fun hc => ?_)
  · have hf := k_iff hc hf
    refine k_iload_n (i := 2) hA dX12_piece_28 rfl 2 rfl ?_
    refine k_if_ne (tgt := 46) hA dX12_piece_29 rfl (fun hc => ?_) (fun hc => ?_)
    · have hf := k_iff hc hf
      refine k_iload_n (i := 2) hA dX12_piece_46 rfl 2 rfl ?_
      refine k_iconst hA dX12_piece_47 kc_i_1 ?_
      refine k_icmp_ne (tgt := 65) hA dX12_piece_48 rfl (fun hc => ?_) (fun hc => ?_)
      · have hf := k_iff hc hf
        refine k_iconst hA dX12_piece_65 kc_i_0 ?_
        refine k_istore_n (i := 3) (lv' := [(3, .int (0 : Int32)), (0, .ref (a 0)), (1, .int x1), (2, .int x2)]) hA dX12_piece_66 rfl rfl (Nat.le_of_ble_eq_true rfl) rfl ?_
        refine k_iload_n (i := 2) hA dX12_piece_67 rfl 3 rfl ?_
        refine k_iconst hA dX12_piece_68 kc_i_2 ?_
        refine k_icmp_ne (tgt := 124) hA dX12_piece_69 rfl (fun hc => ?_) (fun hc => ?_)
        · have hf := k_iff hc hf
          cases hf
        have hf := k_ift hc hf
        cases hf
      have hf := k_ift hc hf
      cases hf
    have hf := k_ift hc hf
    cases hf
  have hf := k_ift hc hf
  obtain ⟨⟨rq_3, tq_3⟩, hq_3, hf⟩ := k_lt_e hf
  dsimp only at hf
  obtain ⟨rfl, rfl⟩ := k_r2 hf
  refine k_aload_n (i := 0) hA dX12_piece_22 rfl 0 rfl ?_
  refine k_iconst hA dX12_piece_23 kc_i_1 ?_
  refine k_callVi (As := [.int (1 : Int32)]) (rest := []) hA (m_M_refused_N l G a rv (1 : Int32) t_1 hq_3.symm) cd_X12_refused wd_1390 (hc_MN_0 G.2.1 a rv t_1) rfl rfl (Nat.le_of_ble_eq_true rfl) rfl rfl (Nat.le_of_ble_eq_true rfl) dX12_piece_24 ?_
  exact k_iret hA hr rfl dX12_piece_27

def f_M_isHouse_N (t : k_St) (x1 : Int32) : Bool := false
theorem m_M_isHouse_N (l : Launch) (G : k_G) (a : Nat → Nat) (rv : Value) (t : k_St) (x1 : Int32) {r : Bool} (hf : f_M_isHouse_N t x1 = r) : k_CI l G yX12_isHouse cX12_isHouse 2 (some .boolean) 1 (k_WN G.2.1 a rv t) [.ref (a 0), .int x1] (k_b r) (k_WN G.2.1 a rv t) := by
  refine k_startI (lv := [(0, .ref (a 0)), (1, .int x1)]) (by decide +kernel) (Nat.le_of_ble_eq_true rfl) rfl ?_
  intro p e s m args below meth c hA hr
  have hA : k_Amb p s m args meth c cX12_isHouse 2 "TaleSharesModel" G _ := hA
  unfold f_M_isHouse_N at hf
  subst hf
  refine k_aload_n (i := 0) hA dX12_isHouse_0 rfl 0 rfl ?_
  refine gt_MN_0_3 hA wd_1251 dX12_isHouse_1 ?_
  refine k_ifnullN (tgt := 26) hA dX12_isHouse_4 rfl ?_
  refine k_iconst hA dX12_isHouse_26 kc_i_0 ?_
  exact k_iret hA hr (k_narB (k_b01 _)) dX12_isHouse_27

def f_M_startsTales_N (x1 : Int32) (t : k_St) : Option k_St := k_lt (k_sI t 0 25 x1) (fun t_1 => k_lt (k_sI t_1 0 22 (0 : Int32)) (fun t_2 => k_lt (k_sI t_2 0 23 (0 : Int32)) (fun t_3 => k_lt (k_sI t_3 0 24 (0 : Int32)) (fun t_4 => k_gi (0 : Int32) 9 (k_lt (k_sI t_4 6 (0 : Int32).toNatClampNeg (0 : Int32)) (fun t_6 => some t_6))))))
theorem m_M_startsTales_N (l : Launch) (G : k_G) (a : Nat → Nat) (rv : Value) (x1 : Int32) (t : k_St) {t' : k_St} (hf : f_M_startsTales_N x1 t = some t') : k_CV l G yX12_startsTales cX12_startsTales 2 none 1 (k_WN G.2.1 a rv t) [.ref (a 0), .int x1] (k_WN G.2.1 a rv t') := by
  refine k_startV (lv := [(0, .ref (a 0)), (1, .int x1)]) (by decide +kernel) (Nat.le_of_ble_eq_true rfl) rfl ?_
  intro p e s m args below meth c hA hr
  have hA : k_Amb p s m args meth c cX12_startsTales 2 "TaleSharesModel" G _ := hA
  unfold f_M_startsTales_N at hf
  obtain ⟨t_1, et_1, hf⟩ := k_lt_e hf
  obtain ⟨t_2, et_2, hf⟩ := k_lt_e hf
  obtain ⟨t_3, et_3, hf⟩ := k_lt_e hf
  obtain ⟨t_4, et_4, hf⟩ := k_lt_e hf
  obtain ⟨hi_5, hf⟩ := k_gi_e hf
  obtain ⟨t_6, et_6, hf⟩ := k_lt_e hf
  obtain rfl := k_r1 hf
  refine k_aload_n (i := 0) hA dX12_startsTales_0 rfl 0 rfl ?_
  refine k_iload_n (i := 1) hA dX12_startsTales_1 rfl 1 rfl ?_
  refine pt_MN_0_25 hA wd_1273 et_1 dX12_startsTales_2 ?_
  refine k_aload_n (i := 0) hA dX12_startsTales_5 rfl 0 rfl ?_
  refine k_iconst hA dX12_startsTales_6 kc_i_0 ?_
  refine pt_MN_0_22 hA wd_1270 et_2 dX12_startsTales_7 ?_
  refine k_aload_n (i := 0) hA dX12_startsTales_10 rfl 0 rfl ?_
  refine k_iconst hA dX12_startsTales_11 kc_i_0 ?_
  refine pt_MN_0_23 hA wd_1271 et_3 dX12_startsTales_12 ?_
  refine k_aload_n (i := 0) hA dX12_startsTales_15 rfl 0 rfl ?_
  refine k_iconst hA dX12_startsTales_16 kc_i_0 ?_
  refine pt_MN_0_24 hA wd_1272 et_4 dX12_startsTales_17 ?_
  refine k_aload_n (i := 0) hA dX12_startsTales_20 rfl 0 rfl ?_
  refine gt_MN_0_21 hA wd_1269 dX12_startsTales_21 ?_
  refine k_iconst hA dX12_startsTales_24 kc_i_0 ?_
  refine k_iconst hA dX12_startsTales_25 kc_i_0 ?_
  refine sr_MN_6 hA hi_5 et_6 dX12_startsTales_26 ?_
  exact k_vret hA hr dX12_startsTales_27

def f_M_isWhole_N (t : k_St) : Option Bool := (if (t.1 0 22) ≤ (1 : Int32) then some false else none)
theorem m_M_isWhole_N (l : Launch) (G : k_G) (a : Nat → Nat) (rv : Value) (t : k_St) {r : Bool} (hf : f_M_isWhole_N t = some r) : k_CI l G yX12_isWhole cX12_isWhole 1 (some .boolean) 1 (k_WN G.2.1 a rv t) [.ref (a 0)] (k_b r) (k_WN G.2.1 a rv t) := by
  refine k_startI (lv := [(0, .ref (a 0))]) (by decide +kernel) (Nat.le_of_ble_eq_true rfl) rfl ?_
  intro p e s m args below meth c hA hr
  have hA : k_Amb p s m args meth c cX12_isWhole 1 "TaleSharesModel" G _ := hA
  unfold f_M_isWhole_N at hf
  refine k_aload_n (i := 0) hA dX12_isWhole_0 rfl 0 rfl ?_
  refine gt_MN_0_22 hA wd_1270 dX12_isWhole_1 ?_
  refine k_iconst hA dX12_isWhole_4 kc_i_1 ?_
  refine k_icmp_le (tgt := 35) hA dX12_isWhole_5 rfl (fun hc => ?_) (fun hc => ?_)
  · have hf := k_ift hc hf
    obtain rfl := k_r1 hf
    refine k_iconst hA dX12_isWhole_35 kc_i_0 ?_
    exact k_iret hA hr (k_narB (k_b01 _)) dX12_isWhole_36
  have hf := k_iff hc hf
  cases hf

def f_M_takesBack_N (t : k_St) : Option k_St := k_lt (k_sI t 0 22 ((t.1 0 22) - (1 : Int32))) (fun t_1 => k_gi (t_1.1 0 22) 9 (k_lt (t_1.1 6 (t_1.1 0 22).toNatClampNeg) (fun x1_3 => k_lt (k_sI t_1 0 23 ((t_1.1 0 23) &&& (((1 : Int32) <<< (x1_3 &&& 31)) ^^^ (-1 : Int32)))) (fun t_4 => none))))
theorem m_M_takesBack_N (l : Launch) (G : k_G) (a : Nat → Nat) (rv : Value) (t : k_St) {t' : k_St} (hf : f_M_takesBack_N t = some t') : k_CV l G yX12_takesBack cX12_takesBack 2 none 1 (k_WN G.2.1 a rv t) [.ref (a 0)] (k_WN G.2.1 a rv t') := by
  refine k_startV (lv := [(0, .ref (a 0))]) (by decide +kernel) (Nat.le_of_ble_eq_true rfl) rfl ?_
  intro p e s m args below meth c hA hr
  have hA : k_Amb p s m args meth c cX12_takesBack 2 "TaleSharesModel" G _ := hA
  unfold f_M_takesBack_N at hf
  obtain ⟨t_1, et_1, hf⟩ := k_lt_e hf
  obtain ⟨hi_2, hf⟩ := k_gi_e hf
  obtain ⟨x1_3, ex1_3, hf⟩ := k_lt_e hf
  obtain ⟨t_4, et_4, hf⟩ := k_lt_e hf
  cases hf

def f_M_nextTale_N_11 (t : k_St) : Option (Bool × k_St) := (if 0 < (t.1 0 22) then k_gi (t.1 0 22) 9 (k_lt (t.1 6 (t.1 0 22).toNatClampNeg) (fun x1_2 => none)) else k_gi (0 : Int32) 9 (none))
def f_M_nextTale_N (t : k_St) : Option (Bool × k_St) := k_cp (f_M_isWhole_N t) (fun r_1 => (if (k_b r_1) = 0 then f_M_nextTale_N_11 t else k_cv (f_M_takesBack_N t) (fun t_2 => f_M_nextTale_N_11 t_2)))
theorem m_M_nextTale_N_11 {p : Program} (l : Launch) {e : Env} {s : State} {m : MethodId} {args : Array Value} {below : List Frame} {meth : Method} {c : Code} (G : k_G) (a : Nat → Nat) (rv : Value) {w0 : va_W} {r : Bool} {t' : k_St} (hA : k_Amb p s m args meth c cX12_nextTale 2 "TaleSharesModel" G (va_A w0 s.heap.size)) (hr : meth.sig.returnType = (some .boolean)) : ∀ (t : k_St), f_M_nextTale_N_11 t = some (r, t') → k_Go p l e (k_rm 2) s m args below meth c (k_QI G w0 (k_b r) (k_WN G.2.1 a rv t') args s below) 2 G (va_A w0 s.heap.size) (k_WN G.2.1 a rv t) 11 [(0, .ref (a 0))] [] := by
  intro t hf
  unfold f_M_nextTale_N_11 at hf
  refine k_aload_n (i := 0) hA dX12_nextTale_11 rfl 0 rfl ?_
  refine gt_MN_0_22 hA wd_1270 dX12_nextTale_12 ?_
  refine k_if_gt (tgt := 34) hA dX12_nextTale_15 rfl (fun hc => ?_) (fun hc => ?_)
  · have hf := k_ift hc hf
    obtain ⟨hi_1, hf⟩ := k_gi_e hf
    obtain ⟨x1_2, ex1_2, hf⟩ := k_lt_e hf
    cases hf
  have hf := k_iff hc hf
  obtain ⟨hi_3, hf⟩ := k_gi_e hf
  cases hf

theorem m_M_nextTale_N (l : Launch) (G : k_G) (a : Nat → Nat) (rv : Value) (t : k_St) {r : Bool} {t' : k_St} (hf : f_M_nextTale_N t = some (r, t')) : k_CI l G yX12_nextTale cX12_nextTale 2 (some .boolean) 2 (k_WN G.2.1 a rv t) [.ref (a 0)] (k_b r) (k_WN G.2.1 a rv t') := by
  refine k_startI (lv := [(0, .ref (a 0))]) (by decide +kernel) (Nat.le_of_ble_eq_true rfl) rfl ?_
  intro p e s m args below meth c hA hr
  have hA : k_Amb p s m args meth c cX12_nextTale 2 "TaleSharesModel" G _ := hA
  unfold f_M_nextTale_N at hf
  obtain ⟨r_1, hr_1, hf⟩ := k_cp_e hf
  refine k_aload_n (i := 0) hA dX12_nextTale_0 rfl 0 rfl ?_
  refine k_callVi (As := []) (rest := []) hA (m_M_isWhole_N l G a rv t hr_1) cd_X12_isWhole wd_1641 (hc_MN_0 G.2.1 a rv t) rfl rfl (Nat.le_of_ble_eq_true rfl) rfl rfl (Nat.le_of_ble_eq_true rfl) dX12_nextTale_1 ?_
  refine k_if_eq (tgt := 11) hA dX12_nextTale_4 rfl (fun hc => ?_) (fun hc => ?_)
  · have hf := k_ift hc hf
    exact m_M_nextTale_N_11 l G a rv hA hr t hf
  have hf := k_iff hc hf
  obtain ⟨t_2, ht_2, hf⟩ := k_cv_e hf
  refine k_aload_n (i := 0) hA dX12_nextTale_7 rfl 0 rfl ?_
  refine k_callVv (As := []) (rest := []) hA (m_M_takesBack_N l G a rv t ht_2) cd_X12_takesBack wd_1645 (hc_MN_0 G.2.1 a rv t) rfl rfl (Nat.le_of_ble_eq_true rfl) rfl rfl (Nat.le_of_ble_eq_true rfl) dX12_nextTale_8 ?_
  exact m_M_nextTale_N_11 l G a rv hA hr t_2 hf

def f_M_hasTale_N (x1 : Int32) (t : k_St) : Option (Bool × k_St) := k_cv (f_M_startsTales_N x1 t) (fun t_1 => k_cl (f_M_nextTale_N t_1) (fun r_3 t_2 => some (r_3, t_2)))
theorem m_M_hasTale_N (l : Launch) (G : k_G) (a : Nat → Nat) (rv : Value) (x1 : Int32) (t : k_St) {r : Bool} {t' : k_St} (hf : f_M_hasTale_N x1 t = some (r, t')) : k_CI l G yX12_hasTale cX12_hasTale 2 (some .boolean) 3 (k_WN G.2.1 a rv t) [.ref (a 0), .int x1] (k_b r) (k_WN G.2.1 a rv t') := by
  refine k_startI (lv := [(0, .ref (a 0)), (1, .int x1)]) (by decide +kernel) (Nat.le_of_ble_eq_true rfl) rfl ?_
  intro p e s m args below meth c hA hr
  have hA : k_Amb p s m args meth c cX12_hasTale 2 "TaleSharesModel" G _ := hA
  unfold f_M_hasTale_N at hf
  obtain ⟨t_1, ht_1, hf⟩ := k_cv_e hf
  obtain ⟨r_3, t_2, ht_2, hf⟩ := k_cl_e hf
  obtain ⟨rfl, rfl⟩ := k_r2 hf
  refine k_aload_n (i := 0) hA dX12_hasTale_0 rfl 0 rfl ?_
  refine k_iload_n (i := 1) hA dX12_hasTale_1 rfl 1 rfl ?_
  refine k_callVv (As := [.int x1]) (rest := []) hA (m_M_startsTales_N l G a rv x1 t ht_1) cd_X12_startsTales wd_1633 (hc_MN_0 G.2.1 a rv t) rfl rfl (Nat.le_of_ble_eq_true rfl) rfl rfl (Nat.le_of_ble_eq_true rfl) dX12_hasTale_2 ?_
  refine k_aload_n (i := 0) hA dX12_hasTale_5 rfl 0 rfl ?_
  refine k_callVi (As := []) (rest := []) hA (m_M_nextTale_N l G a rv t_1 ht_2) cd_X12_nextTale wd_1637 (hc_MN_0 G.2.1 a rv t_1) rfl rfl (Nat.le_of_ble_eq_true rfl) rfl rfl (Nat.le_of_ble_eq_true rfl) dX12_hasTale_6 ?_
  exact k_iret hA hr (k_narB (k_b01 _)) dX12_hasTale_9

def f_M_good_N (x1 : Int32) (t : k_St) : Int32 × k_St := k_lt (k_sI t 0 1 (0 : Int32)) (fun t_1 => k_lt (k_sI t_1 0 2 (-1 : Int32)) (fun t_2 => (x1, t_2)))
theorem m_M_good_N (l : Launch) (G : k_G) (a : Nat → Nat) (rv : Value) (x1 : Int32) (t : k_St) {r : Int32} {t' : k_St} (hf : f_M_good_N x1 t = (r, t')) : k_CI l G yX12_good cX12_good 2 (some .int) 1 (k_WN G.2.1 a rv t) [.ref (a 0), .int x1] r (k_WN G.2.1 a rv t') := by
  refine k_startI (lv := [(0, .ref (a 0)), (1, .int x1)]) (by decide +kernel) (Nat.le_of_ble_eq_true rfl) rfl ?_
  intro p e s m args below meth c hA hr
  have hA : k_Amb p s m args meth c cX12_good 2 "TaleSharesModel" G _ := hA
  unfold f_M_good_N at hf
  obtain ⟨t_1, et_1, hf⟩ := k_lt_e hf
  obtain ⟨t_2, et_2, hf⟩ := k_lt_e hf
  obtain ⟨rfl, rfl⟩ := k_p2 hf
  refine k_aload_n (i := 0) hA dX12_good_0 rfl 0 rfl ?_
  refine k_iconst hA dX12_good_1 kc_i_0 ?_
  refine pt_MN_0_1 hA wd_1249 et_1 dX12_good_2 ?_
  refine k_aload_n (i := 0) hA dX12_good_5 rfl 0 rfl ?_
  refine k_iconst hA dX12_good_6 kc_i_m1 ?_
  refine pt_MN_0_2 hA wd_1250 et_2 dX12_good_7 ?_
  refine k_iload_n (i := 1) hA dX12_good_10 rfl 1 rfl ?_
  exact k_iret hA hr rfl dX12_good_11

def f_M_house_N (x1 : Int32) (x2 : Int32) (t : k_St) : Option (Int32 × k_St) := k_lt (k_sI t 0 0 (0 : Int32)) (fun t_1 => (if (k_b (f_M_isHouse_N t_1 x1)) = 0 then k_lt (f_M_refused_N (1 : Int32) t_1) (fun q_2 => some (q_2.1, q_2.2)) else (if (k_b (f_M_in x2 (0 : Int32) (5 : Int32))) = 0 then k_lt (f_M_refused_N (1 : Int32) t_1) (fun q_10 => some (q_10.1, q_10.2)) else (if x2 = (0 : Int32) then none else if x2 = (1 : Int32) then none else if x2 = (2 : Int32) then none else if x2 = (3 : Int32) then k_gi x1 6 (k_lt (f_M_good_N (t_1.1 2 x1.toNatClampNeg) t_1) (fun q_4 => some (q_4.1, q_4.2))) else if x2 = (4 : Int32) then none else k_gi x1 6 (k_cl (f_M_hasTale_N (t_1.1 2 x1.toNatClampNeg) t_1) (fun r_7 t_6 => (if (k_b r_7) = 0 then k_lt (f_M_good_N (0 : Int32) t_6) (fun q_8 => some (q_8.1, q_8.2)) else k_lt (f_M_good_N (1 : Int32) t_6) (fun q_9 => some (q_9.1, q_9.2)))))))))
theorem m_M_house_N (l : Launch) (G : k_G) (a : Nat → Nat) (rv : Value) (x1 : Int32) (x2 : Int32) (t : k_St) {r : Int32} {t' : k_St} (hf : f_M_house_N x1 x2 t = some (r, t')) : k_CI l G yX12_house cX12_house 3 (some .int) 4 (k_WN G.2.1 a rv t) [.ref (a 0), .int x1, .int x2] r (k_WN G.2.1 a rv t') := by
  refine k_startI (lv := [(0, .ref (a 0)), (1, .int x1), (2, .int x2)]) (by decide +kernel) (Nat.le_of_ble_eq_true rfl) rfl ?_
  intro p e s m args below meth c hA hr
  have hA : k_Amb p s m args meth c cX12_house 3 "TaleSharesModel" G _ := hA
  unfold f_M_house_N at hf
  obtain ⟨t_1, et_1, hf⟩ := k_lt_e hf
  refine k_aload_n (i := 0) hA dX12_house_0 rfl 0 rfl ?_
  refine k_iconst hA dX12_house_1 kc_i_0 ?_
  refine pt_MN_0_0 hA wd_1248 et_1 dX12_house_2 ?_
  refine k_aload_n (i := 0) hA dX12_house_5 rfl 0 rfl ?_
  refine k_iload_n (i := 1) hA dX12_house_6 rfl 1 rfl ?_
  refine k_callVi (As := [.int x1]) (rest := []) hA (m_M_isHouse_N l G a rv t_1 x1 rfl) cd_X12_isHouse wd_1625 (hc_MN_0 G.2.1 a rv t_1) rfl rfl (Nat.le_of_ble_eq_true rfl) rfl rfl (Nat.le_of_ble_eq_true rfl) dX12_house_7 ?_
  refine k_if_eq (tgt := 22) hA dX12_house_10 rfl (fun hc => ?_) (fun hc => ?_)
  · have hf := k_ift hc hf
    obtain ⟨⟨rq_2, tq_2⟩, hq_2, hf⟩ := k_lt_e hf
    dsimp only at hf
    obtain ⟨rfl, rfl⟩ := k_r2 hf
    refine k_aload_n (i := 0) hA dX12_house_22 rfl 0 rfl ?_
    refine k_iconst hA dX12_house_23 kc_i_1 ?_
    refine k_callVi (As := [.int (1 : Int32)]) (rest := []) hA (m_M_refused_N l G a rv (1 : Int32) t_1 hq_2.symm) cd_X12_refused wd_1390 (hc_MN_0 G.2.1 a rv t_1) rfl rfl (Nat.le_of_ble_eq_true rfl) rfl rfl (Nat.le_of_ble_eq_true rfl) dX12_house_24 ?_
    exact k_iret hA hr rfl dX12_house_27
  have hf := k_iff hc hf
  refine k_iload_n (i := 2) hA dX12_house_13 rfl 2 rfl ?_
  refine k_iconst hA dX12_house_14 kc_i_0 ?_
  refine k_iconst hA dX12_house_15 kc_i_5 ?_
  refine k_callSi (As := [.int x2, .int (0 : Int32), .int (5 : Int32)]) (rest := []) hA (m_M_in l G (k_WN G.2.1 a rv t_1) x2 (0 : Int32) (5 : Int32) rfl) cd_X12_in wd_1525 (Nat.le_of_ble_eq_true rfl) rfl rfl (Nat.le_of_ble_eq_true rfl) dX12_house_16 ?_
  refine k_if_ne (tgt := 28) hA dX12_house_19 rfl (fun hc => ?_) (fun hc => ?_)
  · have hf := k_iff hc hf
    refine k_iload_n (i := 2) hA dX12_house_28 rfl 2 rfl ?_
    by_cases hs_0 : x2 = (0 : Int32)
    · have hf := k_ift hs_0 hf
      refine k_tin (tgt := 64) hA dX12_house_29 (by rw [hs_0]; decide) (by rw [hs_0]; decide) (by rw [hs_0]; rfl) rfl ?_
      cases hf
    have hf := k_iff hs_0 hf
    by_cases hs_1 : x2 = (1 : Int32)
    · have hf := k_ift hs_1 hf
      refine k_tin (tgt := 78) hA dX12_house_29 (by rw [hs_1]; decide) (by rw [hs_1]; decide) (by rw [hs_1]; rfl) rfl ?_
      cases hf
    have hf := k_iff hs_1 hf
    by_cases hs_2 : x2 = (2 : Int32)
    · have hf := k_ift hs_2 hf
      refine k_tin (tgt := 92) hA dX12_house_29 (by rw [hs_2]; decide) (by rw [hs_2]; decide) (by rw [hs_2]; rfl) rfl ?_
      cases hf
    have hf := k_iff hs_2 hf
    by_cases hs_3 : x2 = (3 : Int32)
    · have hf := k_ift hs_3 hf
      refine k_tin (tgt := 106) hA dX12_house_29 (by rw [hs_3]; decide) (by rw [hs_3]; decide) (by rw [hs_3]; rfl) rfl ?_
      obtain ⟨hi_3, hf⟩ := k_gi_e hf
      obtain ⟨⟨rq_4, tq_4⟩, hq_4, hf⟩ := k_lt_e hf
      dsimp only at hf
      obtain ⟨rfl, rfl⟩ := k_r2 hf
      refine k_aload_n (i := 0) hA dX12_house_106 rfl 0 rfl ?_
      refine k_aload_n (i := 0) hA dX12_house_107 rfl 0 rfl ?_
      refine gt_MN_0_15 hA wd_1263 dX12_house_108 ?_
      refine k_iload_n (i := 1) hA dX12_house_111 rfl 1 rfl ?_
      refine ld_MN_2 hA hi_3 dX12_house_112 ?_
      refine k_callVi (As := [.int (t_1.1 2 x1.toNatClampNeg)]) (rest := []) hA (m_M_good_N l G a rv (t_1.1 2 x1.toNatClampNeg) t_1 hq_4.symm) cd_X12_good wd_1601 (hc_MN_0 G.2.1 a rv t_1) rfl rfl (Nat.le_of_ble_eq_true rfl) rfl rfl (Nat.le_of_ble_eq_true rfl) dX12_house_113 ?_
      exact k_iret hA hr rfl dX12_house_116
    have hf := k_iff hs_3 hf
    by_cases hs_4 : x2 = (4 : Int32)
    · have hf := k_ift hs_4 hf
      refine k_tin (tgt := 117) hA dX12_house_29 (by rw [hs_4]; decide) (by rw [hs_4]; decide) (by rw [hs_4]; rfl) rfl ?_
      cases hf
    have hf := k_iff hs_4 hf
    refine k_tout (tgt := 141) hA dX12_house_29 (k_sw0_4 hs_0 hs_1 hs_2 hs_3 hs_4) rfl ?_
    obtain ⟨hi_5, hf⟩ := k_gi_e hf
    obtain ⟨r_7, t_6, ht_6, hf⟩ := k_cl_e hf
    refine k_aload_n (i := 0) hA dX12_house_141 rfl 0 rfl ?_
    refine k_aload_n (i := 0) hA dX12_house_142 rfl 0 rfl ?_
    refine k_aload_n (i := 0) hA dX12_house_143 rfl 0 rfl ?_
    refine gt_MN_0_15 hA wd_1263 dX12_house_144 ?_
    refine k_iload_n (i := 1) hA dX12_house_147 rfl 1 rfl ?_
    refine ld_MN_2 hA hi_5 dX12_house_148 ?_
    refine k_callVi (As := [.int (t_1.1 2 x1.toNatClampNeg)]) (rest := [.ref (a 0)]) hA (m_M_hasTale_N l G a rv (t_1.1 2 x1.toNatClampNeg) t_1 ht_6) cd_X12_hasTale wd_1629 (hc_MN_0 G.2.1 a rv t_1) rfl rfl (Nat.le_of_ble_eq_true rfl) rfl rfl (Nat.le_of_ble_eq_true rfl) dX12_house_149 ?_
    refine k_if_eq (tgt := 159) hA dX12_house_152 rfl (fun hc => ?_) (fun hc => ?_)
    · have hf := k_ift hc hf
      obtain ⟨⟨rq_8, tq_8⟩, hq_8, hf⟩ := k_lt_e hf
      dsimp only at hf
      obtain ⟨rfl, rfl⟩ := k_r2 hf
      refine k_iconst hA dX12_house_159 kc_i_0 ?_
      refine k_callVi (As := [.int (0 : Int32)]) (rest := []) hA (m_M_good_N l G a rv (0 : Int32) t_6 hq_8.symm) cd_X12_good wd_1601 (hc_MN_0 G.2.1 a rv t_6) rfl rfl (Nat.le_of_ble_eq_true rfl) rfl rfl (Nat.le_of_ble_eq_true rfl) dX12_house_160 ?_
      exact k_iret hA hr rfl dX12_house_163
    have hf := k_iff hc hf
    obtain ⟨⟨rq_9, tq_9⟩, hq_9, hf⟩ := k_lt_e hf
    dsimp only at hf
    obtain ⟨rfl, rfl⟩ := k_r2 hf
    refine k_iconst hA dX12_house_155 kc_i_1 ?_
    refine k_goto (tgt := 160) hA dX12_house_156 rfl ?_
    refine k_callVi (As := [.int (1 : Int32)]) (rest := []) hA (m_M_good_N l G a rv (1 : Int32) t_6 hq_9.symm) cd_X12_good wd_1601 (hc_MN_0 G.2.1 a rv t_6) rfl rfl (Nat.le_of_ble_eq_true rfl) rfl rfl (Nat.le_of_ble_eq_true rfl) dX12_house_160 ?_
    exact k_iret hA hr rfl dX12_house_163
  have hf := k_ift hc hf
  obtain ⟨⟨rq_10, tq_10⟩, hq_10, hf⟩ := k_lt_e hf
  dsimp only at hf
  obtain ⟨rfl, rfl⟩ := k_r2 hf
  refine k_aload_n (i := 0) hA dX12_house_22 rfl 0 rfl ?_
  refine k_iconst hA dX12_house_23 kc_i_1 ?_
  refine k_callVi (As := [.int (1 : Int32)]) (rest := []) hA (m_M_refused_N l G a rv (1 : Int32) t_1 hq_10.symm) cd_X12_refused wd_1390 (hc_MN_0 G.2.1 a rv t_1) rfl rfl (Nat.le_of_ble_eq_true rfl) rfl rfl (Nat.le_of_ble_eq_true rfl) dX12_house_24 ?_
  exact k_iret hA hr rfl dX12_house_27

def f_M_known_N (t : k_St) : Int32 × k_St := k_lt (k_sI t 0 0 (0 : Int32)) (fun t_1 => k_lt (f_M_refused_N (1 : Int32) t_1) (fun q_2 => (q_2.1, q_2.2)))
theorem m_M_known_N (l : Launch) (G : k_G) (a : Nat → Nat) (rv : Value) (t : k_St) {r : Int32} {t' : k_St} (hf : f_M_known_N t = (r, t')) : k_CI l G yX12_known cX12_known 1 (some .int) 2 (k_WN G.2.1 a rv t) [.ref (a 0)] r (k_WN G.2.1 a rv t') := by
  refine k_startI (lv := [(0, .ref (a 0))]) (by decide +kernel) (Nat.le_of_ble_eq_true rfl) rfl ?_
  intro p e s m args below meth c hA hr
  have hA : k_Amb p s m args meth c cX12_known 1 "TaleSharesModel" G _ := hA
  unfold f_M_known_N at hf
  obtain ⟨t_1, et_1, hf⟩ := k_lt_e hf
  obtain ⟨⟨rq_2, tq_2⟩, hq_2, hf⟩ := k_lt_e hf
  dsimp only at hf
  obtain ⟨rfl, rfl⟩ := k_p2 hf
  refine k_aload_n (i := 0) hA dX12_known_0 rfl 0 rfl ?_
  refine k_iconst hA dX12_known_1 kc_i_0 ?_
  refine pt_MN_0_0 hA wd_1248 et_1 dX12_known_2 ?_
  refine k_aload_n (i := 0) hA dX12_known_5 rfl 0 rfl ?_
  refine gt_MN_0_3 hA wd_1251 dX12_known_6 ?_
  refine k_ifnonnullN hA dX12_known_9 ?_
  refine k_aload_n (i := 0) hA dX12_known_12 rfl 0 rfl ?_
  refine k_iconst hA dX12_known_13 kc_i_1 ?_
  refine k_callVi (As := [.int (1 : Int32)]) (rest := []) hA (m_M_refused_N l G a rv (1 : Int32) t_1 hq_2.symm) cd_X12_refused wd_1390 (hc_MN_0 G.2.1 a rv t_1) rfl rfl (Nat.le_of_ble_eq_true rfl) rfl rfl (Nat.le_of_ble_eq_true rfl) dX12_known_14 ?_
  refine k_goto (tgt := 29) hA dX12_known_17 rfl ?_
  exact k_iret hA hr rfl dX12_known_29

def f_M_knownBut_N (t : k_St) (x1 : Int32) : Option Int32 := none
theorem m_M_knownBut_N (l : Launch) (G : k_G) (a : Nat → Nat) (rv : Value) (t : k_St) (x1 : Int32) {r : Int32} (hf : f_M_knownBut_N t x1 = some r) : k_CI l G yX12_knownBut cX12_knownBut 4 (some .int) 1 (k_WN G.2.1 a rv t) [.ref (a 0), .int x1] r (k_WN G.2.1 a rv t) := by
  refine k_startI (lv := [(0, .ref (a 0)), (1, .int x1)]) (by decide +kernel) (Nat.le_of_ble_eq_true rfl) rfl ?_
  intro p e s m args below meth c hA hr
  have hA : k_Amb p s m args meth c cX12_knownBut 4 "TaleSharesModel" G _ := hA
  unfold f_M_knownBut_N at hf
  cases hf

def f_M_alone_N (x1 : Int32) (t : k_St) : Option (Int32 × k_St) := k_lt (k_sI t 0 0 (0 : Int32)) (fun t_1 => (if (k_b (f_M_isHouse_N t_1 x1)) = 0 then k_lt (f_M_refused_N (1 : Int32) t_1) (fun q_2 => some (q_2.1, q_2.2)) else k_gi x1 6 (k_cp (f_M_knownBut_N t_1 x1) (fun r_4 => k_lt (f_M_good_N ((t_1.1 2 x1.toNatClampNeg) &&& (r_4 ^^^ (-1 : Int32))) t_1) (fun q_5 => some (q_5.1, q_5.2))))))
theorem m_M_alone_N (l : Launch) (G : k_G) (a : Nat → Nat) (rv : Value) (x1 : Int32) (t : k_St) {r : Int32} {t' : k_St} (hf : f_M_alone_N x1 t = some (r, t')) : k_CI l G yX12_alone cX12_alone 2 (some .int) 2 (k_WN G.2.1 a rv t) [.ref (a 0), .int x1] r (k_WN G.2.1 a rv t') := by
  refine k_startI (lv := [(0, .ref (a 0)), (1, .int x1)]) (by decide +kernel) (Nat.le_of_ble_eq_true rfl) rfl ?_
  intro p e s m args below meth c hA hr
  have hA : k_Amb p s m args meth c cX12_alone 2 "TaleSharesModel" G _ := hA
  unfold f_M_alone_N at hf
  obtain ⟨t_1, et_1, hf⟩ := k_lt_e hf
  refine k_aload_n (i := 0) hA dX12_alone_0 rfl 0 rfl ?_
  refine k_iconst hA dX12_alone_1 kc_i_0 ?_
  refine pt_MN_0_0 hA wd_1248 et_1 dX12_alone_2 ?_
  refine k_aload_n (i := 0) hA dX12_alone_5 rfl 0 rfl ?_
  refine k_iload_n (i := 1) hA dX12_alone_6 rfl 1 rfl ?_
  refine k_callVi (As := [.int x1]) (rest := []) hA (m_M_isHouse_N l G a rv t_1 x1 rfl) cd_X12_isHouse wd_1625 (hc_MN_0 G.2.1 a rv t_1) rfl rfl (Nat.le_of_ble_eq_true rfl) rfl rfl (Nat.le_of_ble_eq_true rfl) dX12_alone_7 ?_
  refine k_if_eq (tgt := 34) hA dX12_alone_10 rfl (fun hc => ?_) (fun hc => ?_)
  · have hf := k_ift hc hf
    obtain ⟨⟨rq_2, tq_2⟩, hq_2, hf⟩ := k_lt_e hf
    dsimp only at hf
    obtain ⟨rfl, rfl⟩ := k_r2 hf
    refine k_aload_n (i := 0) hA dX12_alone_34 rfl 0 rfl ?_
    refine k_iconst hA dX12_alone_35 kc_i_1 ?_
    refine k_callVi (As := [.int (1 : Int32)]) (rest := []) hA (m_M_refused_N l G a rv (1 : Int32) t_1 hq_2.symm) cd_X12_refused wd_1390 (hc_MN_0 G.2.1 a rv t_1) rfl rfl (Nat.le_of_ble_eq_true rfl) rfl rfl (Nat.le_of_ble_eq_true rfl) dX12_alone_36 ?_
    exact k_iret hA hr rfl dX12_alone_39
  have hf := k_iff hc hf
  obtain ⟨hi_3, hf⟩ := k_gi_e hf
  obtain ⟨r_4, hr_4, hf⟩ := k_cp_e hf
  obtain ⟨⟨rq_5, tq_5⟩, hq_5, hf⟩ := k_lt_e hf
  dsimp only at hf
  obtain ⟨rfl, rfl⟩ := k_r2 hf
  refine k_aload_n (i := 0) hA dX12_alone_13 rfl 0 rfl ?_
  refine k_aload_n (i := 0) hA dX12_alone_14 rfl 0 rfl ?_
  refine gt_MN_0_15 hA wd_1263 dX12_alone_15 ?_
  refine k_iload_n (i := 1) hA dX12_alone_18 rfl 1 rfl ?_
  refine ld_MN_2 hA hi_3 dX12_alone_19 ?_
  refine k_aload_n (i := 0) hA dX12_alone_20 rfl 0 rfl ?_
  refine k_iload_n (i := 1) hA dX12_alone_21 rfl 1 rfl ?_
  refine k_callVi (As := [.int x1]) (rest := [.int (t_1.1 2 x1.toNatClampNeg), .ref (a 0)]) hA (m_M_knownBut_N l G a rv t_1 x1 hr_4) cd_X12_knownBut wd_1657 (hc_MN_0 G.2.1 a rv t_1) rfl rfl (Nat.le_of_ble_eq_true rfl) rfl rfl (Nat.le_of_ble_eq_true rfl) dX12_alone_22 ?_
  refine k_iconst hA dX12_alone_25 kc_i_m1 ?_
  refine k_ixor hA dX12_alone_26 ?_
  refine k_iand hA dX12_alone_27 ?_
  refine k_callVi (As := [.int ((t_1.1 2 x1.toNatClampNeg) &&& (r_4 ^^^ (-1 : Int32)))]) (rest := []) hA (m_M_good_N l G a rv ((t_1.1 2 x1.toNatClampNeg) &&& (r_4 ^^^ (-1 : Int32))) t_1 hq_5.symm) cd_X12_good wd_1601 (hc_MN_0 G.2.1 a rv t_1) rfl rfl (Nat.le_of_ble_eq_true rfl) rfl rfl (Nat.le_of_ble_eq_true rfl) dX12_alone_28 ?_
  refine k_goto (tgt := 39) hA dX12_alone_31 rfl ?_
  exact k_iret hA hr rfl dX12_alone_39

def f_M_arePieces_N (t : k_St) (x1 : Int32) : Bool := false
theorem m_M_arePieces_N (l : Launch) (G : k_G) (a : Nat → Nat) (rv : Value) (t : k_St) (x1 : Int32) {r : Bool} (hf : f_M_arePieces_N t x1 = r) : k_CI l G yX12_arePieces cX12_arePieces 2 (some .boolean) 1 (k_WN G.2.1 a rv t) [.ref (a 0), .int x1] (k_b r) (k_WN G.2.1 a rv t) := by
  refine k_startI (lv := [(0, .ref (a 0)), (1, .int x1)]) (by decide +kernel) (Nat.le_of_ble_eq_true rfl) rfl ?_
  intro p e s m args below meth c hA hr
  have hA : k_Amb p s m args meth c cX12_arePieces 2 "TaleSharesModel" G _ := hA
  unfold f_M_arePieces_N at hf
  subst hf
  refine k_aload_n (i := 0) hA dX12_arePieces_0 rfl 0 rfl ?_
  refine gt_MN_0_3 hA wd_1251 dX12_arePieces_1 ?_
  refine k_ifnullN (tgt := 26) hA dX12_arePieces_4 rfl ?_
  refine k_iconst hA dX12_arePieces_26 kc_i_0 ?_
  exact k_iret hA hr (k_narB (k_b01 _)) dX12_arePieces_27

def f_M_tellsAll_N_7 (n : Nat) : Nat → Int32 → k_St → Option (Int32 × k_St)
  | 0, _, _ => none
  | k + 1, x2, t => k_cl (f_M_nextTale_N t) (fun r_2 t_1 => (if (k_b r_2) = 0 then some (x2, t_1) else k_lt (x2 + (1 : Int32)) (fun x2_3 => f_M_tellsAll_N_7 n k x2_3 t_1)))
def f_M_tellsAll_N (n : Nat) (x1 : Int32) (t : k_St) : Option (Int32 × k_St) := k_cv (f_M_startsTales_N x1 t) (fun t_1 => f_M_tellsAll_N_7 n n (0 : Int32) t_1)
theorem m_M_tellsAll_N_7 {p : Program} (l : Launch) {e : Env} {s : State} {m : MethodId} {args : Array Value} {below : List Frame} {meth : Method} {c : Code} (G : k_G) (a : Nat → Nat) (rv : Value) (n : Nat) {w0 : va_W} {r : Int32} {t' : k_St} (hA : k_Amb p s m args meth c cX12_tellsAll 3 "TaleSharesModel" G (va_A w0 s.heap.size)) (hr : meth.sig.returnType = (some .int)) : ∀ (k : Nat) (x2 : Int32) (t : k_St), f_M_tellsAll_N_7 n k x2 t = some (r, t') → k_Go p l e (k_rm 3) s m args below meth c (k_QI G w0 r (k_WN G.2.1 a rv t') args s below) 3 G (va_A w0 s.heap.size) (k_WN G.2.1 a rv t) 7 [(0, .ref (a 0)), (2, .int x2)] [] := by
  intro k
  induction k with
  | zero => intro x2 t hf; cases hf
  | succ k ih =>
  intro x2 t hf
  rw [f_M_tellsAll_N_7] at hf
  obtain ⟨r_2, t_1, ht_1, hf⟩ := k_cl_e hf
  refine k_aload_n (i := 0) hA dX12_tellsAll_7 rfl 0 rfl ?_
  refine k_callVi (As := []) (rest := []) hA (m_M_nextTale_N l G a rv t ht_1) cd_X12_nextTale wd_1637 (hc_MN_0 G.2.1 a rv t) rfl rfl (Nat.le_of_ble_eq_true rfl) rfl rfl (Nat.le_of_ble_eq_true rfl) dX12_tellsAll_8 ?_
  refine k_if_eq (tgt := 20) hA dX12_tellsAll_11 rfl (fun hc => ?_) (fun hc => ?_)
  · have hf := k_ift hc hf
    obtain ⟨rfl, rfl⟩ := k_r2 hf
    refine k_iload_n (i := 2) hA dX12_tellsAll_20 rfl 1 rfl ?_
    exact k_iret hA hr rfl dX12_tellsAll_21
  have hf := k_iff hc hf
  obtain ⟨x2_3, ex2_3, hf⟩ := k_lt_e hf
  refine k_iinc (j := 1) (v := x2_3) (lv' := [(2, .int x2_3), (0, .ref (a 0))]) hA dX12_tellsAll_14 rfl (k_inc ex2_3 kc_i_1) (Nat.le_of_ble_eq_true rfl) rfl ?_
  refine k_goto (tgt := 7) hA dX12_tellsAll_17 rfl ?_
  refine k_pick (lv' := [(0, .ref (a 0)), (2, .int x2_3)]) [1, 0] rfl ?_
  exact ih x2_3 t_1 hf

theorem m_M_tellsAll_N (l : Launch) (G : k_G) (a : Nat → Nat) (rv : Value) (n : Nat) (x1 : Int32) (t : k_St) {r : Int32} {t' : k_St} (hf : f_M_tellsAll_N n x1 t = some (r, t')) : k_CI l G yX12_tellsAll cX12_tellsAll 3 (some .int) 3 (k_WN G.2.1 a rv t) [.ref (a 0), .int x1] r (k_WN G.2.1 a rv t') := by
  refine k_startI (lv := [(0, .ref (a 0)), (1, .int x1)]) (by decide +kernel) (Nat.le_of_ble_eq_true rfl) rfl ?_
  intro p e s m args below meth c hA hr
  have hA : k_Amb p s m args meth c cX12_tellsAll 3 "TaleSharesModel" G _ := hA
  unfold f_M_tellsAll_N at hf
  obtain ⟨t_1, ht_1, hf⟩ := k_cv_e hf
  refine k_iconst hA dX12_tellsAll_0 kc_i_0 ?_
  refine k_istore_n (i := 2) (lv' := [(2, .int (0 : Int32)), (0, .ref (a 0)), (1, .int x1)]) hA dX12_tellsAll_1 rfl rfl (Nat.le_of_ble_eq_true rfl) rfl ?_
  refine k_aload_n (i := 0) hA dX12_tellsAll_2 rfl 1 rfl ?_
  refine k_iload_n (i := 1) hA dX12_tellsAll_3 rfl 2 rfl ?_
  refine k_callVv (As := [.int x1]) (rest := []) hA (m_M_startsTales_N l G a rv x1 t ht_1) cd_X12_startsTales wd_1633 (hc_MN_0 G.2.1 a rv t) rfl rfl (Nat.le_of_ble_eq_true rfl) rfl rfl (Nat.le_of_ble_eq_true rfl) dX12_tellsAll_4 ?_
  refine k_pick (lv' := [(0, .ref (a 0)), (2, .int (0 : Int32))]) [1, 0] rfl ?_
  exact m_M_tellsAll_N_7 l G a rv n hA hr n (0 : Int32) t_1 hf

def f_M_tales_N (n : Nat) (x1 : Int32) (t : k_St) : Option (Int32 × k_St) := k_lt (k_sI t 0 0 (0 : Int32)) (fun t_1 => (if (k_b (f_M_arePieces_N t_1 x1)) = 0 then k_lt (f_M_refused_N (1 : Int32) t_1) (fun q_2 => some (q_2.1, q_2.2)) else k_cl (f_M_tellsAll_N n x1 t_1) (fun r_4 t_3 => k_lt (f_M_good_N r_4 t_3) (fun q_5 => some (q_5.1, q_5.2)))))
theorem m_M_tales_N (l : Launch) (G : k_G) (a : Nat → Nat) (rv : Value) (n : Nat) (x1 : Int32) (t : k_St) {r : Int32} {t' : k_St} (hf : f_M_tales_N n x1 t = some (r, t')) : k_CI l G yX12_tales cX12_tales 2 (some .int) 4 (k_WN G.2.1 a rv t) [.ref (a 0), .int x1] r (k_WN G.2.1 a rv t') := by
  refine k_startI (lv := [(0, .ref (a 0)), (1, .int x1)]) (by decide +kernel) (Nat.le_of_ble_eq_true rfl) rfl ?_
  intro p e s m args below meth c hA hr
  have hA : k_Amb p s m args meth c cX12_tales 2 "TaleSharesModel" G _ := hA
  unfold f_M_tales_N at hf
  obtain ⟨t_1, et_1, hf⟩ := k_lt_e hf
  refine k_aload_n (i := 0) hA dX12_tales_0 rfl 0 rfl ?_
  refine k_iconst hA dX12_tales_1 kc_i_0 ?_
  refine pt_MN_0_0 hA wd_1248 et_1 dX12_tales_2 ?_
  refine k_aload_n (i := 0) hA dX12_tales_5 rfl 0 rfl ?_
  refine k_iload_n (i := 1) hA dX12_tales_6 rfl 1 rfl ?_
  refine k_callVi (As := [.int x1]) (rest := []) hA (m_M_arePieces_N l G a rv t_1 x1 rfl) cd_X12_arePieces wd_1669 (hc_MN_0 G.2.1 a rv t_1) rfl rfl (Nat.le_of_ble_eq_true rfl) rfl rfl (Nat.le_of_ble_eq_true rfl) dX12_tales_7 ?_
  refine k_if_eq (tgt := 25) hA dX12_tales_10 rfl (fun hc => ?_) (fun hc => ?_)
  · have hf := k_ift hc hf
    obtain ⟨⟨rq_2, tq_2⟩, hq_2, hf⟩ := k_lt_e hf
    dsimp only at hf
    obtain ⟨rfl, rfl⟩ := k_r2 hf
    refine k_aload_n (i := 0) hA dX12_tales_25 rfl 0 rfl ?_
    refine k_iconst hA dX12_tales_26 kc_i_1 ?_
    refine k_callVi (As := [.int (1 : Int32)]) (rest := []) hA (m_M_refused_N l G a rv (1 : Int32) t_1 hq_2.symm) cd_X12_refused wd_1390 (hc_MN_0 G.2.1 a rv t_1) rfl rfl (Nat.le_of_ble_eq_true rfl) rfl rfl (Nat.le_of_ble_eq_true rfl) dX12_tales_27 ?_
    exact k_iret hA hr rfl dX12_tales_30
  have hf := k_iff hc hf
  obtain ⟨r_4, t_3, ht_3, hf⟩ := k_cl_e hf
  obtain ⟨⟨rq_5, tq_5⟩, hq_5, hf⟩ := k_lt_e hf
  dsimp only at hf
  obtain ⟨rfl, rfl⟩ := k_r2 hf
  refine k_aload_n (i := 0) hA dX12_tales_13 rfl 0 rfl ?_
  refine k_aload_n (i := 0) hA dX12_tales_14 rfl 0 rfl ?_
  refine k_iload_n (i := 1) hA dX12_tales_15 rfl 1 rfl ?_
  refine k_callVi (As := [.int x1]) (rest := [.ref (a 0)]) hA (m_M_tellsAll_N l G a rv n x1 t_1 ht_3) cd_X12_tellsAll wd_1677 (hc_MN_0 G.2.1 a rv t_1) rfl rfl (Nat.le_of_ble_eq_true rfl) rfl rfl (Nat.le_of_ble_eq_true rfl) dX12_tales_16 ?_
  refine k_callVi (As := [.int r_4]) (rest := []) hA (m_M_good_N l G a rv r_4 t_3 hq_5.symm) cd_X12_good wd_1601 (hc_MN_0 G.2.1 a rv t_3) rfl rfl (Nat.le_of_ble_eq_true rfl) rfl rfl (Nat.le_of_ble_eq_true rfl) dX12_tales_19 ?_
  refine k_goto (tgt := 30) hA dX12_tales_22 rfl ?_
  exact k_iret hA hr rfl dX12_tales_30

def f_M_longestOf_N_32 (n : Nat) (rec7 : Int32 → k_St → Option (Int32 × k_St)) : Nat → Int32 → Int32 → k_St → Option (Int32 × k_St)
  | 0, _, _, _ => none
  | k + 1, x2, x3, t => (if (t.1 0 22) ≤ x3 then rec7 x2 t else k_gi x3 9 (k_gi x3 8 (k_lt (k_sI t 7 x3.toNatClampNeg (t.1 6 x3.toNatClampNeg)) (fun t_3 => k_lt (x3 + (1 : Int32)) (fun x3_4 => f_M_longestOf_N_32 n rec7 k x2 x3_4 t_3)))))
def f_M_longestOf_N_7 (n : Nat) : Nat → Int32 → k_St → Option (Int32 × k_St)
  | 0, _, _ => none
  | k + 1, x2, t => k_cl (f_M_nextTale_N t) (fun r_2 t_1 => (if (k_b r_2) = 0 then some (x2, t_1) else (if x2 < (t_1.1 0 22) then k_lt (t_1.1 0 22) (fun x2_3 => f_M_longestOf_N_32 n (f_M_longestOf_N_7 n k) n x2_3 (0 : Int32) t_1) else f_M_longestOf_N_7 n k x2 t_1)))
def f_M_longestOf_N (n : Nat) (x1 : Int32) (t : k_St) : Option (Int32 × k_St) := k_cv (f_M_startsTales_N x1 t) (fun t_1 => f_M_longestOf_N_7 n n (0 : Int32) t_1)
theorem m_M_longestOf_N_32 {p : Program} (l : Launch) {e : Env} {s : State} {m : MethodId} {args : Array Value} {below : List Frame} {meth : Method} {c : Code} (G : k_G) (a : Nat → Nat) (rv : Value) (n : Nat) {w0 : va_W} {r : Int32} {t' : k_St} (hA : k_Amb p s m args meth c cX12_longestOf 4 "TaleSharesModel" G (va_A w0 s.heap.size)) (hr : meth.sig.returnType = (some .int)) (rec7 : Int32 → k_St → Option (Int32 × k_St)) (hrec7 : ∀ (x2 : Int32) (t : k_St), rec7 x2 t = some (r, t') → k_Go p l e (k_rm 3) s m args below meth c (k_QI G w0 r (k_WN G.2.1 a rv t') args s below) 4 G (va_A w0 s.heap.size) (k_WN G.2.1 a rv t) 7 [(0, .ref (a 0)), (2, .int x2)] []) : ∀ (k : Nat) (x2 : Int32) (x3 : Int32) (t : k_St), f_M_longestOf_N_32 n rec7 k x2 x3 t = some (r, t') → k_Go p l e (k_rm 3) s m args below meth c (k_QI G w0 r (k_WN G.2.1 a rv t') args s below) 4 G (va_A w0 s.heap.size) (k_WN G.2.1 a rv t) 32 [(0, .ref (a 0)), (2, .int x2), (3, .int x3)] [] := by
  intro k
  induction k with
  | zero => intro x2 x3 t hf; cases hf
  | succ k ih =>
  intro x2 x3 t hf
  rw [f_M_longestOf_N_32] at hf
  refine k_iload_n (i := 3) hA dX12_longestOf_32 rfl 2 rfl ?_
  refine k_aload_n (i := 0) hA dX12_longestOf_33 rfl 0 rfl ?_
  refine gt_MN_0_22 hA wd_1270 dX12_longestOf_34 ?_
  refine k_icmp_ge (tgt := 58) hA dX12_longestOf_37 rfl (fun hc => ?_) (fun hc => ?_)
  · have hf := k_ift hc hf
    refine k_goto (tgt := 7) hA dX12_longestOf_58 rfl ?_
    refine k_pick (lv' := [(0, .ref (a 0)), (2, .int x2)]) [0, 1] rfl ?_
    exact hrec7 x2 t hf
  have hf := k_iff hc hf
  obtain ⟨hi_1, hf⟩ := k_gi_e hf
  obtain ⟨hi_2, hf⟩ := k_gi_e hf
  obtain ⟨t_3, et_3, hf⟩ := k_lt_e hf
  obtain ⟨x3_4, ex3_4, hf⟩ := k_lt_e hf
  refine k_aload_n (i := 0) hA dX12_longestOf_40 rfl 0 rfl ?_
  refine gt_MN_0_26 hA wd_1274 dX12_longestOf_41 ?_
  refine k_iload_n (i := 3) hA dX12_longestOf_44 rfl 2 rfl ?_
  refine k_aload_n (i := 0) hA dX12_longestOf_45 rfl 0 rfl ?_
  refine gt_MN_0_21 hA wd_1269 dX12_longestOf_46 ?_
  refine k_iload_n (i := 3) hA dX12_longestOf_49 rfl 2 rfl ?_
  refine ld_MN_6 hA hi_1 dX12_longestOf_50 ?_
  refine sr_MN_7 hA hi_2 et_3 dX12_longestOf_51 ?_
  refine k_iinc (j := 2) (v := x3_4) (lv' := [(3, .int x3_4), (0, .ref (a 0)), (2, .int x2)]) hA dX12_longestOf_52 rfl (k_inc ex3_4 kc_i_1) (Nat.le_of_ble_eq_true rfl) rfl ?_
  refine k_goto (tgt := 32) hA dX12_longestOf_55 rfl ?_
  refine k_pick (lv' := [(0, .ref (a 0)), (2, .int x2), (3, .int x3_4)]) [1, 2, 0] rfl ?_
  exact ih x2 x3_4 t_3 hf

theorem m_M_longestOf_N_7 {p : Program} (l : Launch) {e : Env} {s : State} {m : MethodId} {args : Array Value} {below : List Frame} {meth : Method} {c : Code} (G : k_G) (a : Nat → Nat) (rv : Value) (n : Nat) {w0 : va_W} {r : Int32} {t' : k_St} (hA : k_Amb p s m args meth c cX12_longestOf 4 "TaleSharesModel" G (va_A w0 s.heap.size)) (hr : meth.sig.returnType = (some .int)) : ∀ (k : Nat) (x2 : Int32) (t : k_St), f_M_longestOf_N_7 n k x2 t = some (r, t') → k_Go p l e (k_rm 3) s m args below meth c (k_QI G w0 r (k_WN G.2.1 a rv t') args s below) 4 G (va_A w0 s.heap.size) (k_WN G.2.1 a rv t) 7 [(0, .ref (a 0)), (2, .int x2)] [] := by
  intro k
  induction k with
  | zero => intro x2 t hf; cases hf
  | succ k ih =>
  intro x2 t hf
  rw [f_M_longestOf_N_7] at hf
  obtain ⟨r_2, t_1, ht_1, hf⟩ := k_cl_e hf
  refine k_aload_n (i := 0) hA dX12_longestOf_7 rfl 0 rfl ?_
  refine k_callVi (As := []) (rest := []) hA (m_M_nextTale_N l G a rv t ht_1) cd_X12_nextTale wd_1637 (hc_MN_0 G.2.1 a rv t) rfl rfl (Nat.le_of_ble_eq_true rfl) rfl rfl (Nat.le_of_ble_eq_true rfl) dX12_longestOf_8 ?_
  refine k_if_eq (tgt := 61) hA dX12_longestOf_11 rfl (fun hc => ?_) (fun hc => ?_)
  · have hf := k_ift hc hf
    obtain ⟨rfl, rfl⟩ := k_r2 hf
    refine k_iload_n (i := 2) hA dX12_longestOf_61 rfl 1 rfl ?_
    exact k_iret hA hr rfl dX12_longestOf_62
  have hf := k_iff hc hf
  refine k_aload_n (i := 0) hA dX12_longestOf_14 rfl 0 rfl ?_
  refine gt_MN_0_22 hA wd_1270 dX12_longestOf_15 ?_
  refine k_iload_n (i := 2) hA dX12_longestOf_18 rfl 1 rfl ?_
  refine k_icmp_gt (tgt := 25) hA dX12_longestOf_19 rfl (fun hc => ?_) (fun hc => ?_)
  · have hf := k_ift hc hf
    obtain ⟨x2_3, ex2_3, hf⟩ := k_lt_e hf
    refine k_aload_n (i := 0) hA dX12_longestOf_25 rfl 0 rfl ?_
    refine gt_MN_0_22 hA wd_1270 dX12_longestOf_26 ?_
    refine k_istore_n (i := 2) (lv' := [(2, .int x2_3), (0, .ref (a 0))]) hA dX12_longestOf_29 rfl ex2_3 (Nat.le_of_ble_eq_true rfl) rfl ?_
    refine k_iconst hA dX12_longestOf_30 kc_i_0 ?_
    refine k_istore_n (i := 3) (lv' := [(3, .int (0 : Int32)), (2, .int x2_3), (0, .ref (a 0))]) hA dX12_longestOf_31 rfl rfl (Nat.le_of_ble_eq_true rfl) rfl ?_
    refine k_pick (lv' := [(0, .ref (a 0)), (2, .int x2_3), (3, .int (0 : Int32))]) [2, 1, 0] rfl ?_
    exact m_M_longestOf_N_32 l G a rv n hA hr (f_M_longestOf_N_7 n k) ih n x2_3 (0 : Int32) t_1 hf
  have hf := k_iff hc hf
  refine k_goto (tgt := 7) hA dX12_longestOf_22 rfl ?_
  exact ih x2 t_1 hf

theorem m_M_longestOf_N (l : Launch) (G : k_G) (a : Nat → Nat) (rv : Value) (n : Nat) (x1 : Int32) (t : k_St) {r : Int32} {t' : k_St} (hf : f_M_longestOf_N n x1 t = some (r, t')) : k_CI l G yX12_longestOf cX12_longestOf 4 (some .int) 3 (k_WN G.2.1 a rv t) [.ref (a 0), .int x1] r (k_WN G.2.1 a rv t') := by
  refine k_startI (lv := [(0, .ref (a 0)), (1, .int x1)]) (by decide +kernel) (Nat.le_of_ble_eq_true rfl) rfl ?_
  intro p e s m args below meth c hA hr
  have hA : k_Amb p s m args meth c cX12_longestOf 4 "TaleSharesModel" G _ := hA
  unfold f_M_longestOf_N at hf
  obtain ⟨t_1, ht_1, hf⟩ := k_cv_e hf
  refine k_iconst hA dX12_longestOf_0 kc_i_0 ?_
  refine k_istore_n (i := 2) (lv' := [(2, .int (0 : Int32)), (0, .ref (a 0)), (1, .int x1)]) hA dX12_longestOf_1 rfl rfl (Nat.le_of_ble_eq_true rfl) rfl ?_
  refine k_aload_n (i := 0) hA dX12_longestOf_2 rfl 1 rfl ?_
  refine k_iload_n (i := 1) hA dX12_longestOf_3 rfl 2 rfl ?_
  refine k_callVv (As := [.int x1]) (rest := []) hA (m_M_startsTales_N l G a rv x1 t ht_1) cd_X12_startsTales wd_1633 (hc_MN_0 G.2.1 a rv t) rfl rfl (Nat.le_of_ble_eq_true rfl) rfl rfl (Nat.le_of_ble_eq_true rfl) dX12_longestOf_4 ?_
  refine k_pick (lv' := [(0, .ref (a 0)), (2, .int (0 : Int32))]) [1, 0] rfl ?_
  exact m_M_longestOf_N_7 l G a rv n hA hr n (0 : Int32) t_1 hf

def f_M_longest_N (n : Nat) (x1 : Int32) (t : k_St) : Option (Int32 × k_St) := k_lt (k_sI t 0 0 (0 : Int32)) (fun t_1 => (if (k_b (f_M_arePieces_N t_1 x1)) = 0 then k_lt (f_M_refused_N (1 : Int32) t_1) (fun q_6 => some (q_6.1, q_6.2)) else k_cl (f_M_longestOf_N n x1 t_1) (fun r_3 t_2 => (if r_3 = 0 then k_lt (f_M_good_N (-2 : Int32) t_2) (fun q_5 => some (q_5.1, q_5.2)) else k_lt (f_M_good_N r_3 t_2) (fun q_4 => some (q_4.1, q_4.2))))))
theorem m_M_longest_N (l : Launch) (G : k_G) (a : Nat → Nat) (rv : Value) (n : Nat) (x1 : Int32) (t : k_St) {r : Int32} {t' : k_St} (hf : f_M_longest_N n x1 t = some (r, t')) : k_CI l G yX12_longest cX12_longest 3 (some .int) 4 (k_WN G.2.1 a rv t) [.ref (a 0), .int x1] r (k_WN G.2.1 a rv t') := by
  refine k_startI (lv := [(0, .ref (a 0)), (1, .int x1)]) (by decide +kernel) (Nat.le_of_ble_eq_true rfl) rfl ?_
  intro p e s m args below meth c hA hr
  have hA : k_Amb p s m args meth c cX12_longest 3 "TaleSharesModel" G _ := hA
  unfold f_M_longest_N at hf
  obtain ⟨t_1, et_1, hf⟩ := k_lt_e hf
  refine k_aload_n (i := 0) hA dX12_longest_0 rfl 0 rfl ?_
  refine k_iconst hA dX12_longest_1 kc_i_0 ?_
  refine pt_MN_0_0 hA wd_1248 et_1 dX12_longest_2 ?_
  refine k_aload_n (i := 0) hA dX12_longest_5 rfl 0 rfl ?_
  refine k_iload_n (i := 1) hA dX12_longest_6 rfl 1 rfl ?_
  refine k_callVi (As := [.int x1]) (rest := []) hA (m_M_arePieces_N l G a rv t_1 x1 rfl) cd_X12_arePieces wd_1669 (hc_MN_0 G.2.1 a rv t_1) rfl rfl (Nat.le_of_ble_eq_true rfl) rfl rfl (Nat.le_of_ble_eq_true rfl) dX12_longest_7 ?_
  refine k_if_ne (tgt := 19) hA dX12_longest_10 rfl (fun hc => ?_) (fun hc => ?_)
  · have hf := k_iff hc hf
    obtain ⟨r_3, t_2, ht_2, hf⟩ := k_cl_e hf
    refine k_aload_n (i := 0) hA dX12_longest_19 rfl 0 rfl ?_
    refine k_iload_n (i := 1) hA dX12_longest_20 rfl 1 rfl ?_
    refine k_callVi (As := [.int x1]) (rest := []) hA (m_M_longestOf_N l G a rv n x1 t_1 ht_2) cd_X12_longestOf wd_1685 (hc_MN_0 G.2.1 a rv t_1) rfl rfl (Nat.le_of_ble_eq_true rfl) rfl rfl (Nat.le_of_ble_eq_true rfl) dX12_longest_21 ?_
    refine k_istore_n (i := 2) (lv' := [(2, .int r_3), (0, .ref (a 0)), (1, .int x1)]) hA dX12_longest_24 rfl rfl (Nat.le_of_ble_eq_true rfl) rfl ?_
    refine k_aload_n (i := 0) hA dX12_longest_25 rfl 1 rfl ?_
    refine k_iload_n (i := 2) hA dX12_longest_26 rfl 0 rfl ?_
    refine k_if_ne (tgt := 35) hA dX12_longest_27 rfl (fun hc => ?_) (fun hc => ?_)
    · have hf := k_iff hc hf
      obtain ⟨⟨rq_4, tq_4⟩, hq_4, hf⟩ := k_lt_e hf
      dsimp only at hf
      obtain ⟨rfl, rfl⟩ := k_r2 hf
      refine k_iload_n (i := 2) hA dX12_longest_35 rfl 0 rfl ?_
      refine k_callVi (As := [.int r_3]) (rest := []) hA (m_M_good_N l G a rv r_3 t_2 hq_4.symm) cd_X12_good wd_1601 (hc_MN_0 G.2.1 a rv t_2) rfl rfl (Nat.le_of_ble_eq_true rfl) rfl rfl (Nat.le_of_ble_eq_true rfl) dX12_longest_36 ?_
      exact k_iret hA hr rfl dX12_longest_39
    have hf := k_ift hc hf
    obtain ⟨⟨rq_5, tq_5⟩, hq_5, hf⟩ := k_lt_e hf
    dsimp only at hf
    obtain ⟨rfl, rfl⟩ := k_r2 hf
    refine k_bipush hA dX12_longest_30 kc_b_m2 ?_
    refine k_goto (tgt := 36) hA dX12_longest_32 rfl ?_
    refine k_callVi (As := [.int (-2 : Int32)]) (rest := []) hA (m_M_good_N l G a rv (-2 : Int32) t_2 hq_5.symm) cd_X12_good wd_1601 (hc_MN_0 G.2.1 a rv t_2) rfl rfl (Nat.le_of_ble_eq_true rfl) rfl rfl (Nat.le_of_ble_eq_true rfl) dX12_longest_36 ?_
    exact k_iret hA hr rfl dX12_longest_39
  have hf := k_ift hc hf
  obtain ⟨⟨rq_6, tq_6⟩, hq_6, hf⟩ := k_lt_e hf
  dsimp only at hf
  obtain ⟨rfl, rfl⟩ := k_r2 hf
  refine k_aload_n (i := 0) hA dX12_longest_13 rfl 0 rfl ?_
  refine k_iconst hA dX12_longest_14 kc_i_1 ?_
  refine k_callVi (As := [.int (1 : Int32)]) (rest := []) hA (m_M_refused_N l G a rv (1 : Int32) t_1 hq_6.symm) cd_X12_refused wd_1390 (hc_MN_0 G.2.1 a rv t_1) rfl rfl (Nat.le_of_ble_eq_true rfl) rfl rfl (Nat.le_of_ble_eq_true rfl) dX12_longest_15 ?_
  exact k_iret hA hr rfl dX12_longest_18

def f_M_longestAt_N (n : Nat) (x1 : Int32) (x2 : Int32) (t : k_St) : Option (Int32 × k_St) := k_lt (k_sI t 0 0 (0 : Int32)) (fun t_1 => (if (k_b (f_M_arePieces_N t_1 x1)) = 0 then k_lt (f_M_refused_N (1 : Int32) t_1) (fun q_8 => some (q_8.1, q_8.2)) else (if x2 < 0 then k_lt (f_M_refused_N (1 : Int32) t_1) (fun q_2 => some (q_2.1, q_2.2)) else k_cl (f_M_longestOf_N n x1 t_1) (fun r_4 t_3 => (if r_4 ≤ x2 then k_lt (f_M_refused_N (1 : Int32) t_3) (fun q_5 => some (q_5.1, q_5.2)) else k_gi x2 8 (k_lt (f_M_good_N (t_3.1 7 x2.toNatClampNeg) t_3) (fun q_7 => some (q_7.1, q_7.2))))))))
theorem m_M_longestAt_N (l : Launch) (G : k_G) (a : Nat → Nat) (rv : Value) (n : Nat) (x1 : Int32) (x2 : Int32) (t : k_St) {r : Int32} {t' : k_St} (hf : f_M_longestAt_N n x1 x2 t = some (r, t')) : k_CI l G yX12_longestAt cX12_longestAt 3 (some .int) 4 (k_WN G.2.1 a rv t) [.ref (a 0), .int x1, .int x2] r (k_WN G.2.1 a rv t') := by
  refine k_startI (lv := [(0, .ref (a 0)), (1, .int x1), (2, .int x2)]) (by decide +kernel) (Nat.le_of_ble_eq_true rfl) rfl ?_
  intro p e s m args below meth c hA hr
  have hA : k_Amb p s m args meth c cX12_longestAt 3 "TaleSharesModel" G _ := hA
  unfold f_M_longestAt_N at hf
  obtain ⟨t_1, et_1, hf⟩ := k_lt_e hf
  refine k_aload_n (i := 0) hA dX12_longestAt_0 rfl 0 rfl ?_
  refine k_iconst hA dX12_longestAt_1 kc_i_0 ?_
  refine pt_MN_0_0 hA wd_1248 et_1 dX12_longestAt_2 ?_
  refine k_aload_n (i := 0) hA dX12_longestAt_5 rfl 0 rfl ?_
  refine k_iload_n (i := 1) hA dX12_longestAt_6 rfl 1 rfl ?_
  refine k_callVi (As := [.int x1]) (rest := []) hA (m_M_arePieces_N l G a rv t_1 x1 rfl) cd_X12_arePieces wd_1669 (hc_MN_0 G.2.1 a rv t_1) rfl rfl (Nat.le_of_ble_eq_true rfl) rfl rfl (Nat.le_of_ble_eq_true rfl) dX12_longestAt_7 ?_
  refine k_if_ne (tgt := 19) hA dX12_longestAt_10 rfl (fun hc => ?_) (fun hc => ?_)
  · have hf := k_iff hc hf
    refine k_iload_n (i := 2) hA dX12_longestAt_19 rfl 2 rfl ?_
    refine k_if_lt (tgt := 45) hA dX12_longestAt_20 rfl (fun hc => ?_) (fun hc => ?_)
    · have hf := k_ift hc hf
      obtain ⟨⟨rq_2, tq_2⟩, hq_2, hf⟩ := k_lt_e hf
      dsimp only at hf
      obtain ⟨rfl, rfl⟩ := k_r2 hf
      refine k_aload_n (i := 0) hA dX12_longestAt_45 rfl 0 rfl ?_
      refine k_iconst hA dX12_longestAt_46 kc_i_1 ?_
      refine k_callVi (As := [.int (1 : Int32)]) (rest := []) hA (m_M_refused_N l G a rv (1 : Int32) t_1 hq_2.symm) cd_X12_refused wd_1390 (hc_MN_0 G.2.1 a rv t_1) rfl rfl (Nat.le_of_ble_eq_true rfl) rfl rfl (Nat.le_of_ble_eq_true rfl) dX12_longestAt_47 ?_
      exact k_iret hA hr rfl dX12_longestAt_50
    have hf := k_iff hc hf
    obtain ⟨r_4, t_3, ht_3, hf⟩ := k_cl_e hf
    refine k_iload_n (i := 2) hA dX12_longestAt_23 rfl 2 rfl ?_
    refine k_aload_n (i := 0) hA dX12_longestAt_24 rfl 0 rfl ?_
    refine k_iload_n (i := 1) hA dX12_longestAt_25 rfl 1 rfl ?_
    refine k_callVi (As := [.int x1]) (rest := [.int x2]) hA (m_M_longestOf_N l G a rv n x1 t_1 ht_3) cd_X12_longestOf wd_1685 (hc_MN_0 G.2.1 a rv t_1) rfl rfl (Nat.le_of_ble_eq_true rfl) rfl rfl (Nat.le_of_ble_eq_true rfl) dX12_longestAt_26 ?_
    refine k_icmp_ge (tgt := 45) hA dX12_longestAt_29 rfl (fun hc => ?_) (fun hc => ?_)
    · have hf := k_ift hc hf
      obtain ⟨⟨rq_5, tq_5⟩, hq_5, hf⟩ := k_lt_e hf
      dsimp only at hf
      obtain ⟨rfl, rfl⟩ := k_r2 hf
      refine k_aload_n (i := 0) hA dX12_longestAt_45 rfl 0 rfl ?_
      refine k_iconst hA dX12_longestAt_46 kc_i_1 ?_
      refine k_callVi (As := [.int (1 : Int32)]) (rest := []) hA (m_M_refused_N l G a rv (1 : Int32) t_3 hq_5.symm) cd_X12_refused wd_1390 (hc_MN_0 G.2.1 a rv t_3) rfl rfl (Nat.le_of_ble_eq_true rfl) rfl rfl (Nat.le_of_ble_eq_true rfl) dX12_longestAt_47 ?_
      exact k_iret hA hr rfl dX12_longestAt_50
    have hf := k_iff hc hf
    obtain ⟨hi_6, hf⟩ := k_gi_e hf
    obtain ⟨⟨rq_7, tq_7⟩, hq_7, hf⟩ := k_lt_e hf
    dsimp only at hf
    obtain ⟨rfl, rfl⟩ := k_r2 hf
    refine k_aload_n (i := 0) hA dX12_longestAt_32 rfl 0 rfl ?_
    refine k_aload_n (i := 0) hA dX12_longestAt_33 rfl 0 rfl ?_
    refine gt_MN_0_26 hA wd_1274 dX12_longestAt_34 ?_
    refine k_iload_n (i := 2) hA dX12_longestAt_37 rfl 2 rfl ?_
    refine ld_MN_7 hA hi_6 dX12_longestAt_38 ?_
    refine k_callVi (As := [.int (t_3.1 7 x2.toNatClampNeg)]) (rest := []) hA (m_M_good_N l G a rv (t_3.1 7 x2.toNatClampNeg) t_3 hq_7.symm) cd_X12_good wd_1601 (hc_MN_0 G.2.1 a rv t_3) rfl rfl (Nat.le_of_ble_eq_true rfl) rfl rfl (Nat.le_of_ble_eq_true rfl) dX12_longestAt_39 ?_
    refine k_goto (tgt := 50) hA dX12_longestAt_42 rfl ?_
    exact k_iret hA hr rfl dX12_longestAt_50
  have hf := k_ift hc hf
  obtain ⟨⟨rq_8, tq_8⟩, hq_8, hf⟩ := k_lt_e hf
  dsimp only at hf
  obtain ⟨rfl, rfl⟩ := k_r2 hf
  refine k_aload_n (i := 0) hA dX12_longestAt_13 rfl 0 rfl ?_
  refine k_iconst hA dX12_longestAt_14 kc_i_1 ?_
  refine k_callVi (As := [.int (1 : Int32)]) (rest := []) hA (m_M_refused_N l G a rv (1 : Int32) t_1 hq_8.symm) cd_X12_refused wd_1390 (hc_MN_0 G.2.1 a rv t_1) rfl rfl (Nat.le_of_ble_eq_true rfl) rfl rfl (Nat.le_of_ble_eq_true rfl) dX12_longestAt_15 ?_
  exact k_iret hA hr rfl dX12_longestAt_18

def f_M_taleAt_N_35 (n : Nat) : Nat → Int32 → Int32 → Int32 → k_St → Option (Int32 × k_St)
  | 0, _, _, _, _ => none
  | k + 1, x2, x3, x4, t => k_cl (f_M_nextTale_N t) (fun r_2 t_1 => (if (k_b r_2) = 0 then k_lt (f_M_refused_N (1 : Int32) t_1) (fun q_3 => some (q_3.1, q_3.2)) else (if x4 = x2 then (if (t_1.1 0 22) ≤ x3 then k_lt (f_M_refused_N (1 : Int32) t_1) (fun q_5 => some (q_5.1, q_5.2)) else k_gi x3 9 (k_lt (f_M_good_N (t_1.1 6 x3.toNatClampNeg) t_1) (fun q_7 => some (q_7.1, q_7.2)))) else k_lt (x4 + (1 : Int32)) (fun x4_4 => f_M_taleAt_N_35 n k x2 x3 x4_4 t_1))))
def f_M_taleAt_N (n : Nat) (x1 : Int32) (x2 : Int32) (x3 : Int32) (t : k_St) : Option (Int32 × k_St) := k_lt (k_sI t 0 0 (0 : Int32)) (fun t_1 => (if (k_b (f_M_arePieces_N t_1 x1)) = 0 then k_lt (f_M_refused_N (1 : Int32) t_1) (fun q_2 => some (q_2.1, q_2.2)) else (if x2 < 0 then k_lt (f_M_refused_N (1 : Int32) t_1) (fun q_3 => some (q_3.1, q_3.2)) else (if 0 ≤ x3 then k_cv (f_M_startsTales_N x1 t_1) (fun t_4 => f_M_taleAt_N_35 n n x2 x3 (0 : Int32) t_4) else k_lt (f_M_refused_N (1 : Int32) t_1) (fun q_5 => some (q_5.1, q_5.2))))))
theorem m_M_taleAt_N_35 {p : Program} (l : Launch) {e : Env} {s : State} {m : MethodId} {args : Array Value} {below : List Frame} {meth : Method} {c : Code} (G : k_G) (a : Nat → Nat) (rv : Value) (n : Nat) {w0 : va_W} {r : Int32} {t' : k_St} (hA : k_Amb p s m args meth c cX12_taleAt 5 "TaleSharesModel" G (va_A w0 s.heap.size)) (hr : meth.sig.returnType = (some .int)) : ∀ (k : Nat) (x2 : Int32) (x3 : Int32) (x4 : Int32) (t : k_St), f_M_taleAt_N_35 n k x2 x3 x4 t = some (r, t') → k_Go p l e (k_rm 3) s m args below meth c (k_QI G w0 r (k_WN G.2.1 a rv t') args s below) 5 G (va_A w0 s.heap.size) (k_WN G.2.1 a rv t) 35 [(0, .ref (a 0)), (2, .int x2), (3, .int x3), (4, .int x4)] [] := by
  intro k
  induction k with
  | zero => intro x2 x3 x4 t hf; cases hf
  | succ k ih =>
  intro x2 x3 x4 t hf
  rw [f_M_taleAt_N_35] at hf
  obtain ⟨r_2, t_1, ht_1, hf⟩ := k_cl_e hf
  refine k_aload_n (i := 0) hA dX12_taleAt_35 rfl 0 rfl ?_
  refine k_callVi (As := []) (rest := []) hA (m_M_nextTale_N l G a rv t ht_1) cd_X12_nextTale wd_1637 (hc_MN_0 G.2.1 a rv t) rfl rfl (Nat.le_of_ble_eq_true rfl) rfl rfl (Nat.le_of_ble_eq_true rfl) dX12_taleAt_36 ?_
  refine k_if_eq (tgt := 81) hA dX12_taleAt_39 rfl (fun hc => ?_) (fun hc => ?_)
  · have hf := k_ift hc hf
    obtain ⟨⟨rq_3, tq_3⟩, hq_3, hf⟩ := k_lt_e hf
    dsimp only at hf
    obtain ⟨rfl, rfl⟩ := k_r2 hf
    refine k_aload_n (i := 0) hA dX12_taleAt_81 rfl 0 rfl ?_
    refine k_iconst hA dX12_taleAt_82 kc_i_1 ?_
    refine k_callVi (As := [.int (1 : Int32)]) (rest := []) hA (m_M_refused_N l G a rv (1 : Int32) t_1 hq_3.symm) cd_X12_refused wd_1390 (hc_MN_0 G.2.1 a rv t_1) rfl rfl (Nat.le_of_ble_eq_true rfl) rfl rfl (Nat.le_of_ble_eq_true rfl) dX12_taleAt_83 ?_
    exact k_iret hA hr rfl dX12_taleAt_86
  have hf := k_iff hc hf
  refine k_iload hA dX12_taleAt_42 3 rfl ?_
  refine k_iload_n (i := 2) hA dX12_taleAt_44 rfl 1 rfl ?_
  refine k_icmp_ne (tgt := 75) hA dX12_taleAt_45 rfl (fun hc => ?_) (fun hc => ?_)
  · have hf := k_iff hc hf
    obtain ⟨x4_4, ex4_4, hf⟩ := k_lt_e hf
    refine k_iinc (j := 3) (v := x4_4) (lv' := [(4, .int x4_4), (0, .ref (a 0)), (2, .int x2), (3, .int x3)]) hA dX12_taleAt_75 rfl (k_inc ex4_4 kc_i_1) (Nat.le_of_ble_eq_true rfl) rfl ?_
    refine k_goto (tgt := 35) hA dX12_taleAt_78 rfl ?_
    refine k_pick (lv' := [(0, .ref (a 0)), (2, .int x2), (3, .int x3), (4, .int x4_4)]) [1, 2, 3, 0] rfl ?_
    exact ih x2 x3 x4_4 t_1 hf
  have hf := k_ift hc hf
  refine k_iload_n (i := 3) hA dX12_taleAt_48 rfl 2 rfl ?_
  refine k_aload_n (i := 0) hA dX12_taleAt_49 rfl 0 rfl ?_
  refine gt_MN_0_22 hA wd_1270 dX12_taleAt_50 ?_
  refine k_icmp_ge (tgt := 69) hA dX12_taleAt_53 rfl (fun hc => ?_) (fun hc => ?_)
  · have hf := k_ift hc hf
    obtain ⟨⟨rq_5, tq_5⟩, hq_5, hf⟩ := k_lt_e hf
    dsimp only at hf
    obtain ⟨rfl, rfl⟩ := k_r2 hf
    refine k_aload_n (i := 0) hA dX12_taleAt_69 rfl 0 rfl ?_
    refine k_iconst hA dX12_taleAt_70 kc_i_1 ?_
    refine k_callVi (As := [.int (1 : Int32)]) (rest := []) hA (m_M_refused_N l G a rv (1 : Int32) t_1 hq_5.symm) cd_X12_refused wd_1390 (hc_MN_0 G.2.1 a rv t_1) rfl rfl (Nat.le_of_ble_eq_true rfl) rfl rfl (Nat.le_of_ble_eq_true rfl) dX12_taleAt_71 ?_
    exact k_iret hA hr rfl dX12_taleAt_74
  have hf := k_iff hc hf
  obtain ⟨hi_6, hf⟩ := k_gi_e hf
  obtain ⟨⟨rq_7, tq_7⟩, hq_7, hf⟩ := k_lt_e hf
  dsimp only at hf
  obtain ⟨rfl, rfl⟩ := k_r2 hf
  refine k_aload_n (i := 0) hA dX12_taleAt_56 rfl 0 rfl ?_
  refine k_aload_n (i := 0) hA dX12_taleAt_57 rfl 0 rfl ?_
  refine gt_MN_0_21 hA wd_1269 dX12_taleAt_58 ?_
  refine k_iload_n (i := 3) hA dX12_taleAt_61 rfl 2 rfl ?_
  refine ld_MN_6 hA hi_6 dX12_taleAt_62 ?_
  refine k_callVi (As := [.int (t_1.1 6 x3.toNatClampNeg)]) (rest := []) hA (m_M_good_N l G a rv (t_1.1 6 x3.toNatClampNeg) t_1 hq_7.symm) cd_X12_good wd_1601 (hc_MN_0 G.2.1 a rv t_1) rfl rfl (Nat.le_of_ble_eq_true rfl) rfl rfl (Nat.le_of_ble_eq_true rfl) dX12_taleAt_63 ?_
  refine k_goto (tgt := 74) hA dX12_taleAt_66 rfl ?_
  exact k_iret hA hr rfl dX12_taleAt_74

theorem m_M_taleAt_N (l : Launch) (G : k_G) (a : Nat → Nat) (rv : Value) (n : Nat) (x1 : Int32) (x2 : Int32) (x3 : Int32) (t : k_St) {r : Int32} {t' : k_St} (hf : f_M_taleAt_N n x1 x2 x3 t = some (r, t')) : k_CI l G yX12_taleAt cX12_taleAt 5 (some .int) 3 (k_WN G.2.1 a rv t) [.ref (a 0), .int x1, .int x2, .int x3] r (k_WN G.2.1 a rv t') := by
  refine k_startI (lv := [(0, .ref (a 0)), (1, .int x1), (2, .int x2), (3, .int x3)]) (by decide +kernel) (Nat.le_of_ble_eq_true rfl) rfl ?_
  intro p e s m args below meth c hA hr
  have hA : k_Amb p s m args meth c cX12_taleAt 5 "TaleSharesModel" G _ := hA
  unfold f_M_taleAt_N at hf
  obtain ⟨t_1, et_1, hf⟩ := k_lt_e hf
  refine k_aload_n (i := 0) hA dX12_taleAt_0 rfl 0 rfl ?_
  refine k_iconst hA dX12_taleAt_1 kc_i_0 ?_
  refine pt_MN_0_0 hA wd_1248 et_1 dX12_taleAt_2 ?_
  refine k_aload_n (i := 0) hA dX12_taleAt_5 rfl 0 rfl ?_
  refine k_iload_n (i := 1) hA dX12_taleAt_6 rfl 1 rfl ?_
  refine k_callVi (As := [.int x1]) (rest := []) hA (m_M_arePieces_N l G a rv t_1 x1 rfl) cd_X12_arePieces wd_1669 (hc_MN_0 G.2.1 a rv t_1) rfl rfl (Nat.le_of_ble_eq_true rfl) rfl rfl (Nat.le_of_ble_eq_true rfl) dX12_taleAt_7 ?_
  refine k_if_eq (tgt := 21) hA dX12_taleAt_10 rfl (fun hc => ?_) (fun hc => ?_)
  · have hf := k_ift hc hf
    obtain ⟨⟨rq_2, tq_2⟩, hq_2, hf⟩ := k_lt_e hf
    dsimp only at hf
    obtain ⟨rfl, rfl⟩ := k_r2 hf
    refine k_aload_n (i := 0) hA dX12_taleAt_21 rfl 0 rfl ?_
    refine k_iconst hA dX12_taleAt_22 kc_i_1 ?_
    refine k_callVi (As := [.int (1 : Int32)]) (rest := []) hA (m_M_refused_N l G a rv (1 : Int32) t_1 hq_2.symm) cd_X12_refused wd_1390 (hc_MN_0 G.2.1 a rv t_1) rfl rfl (Nat.le_of_ble_eq_true rfl) rfl rfl (Nat.le_of_ble_eq_true rfl) dX12_taleAt_23 ?_
    exact k_iret hA hr rfl dX12_taleAt_26
  have hf := k_iff hc hf
  refine k_iload_n (i := 2) hA dX12_taleAt_13 rfl 2 rfl ?_
  refine k_if_lt (tgt := 21) hA dX12_taleAt_14 rfl (fun hc => ?_) (fun hc => ?_)
  · have hf := k_ift hc hf
    obtain ⟨⟨rq_3, tq_3⟩, hq_3, hf⟩ := k_lt_e hf
    dsimp only at hf
    obtain ⟨rfl, rfl⟩ := k_r2 hf
    refine k_aload_n (i := 0) hA dX12_taleAt_21 rfl 0 rfl ?_
    refine k_iconst hA dX12_taleAt_22 kc_i_1 ?_
    refine k_callVi (As := [.int (1 : Int32)]) (rest := []) hA (m_M_refused_N l G a rv (1 : Int32) t_1 hq_3.symm) cd_X12_refused wd_1390 (hc_MN_0 G.2.1 a rv t_1) rfl rfl (Nat.le_of_ble_eq_true rfl) rfl rfl (Nat.le_of_ble_eq_true rfl) dX12_taleAt_23 ?_
    exact k_iret hA hr rfl dX12_taleAt_26
  have hf := k_iff hc hf
  refine k_iload_n (i := 3) hA dX12_taleAt_17 rfl 3 rfl ?_
  refine k_if_ge (tgt := 27) hA dX12_taleAt_18 rfl (fun hc => ?_) (fun hc => ?_)
  · have hf := k_ift hc hf
    obtain ⟨t_4, ht_4, hf⟩ := k_cv_e hf
    refine k_aload_n (i := 0) hA dX12_taleAt_27 rfl 0 rfl ?_
    refine k_iload_n (i := 1) hA dX12_taleAt_28 rfl 1 rfl ?_
    refine k_callVv (As := [.int x1]) (rest := []) hA (m_M_startsTales_N l G a rv x1 t_1 ht_4) cd_X12_startsTales wd_1633 (hc_MN_0 G.2.1 a rv t_1) rfl rfl (Nat.le_of_ble_eq_true rfl) rfl rfl (Nat.le_of_ble_eq_true rfl) dX12_taleAt_29 ?_
    refine k_iconst hA dX12_taleAt_32 kc_i_0 ?_
    refine k_istore (lv' := [(4, .int (0 : Int32)), (0, .ref (a 0)), (1, .int x1), (2, .int x2), (3, .int x3)]) hA dX12_taleAt_33 rfl (Nat.le_of_ble_eq_true rfl) rfl ?_
    refine k_pick (lv' := [(0, .ref (a 0)), (2, .int x2), (3, .int x3), (4, .int (0 : Int32))]) [1, 3, 4, 0] rfl ?_
    exact m_M_taleAt_N_35 l G a rv n hA hr n x2 x3 (0 : Int32) t_4 hf
  have hf := k_iff hc hf
  obtain ⟨⟨rq_5, tq_5⟩, hq_5, hf⟩ := k_lt_e hf
  dsimp only at hf
  obtain ⟨rfl, rfl⟩ := k_r2 hf
  refine k_aload_n (i := 0) hA dX12_taleAt_21 rfl 0 rfl ?_
  refine k_iconst hA dX12_taleAt_22 kc_i_1 ?_
  refine k_callVi (As := [.int (1 : Int32)]) (rest := []) hA (m_M_refused_N l G a rv (1 : Int32) t_1 hq_5.symm) cd_X12_refused wd_1390 (hc_MN_0 G.2.1 a rv t_1) rfl rfl (Nat.le_of_ble_eq_true rfl) rfl rfl (Nat.le_of_ble_eq_true rfl) dX12_taleAt_23 ?_
  exact k_iret hA hr rfl dX12_taleAt_26

def f_M_used_N_26 (n : Nat) : Nat → Int32 → k_St → Option (Int32 × k_St)
  | 0, _, _ => none
  | k + 1, x2, t => k_cl (f_M_nextTale_N t) (fun r_2 t_1 => (if (k_b r_2) = 0 then k_lt (f_M_good_N x2 t_1) (fun q_3 => some (q_3.1, q_3.2)) else k_lt (x2 ||| (t_1.1 0 23)) (fun x2_4 => f_M_used_N_26 n k x2_4 t_1)))
def f_M_used_N (n : Nat) (x1 : Int32) (t : k_St) : Option (Int32 × k_St) := k_lt (k_sI t 0 0 (0 : Int32)) (fun t_1 => (if (k_b (f_M_arePieces_N t_1 x1)) = 0 then k_lt (f_M_refused_N (1 : Int32) t_1) (fun q_3 => some (q_3.1, q_3.2)) else k_cv (f_M_startsTales_N x1 t_1) (fun t_2 => f_M_used_N_26 n n (0 : Int32) t_2)))
theorem m_M_used_N_26 {p : Program} (l : Launch) {e : Env} {s : State} {m : MethodId} {args : Array Value} {below : List Frame} {meth : Method} {c : Code} (G : k_G) (a : Nat → Nat) (rv : Value) (n : Nat) {w0 : va_W} {r : Int32} {t' : k_St} (hA : k_Amb p s m args meth c cX12_used 3 "TaleSharesModel" G (va_A w0 s.heap.size)) (hr : meth.sig.returnType = (some .int)) : ∀ (k : Nat) (x2 : Int32) (t : k_St), f_M_used_N_26 n k x2 t = some (r, t') → k_Go p l e (k_rm 3) s m args below meth c (k_QI G w0 r (k_WN G.2.1 a rv t') args s below) 3 G (va_A w0 s.heap.size) (k_WN G.2.1 a rv t) 26 [(0, .ref (a 0)), (2, .int x2)] [] := by
  intro k
  induction k with
  | zero => intro x2 t hf; cases hf
  | succ k ih =>
  intro x2 t hf
  rw [f_M_used_N_26] at hf
  obtain ⟨r_2, t_1, ht_1, hf⟩ := k_cl_e hf
  refine k_aload_n (i := 0) hA dX12_used_26 rfl 0 rfl ?_
  refine k_callVi (As := []) (rest := []) hA (m_M_nextTale_N l G a rv t ht_1) cd_X12_nextTale wd_1637 (hc_MN_0 G.2.1 a rv t) rfl rfl (Nat.le_of_ble_eq_true rfl) rfl rfl (Nat.le_of_ble_eq_true rfl) dX12_used_27 ?_
  refine k_if_eq (tgt := 43) hA dX12_used_30 rfl (fun hc => ?_) (fun hc => ?_)
  · have hf := k_ift hc hf
    obtain ⟨⟨rq_3, tq_3⟩, hq_3, hf⟩ := k_lt_e hf
    dsimp only at hf
    obtain ⟨rfl, rfl⟩ := k_r2 hf
    refine k_aload_n (i := 0) hA dX12_used_43 rfl 0 rfl ?_
    refine k_iload_n (i := 2) hA dX12_used_44 rfl 1 rfl ?_
    refine k_callVi (As := [.int x2]) (rest := []) hA (m_M_good_N l G a rv x2 t_1 hq_3.symm) cd_X12_good wd_1601 (hc_MN_0 G.2.1 a rv t_1) rfl rfl (Nat.le_of_ble_eq_true rfl) rfl rfl (Nat.le_of_ble_eq_true rfl) dX12_used_45 ?_
    exact k_iret hA hr rfl dX12_used_48
  have hf := k_iff hc hf
  obtain ⟨x2_4, ex2_4, hf⟩ := k_lt_e hf
  refine k_iload_n (i := 2) hA dX12_used_33 rfl 1 rfl ?_
  refine k_aload_n (i := 0) hA dX12_used_34 rfl 0 rfl ?_
  refine gt_MN_0_23 hA wd_1271 dX12_used_35 ?_
  refine k_ior hA dX12_used_38 ?_
  refine k_istore_n (i := 2) (lv' := [(2, .int x2_4), (0, .ref (a 0))]) hA dX12_used_39 rfl ex2_4 (Nat.le_of_ble_eq_true rfl) rfl ?_
  refine k_goto (tgt := 26) hA dX12_used_40 rfl ?_
  refine k_pick (lv' := [(0, .ref (a 0)), (2, .int x2_4)]) [1, 0] rfl ?_
  exact ih x2_4 t_1 hf

theorem m_M_used_N (l : Launch) (G : k_G) (a : Nat → Nat) (rv : Value) (n : Nat) (x1 : Int32) (t : k_St) {r : Int32} {t' : k_St} (hf : f_M_used_N n x1 t = some (r, t')) : k_CI l G yX12_used cX12_used 3 (some .int) 3 (k_WN G.2.1 a rv t) [.ref (a 0), .int x1] r (k_WN G.2.1 a rv t') := by
  refine k_startI (lv := [(0, .ref (a 0)), (1, .int x1)]) (by decide +kernel) (Nat.le_of_ble_eq_true rfl) rfl ?_
  intro p e s m args below meth c hA hr
  have hA : k_Amb p s m args meth c cX12_used 3 "TaleSharesModel" G _ := hA
  unfold f_M_used_N at hf
  obtain ⟨t_1, et_1, hf⟩ := k_lt_e hf
  refine k_aload_n (i := 0) hA dX12_used_0 rfl 0 rfl ?_
  refine k_iconst hA dX12_used_1 kc_i_0 ?_
  refine pt_MN_0_0 hA wd_1248 et_1 dX12_used_2 ?_
  refine k_aload_n (i := 0) hA dX12_used_5 rfl 0 rfl ?_
  refine k_iload_n (i := 1) hA dX12_used_6 rfl 1 rfl ?_
  refine k_callVi (As := [.int x1]) (rest := []) hA (m_M_arePieces_N l G a rv t_1 x1 rfl) cd_X12_arePieces wd_1669 (hc_MN_0 G.2.1 a rv t_1) rfl rfl (Nat.le_of_ble_eq_true rfl) rfl rfl (Nat.le_of_ble_eq_true rfl) dX12_used_7 ?_
  refine k_if_ne (tgt := 19) hA dX12_used_10 rfl (fun hc => ?_) (fun hc => ?_)
  · have hf := k_iff hc hf
    obtain ⟨t_2, ht_2, hf⟩ := k_cv_e hf
    refine k_iconst hA dX12_used_19 kc_i_0 ?_
    refine k_istore_n (i := 2) (lv' := [(2, .int (0 : Int32)), (0, .ref (a 0)), (1, .int x1)]) hA dX12_used_20 rfl rfl (Nat.le_of_ble_eq_true rfl) rfl ?_
    refine k_aload_n (i := 0) hA dX12_used_21 rfl 1 rfl ?_
    refine k_iload_n (i := 1) hA dX12_used_22 rfl 2 rfl ?_
    refine k_callVv (As := [.int x1]) (rest := []) hA (m_M_startsTales_N l G a rv x1 t_1 ht_2) cd_X12_startsTales wd_1633 (hc_MN_0 G.2.1 a rv t_1) rfl rfl (Nat.le_of_ble_eq_true rfl) rfl rfl (Nat.le_of_ble_eq_true rfl) dX12_used_23 ?_
    refine k_pick (lv' := [(0, .ref (a 0)), (2, .int (0 : Int32))]) [1, 0] rfl ?_
    exact m_M_used_N_26 l G a rv n hA hr n (0 : Int32) t_2 hf
  have hf := k_ift hc hf
  obtain ⟨⟨rq_3, tq_3⟩, hq_3, hf⟩ := k_lt_e hf
  dsimp only at hf
  obtain ⟨rfl, rfl⟩ := k_r2 hf
  refine k_aload_n (i := 0) hA dX12_used_13 rfl 0 rfl ?_
  refine k_iconst hA dX12_used_14 kc_i_1 ?_
  refine k_callVi (As := [.int (1 : Int32)]) (rest := []) hA (m_M_refused_N l G a rv (1 : Int32) t_1 hq_3.symm) cd_X12_refused wd_1390 (hc_MN_0 G.2.1 a rv t_1) rfl rfl (Nat.le_of_ble_eq_true rfl) rfl rfl (Nat.le_of_ble_eq_true rfl) dX12_used_15 ?_
  exact k_iret hA hr rfl dX12_used_18

def f_M_needed_N_26 (n : Nat) : Nat → Int32 → k_St → Option (Int32 × k_St)
  | 0, _, _ => none
  | k + 1, x2, t => k_cl (f_M_nextTale_N t) (fun r_2 t_1 => (if (k_b r_2) = 0 then (if x2 = (-1 : Int32) then k_lt (f_M_good_N (0 : Int32) t_1) (fun q_4 => some (q_4.1, q_4.2)) else k_lt (f_M_good_N x2 t_1) (fun q_3 => some (q_3.1, q_3.2))) else k_lt (x2 &&& (t_1.1 0 23)) (fun x2_5 => f_M_needed_N_26 n k x2_5 t_1)))
def f_M_needed_N (n : Nat) (x1 : Int32) (t : k_St) : Option (Int32 × k_St) := k_lt (k_sI t 0 0 (0 : Int32)) (fun t_1 => (if (k_b (f_M_arePieces_N t_1 x1)) = 0 then k_lt (f_M_refused_N (1 : Int32) t_1) (fun q_3 => some (q_3.1, q_3.2)) else k_cv (f_M_startsTales_N x1 t_1) (fun t_2 => f_M_needed_N_26 n n (-1 : Int32) t_2)))
theorem m_M_needed_N_26 {p : Program} (l : Launch) {e : Env} {s : State} {m : MethodId} {args : Array Value} {below : List Frame} {meth : Method} {c : Code} (G : k_G) (a : Nat → Nat) (rv : Value) (n : Nat) {w0 : va_W} {r : Int32} {t' : k_St} (hA : k_Amb p s m args meth c cX12_needed 3 "TaleSharesModel" G (va_A w0 s.heap.size)) (hr : meth.sig.returnType = (some .int)) : ∀ (k : Nat) (x2 : Int32) (t : k_St), f_M_needed_N_26 n k x2 t = some (r, t') → k_Go p l e (k_rm 3) s m args below meth c (k_QI G w0 r (k_WN G.2.1 a rv t') args s below) 3 G (va_A w0 s.heap.size) (k_WN G.2.1 a rv t) 26 [(0, .ref (a 0)), (2, .int x2)] [] := by
  intro k
  induction k with
  | zero => intro x2 t hf; cases hf
  | succ k ih =>
  intro x2 t hf
  rw [f_M_needed_N_26] at hf
  obtain ⟨r_2, t_1, ht_1, hf⟩ := k_cl_e hf
  refine k_aload_n (i := 0) hA dX12_needed_26 rfl 0 rfl ?_
  refine k_callVi (As := []) (rest := []) hA (m_M_nextTale_N l G a rv t ht_1) cd_X12_nextTale wd_1637 (hc_MN_0 G.2.1 a rv t) rfl rfl (Nat.le_of_ble_eq_true rfl) rfl rfl (Nat.le_of_ble_eq_true rfl) dX12_needed_27 ?_
  refine k_if_eq (tgt := 43) hA dX12_needed_30 rfl (fun hc => ?_) (fun hc => ?_)
  · have hf := k_ift hc hf
    refine k_aload_n (i := 0) hA dX12_needed_43 rfl 0 rfl ?_
    refine k_iload_n (i := 2) hA dX12_needed_44 rfl 1 rfl ?_
    refine k_iconst hA dX12_needed_45 kc_i_m1 ?_
    refine k_icmp_ne (tgt := 53) hA dX12_needed_46 rfl (fun hc => ?_) (fun hc => ?_)
    · have hf := k_iff hc hf
      obtain ⟨⟨rq_3, tq_3⟩, hq_3, hf⟩ := k_lt_e hf
      dsimp only at hf
      obtain ⟨rfl, rfl⟩ := k_r2 hf
      refine k_iload_n (i := 2) hA dX12_needed_53 rfl 1 rfl ?_
      refine k_callVi (As := [.int x2]) (rest := []) hA (m_M_good_N l G a rv x2 t_1 hq_3.symm) cd_X12_good wd_1601 (hc_MN_0 G.2.1 a rv t_1) rfl rfl (Nat.le_of_ble_eq_true rfl) rfl rfl (Nat.le_of_ble_eq_true rfl) dX12_needed_54 ?_
      exact k_iret hA hr rfl dX12_needed_57
    have hf := k_ift hc hf
    obtain ⟨⟨rq_4, tq_4⟩, hq_4, hf⟩ := k_lt_e hf
    dsimp only at hf
    obtain ⟨rfl, rfl⟩ := k_r2 hf
    refine k_iconst hA dX12_needed_49 kc_i_0 ?_
    refine k_goto (tgt := 54) hA dX12_needed_50 rfl ?_
    refine k_callVi (As := [.int (0 : Int32)]) (rest := []) hA (m_M_good_N l G a rv (0 : Int32) t_1 hq_4.symm) cd_X12_good wd_1601 (hc_MN_0 G.2.1 a rv t_1) rfl rfl (Nat.le_of_ble_eq_true rfl) rfl rfl (Nat.le_of_ble_eq_true rfl) dX12_needed_54 ?_
    exact k_iret hA hr rfl dX12_needed_57
  have hf := k_iff hc hf
  obtain ⟨x2_5, ex2_5, hf⟩ := k_lt_e hf
  refine k_iload_n (i := 2) hA dX12_needed_33 rfl 1 rfl ?_
  refine k_aload_n (i := 0) hA dX12_needed_34 rfl 0 rfl ?_
  refine gt_MN_0_23 hA wd_1271 dX12_needed_35 ?_
  refine k_iand hA dX12_needed_38 ?_
  refine k_istore_n (i := 2) (lv' := [(2, .int x2_5), (0, .ref (a 0))]) hA dX12_needed_39 rfl ex2_5 (Nat.le_of_ble_eq_true rfl) rfl ?_
  refine k_goto (tgt := 26) hA dX12_needed_40 rfl ?_
  refine k_pick (lv' := [(0, .ref (a 0)), (2, .int x2_5)]) [1, 0] rfl ?_
  exact ih x2_5 t_1 hf

theorem m_M_needed_N (l : Launch) (G : k_G) (a : Nat → Nat) (rv : Value) (n : Nat) (x1 : Int32) (t : k_St) {r : Int32} {t' : k_St} (hf : f_M_needed_N n x1 t = some (r, t')) : k_CI l G yX12_needed cX12_needed 3 (some .int) 3 (k_WN G.2.1 a rv t) [.ref (a 0), .int x1] r (k_WN G.2.1 a rv t') := by
  refine k_startI (lv := [(0, .ref (a 0)), (1, .int x1)]) (by decide +kernel) (Nat.le_of_ble_eq_true rfl) rfl ?_
  intro p e s m args below meth c hA hr
  have hA : k_Amb p s m args meth c cX12_needed 3 "TaleSharesModel" G _ := hA
  unfold f_M_needed_N at hf
  obtain ⟨t_1, et_1, hf⟩ := k_lt_e hf
  refine k_aload_n (i := 0) hA dX12_needed_0 rfl 0 rfl ?_
  refine k_iconst hA dX12_needed_1 kc_i_0 ?_
  refine pt_MN_0_0 hA wd_1248 et_1 dX12_needed_2 ?_
  refine k_aload_n (i := 0) hA dX12_needed_5 rfl 0 rfl ?_
  refine k_iload_n (i := 1) hA dX12_needed_6 rfl 1 rfl ?_
  refine k_callVi (As := [.int x1]) (rest := []) hA (m_M_arePieces_N l G a rv t_1 x1 rfl) cd_X12_arePieces wd_1669 (hc_MN_0 G.2.1 a rv t_1) rfl rfl (Nat.le_of_ble_eq_true rfl) rfl rfl (Nat.le_of_ble_eq_true rfl) dX12_needed_7 ?_
  refine k_if_ne (tgt := 19) hA dX12_needed_10 rfl (fun hc => ?_) (fun hc => ?_)
  · have hf := k_iff hc hf
    obtain ⟨t_2, ht_2, hf⟩ := k_cv_e hf
    refine k_iconst hA dX12_needed_19 kc_i_m1 ?_
    refine k_istore_n (i := 2) (lv' := [(2, .int (-1 : Int32)), (0, .ref (a 0)), (1, .int x1)]) hA dX12_needed_20 rfl rfl (Nat.le_of_ble_eq_true rfl) rfl ?_
    refine k_aload_n (i := 0) hA dX12_needed_21 rfl 1 rfl ?_
    refine k_iload_n (i := 1) hA dX12_needed_22 rfl 2 rfl ?_
    refine k_callVv (As := [.int x1]) (rest := []) hA (m_M_startsTales_N l G a rv x1 t_1 ht_2) cd_X12_startsTales wd_1633 (hc_MN_0 G.2.1 a rv t_1) rfl rfl (Nat.le_of_ble_eq_true rfl) rfl rfl (Nat.le_of_ble_eq_true rfl) dX12_needed_23 ?_
    refine k_pick (lv' := [(0, .ref (a 0)), (2, .int (-1 : Int32))]) [1, 0] rfl ?_
    exact m_M_needed_N_26 l G a rv n hA hr n (-1 : Int32) t_2 hf
  have hf := k_ift hc hf
  obtain ⟨⟨rq_3, tq_3⟩, hq_3, hf⟩ := k_lt_e hf
  dsimp only at hf
  obtain ⟨rfl, rfl⟩ := k_r2 hf
  refine k_aload_n (i := 0) hA dX12_needed_13 rfl 0 rfl ?_
  refine k_iconst hA dX12_needed_14 kc_i_1 ?_
  refine k_callVi (As := [.int (1 : Int32)]) (rest := []) hA (m_M_refused_N l G a rv (1 : Int32) t_1 hq_3.symm) cd_X12_refused wd_1390 (hc_MN_0 G.2.1 a rv t_1) rfl rfl (Nat.le_of_ble_eq_true rfl) rfl rfl (Nat.le_of_ble_eq_true rfl) dX12_needed_15 ?_
  exact k_iret hA hr rfl dX12_needed_18

def f_M_leftOver_N (n : Nat) (x1 : Int32) (t : k_St) : Option (Int32 × k_St) := k_lt (k_sI t 0 0 (0 : Int32)) (fun t_1 => (if (k_b (f_M_arePieces_N t_1 x1)) = 0 then k_lt (f_M_refused_N (1 : Int32) t_1) (fun q_2 => some (q_2.1, q_2.2)) else k_cp (f_M_bits n x1) (fun r_3 => k_cl (f_M_longestOf_N n x1 t_1) (fun r_5 t_4 => k_lt (f_M_good_N (r_3 - r_5) t_4) (fun q_6 => some (q_6.1, q_6.2))))))
theorem m_M_leftOver_N (l : Launch) (G : k_G) (a : Nat → Nat) (rv : Value) (n : Nat) (x1 : Int32) (t : k_St) {r : Int32} {t' : k_St} (hf : f_M_leftOver_N n x1 t = some (r, t')) : k_CI l G yX12_leftOver cX12_leftOver 2 (some .int) 4 (k_WN G.2.1 a rv t) [.ref (a 0), .int x1] r (k_WN G.2.1 a rv t') := by
  refine k_startI (lv := [(0, .ref (a 0)), (1, .int x1)]) (by decide +kernel) (Nat.le_of_ble_eq_true rfl) rfl ?_
  intro p e s m args below meth c hA hr
  have hA : k_Amb p s m args meth c cX12_leftOver 2 "TaleSharesModel" G _ := hA
  unfold f_M_leftOver_N at hf
  obtain ⟨t_1, et_1, hf⟩ := k_lt_e hf
  refine k_aload_n (i := 0) hA dX12_leftOver_0 rfl 0 rfl ?_
  refine k_iconst hA dX12_leftOver_1 kc_i_0 ?_
  refine pt_MN_0_0 hA wd_1248 et_1 dX12_leftOver_2 ?_
  refine k_aload_n (i := 0) hA dX12_leftOver_5 rfl 0 rfl ?_
  refine k_iload_n (i := 1) hA dX12_leftOver_6 rfl 1 rfl ?_
  refine k_callVi (As := [.int x1]) (rest := []) hA (m_M_arePieces_N l G a rv t_1 x1 rfl) cd_X12_arePieces wd_1669 (hc_MN_0 G.2.1 a rv t_1) rfl rfl (Nat.le_of_ble_eq_true rfl) rfl rfl (Nat.le_of_ble_eq_true rfl) dX12_leftOver_7 ?_
  refine k_if_eq (tgt := 30) hA dX12_leftOver_10 rfl (fun hc => ?_) (fun hc => ?_)
  · have hf := k_ift hc hf
    obtain ⟨⟨rq_2, tq_2⟩, hq_2, hf⟩ := k_lt_e hf
    dsimp only at hf
    obtain ⟨rfl, rfl⟩ := k_r2 hf
    refine k_aload_n (i := 0) hA dX12_leftOver_30 rfl 0 rfl ?_
    refine k_iconst hA dX12_leftOver_31 kc_i_1 ?_
    refine k_callVi (As := [.int (1 : Int32)]) (rest := []) hA (m_M_refused_N l G a rv (1 : Int32) t_1 hq_2.symm) cd_X12_refused wd_1390 (hc_MN_0 G.2.1 a rv t_1) rfl rfl (Nat.le_of_ble_eq_true rfl) rfl rfl (Nat.le_of_ble_eq_true rfl) dX12_leftOver_32 ?_
    exact k_iret hA hr rfl dX12_leftOver_35
  have hf := k_iff hc hf
  obtain ⟨r_3, hr_3, hf⟩ := k_cp_e hf
  obtain ⟨r_5, t_4, ht_4, hf⟩ := k_cl_e hf
  obtain ⟨⟨rq_6, tq_6⟩, hq_6, hf⟩ := k_lt_e hf
  dsimp only at hf
  obtain ⟨rfl, rfl⟩ := k_r2 hf
  refine k_aload_n (i := 0) hA dX12_leftOver_13 rfl 0 rfl ?_
  refine k_iload_n (i := 1) hA dX12_leftOver_14 rfl 1 rfl ?_
  refine k_callSi (As := [.int x1]) (rest := [.ref (a 0)]) hA (m_M_bits l G (k_WN G.2.1 a rv t_1) n x1 hr_3) cd_X12_bits wd_1709 (Nat.le_of_ble_eq_true rfl) rfl rfl (Nat.le_of_ble_eq_true rfl) dX12_leftOver_15 ?_
  refine k_aload_n (i := 0) hA dX12_leftOver_18 rfl 0 rfl ?_
  refine k_iload_n (i := 1) hA dX12_leftOver_19 rfl 1 rfl ?_
  refine k_callVi (As := [.int x1]) (rest := [.int r_3, .ref (a 0)]) hA (m_M_longestOf_N l G a rv n x1 t_1 ht_4) cd_X12_longestOf wd_1685 (hc_MN_0 G.2.1 a rv t_1) rfl rfl (Nat.le_of_ble_eq_true rfl) rfl rfl (Nat.le_of_ble_eq_true rfl) dX12_leftOver_20 ?_
  refine k_isub hA dX12_leftOver_23 ?_
  refine k_callVi (As := [.int (r_3 - r_5)]) (rest := []) hA (m_M_good_N l G a rv (r_3 - r_5) t_4 hq_6.symm) cd_X12_good wd_1601 (hc_MN_0 G.2.1 a rv t_4) rfl rfl (Nat.le_of_ble_eq_true rfl) rfl rfl (Nat.le_of_ble_eq_true rfl) dX12_leftOver_24 ?_
  refine k_goto (tgt := 35) hA dX12_leftOver_27 rfl ?_
  exact k_iret hA hr rfl dX12_leftOver_35

def f_M_isTale_N (x1 : Int32) (t : k_St) : Int32 × k_St := k_lt (k_sI t 0 0 (0 : Int32)) (fun t_1 => k_lt (f_M_refused_N (1 : Int32) t_1) (fun q_2 => (q_2.1, q_2.2)))
theorem m_M_isTale_N (l : Launch) (G : k_G) (a : Nat → Nat) (rv : Value) (x1 : Int32) (t : k_St) {r : Int32} {t' : k_St} (hf : f_M_isTale_N x1 t = (r, t')) : k_CI l G yX12_isTale cX12_isTale 3 (some .int) 2 (k_WN G.2.1 a rv t) [.ref (a 0), .int x1] r (k_WN G.2.1 a rv t') := by
  refine k_startI (lv := [(0, .ref (a 0)), (1, .int x1)]) (by decide +kernel) (Nat.le_of_ble_eq_true rfl) rfl ?_
  intro p e s m args below meth c hA hr
  have hA : k_Amb p s m args meth c cX12_isTale 3 "TaleSharesModel" G _ := hA
  unfold f_M_isTale_N at hf
  obtain ⟨t_1, et_1, hf⟩ := k_lt_e hf
  obtain ⟨⟨rq_2, tq_2⟩, hq_2, hf⟩ := k_lt_e hf
  dsimp only at hf
  obtain ⟨rfl, rfl⟩ := k_p2 hf
  refine k_aload_n (i := 0) hA dX12_isTale_0 rfl 0 rfl ?_
  refine k_iconst hA dX12_isTale_1 kc_i_0 ?_
  refine pt_MN_0_0 hA wd_1248 et_1 dX12_isTale_2 ?_
  refine k_aload_n (i := 0) hA dX12_isTale_5 rfl 0 rfl ?_
  refine gt_MN_0_3 hA wd_1251 dX12_isTale_6 ?_
  refine k_ifnonnullN hA dX12_isTale_9 ?_
  refine k_aload_n (i := 0) hA dX12_isTale_12 rfl 0 rfl ?_
  refine k_iconst hA dX12_isTale_13 kc_i_1 ?_
  refine k_callVi (As := [.int (1 : Int32)]) (rest := []) hA (m_M_refused_N l G a rv (1 : Int32) t_1 hq_2.symm) cd_X12_refused wd_1390 (hc_MN_0 G.2.1 a rv t_1) rfl rfl (Nat.le_of_ble_eq_true rfl) rfl rfl (Nat.le_of_ble_eq_true rfl) dX12_isTale_14 ?_
  exact k_iret hA hr rfl dX12_isTale_17

def f_M_talesOf_N (n : Nat) (x1 : Int32) (t : k_St) : Option (Int32 × k_St) := k_lt (k_sI t 0 0 (0 : Int32)) (fun t_1 => (if (k_b (f_M_isHouse_N t_1 x1)) = 0 then k_lt (f_M_refused_N (1 : Int32) t_1) (fun q_2 => some (q_2.1, q_2.2)) else k_gi x1 6 (k_cl (f_M_tellsAll_N n (t_1.1 2 x1.toNatClampNeg) t_1) (fun r_5 t_4 => k_lt (f_M_good_N r_5 t_4) (fun q_6 => some (q_6.1, q_6.2))))))
theorem m_M_talesOf_N (l : Launch) (G : k_G) (a : Nat → Nat) (rv : Value) (n : Nat) (x1 : Int32) (t : k_St) {r : Int32} {t' : k_St} (hf : f_M_talesOf_N n x1 t = some (r, t')) : k_CI l G yX12_talesOf cX12_talesOf 2 (some .int) 4 (k_WN G.2.1 a rv t) [.ref (a 0), .int x1] r (k_WN G.2.1 a rv t') := by
  refine k_startI (lv := [(0, .ref (a 0)), (1, .int x1)]) (by decide +kernel) (Nat.le_of_ble_eq_true rfl) rfl ?_
  intro p e s m args below meth c hA hr
  have hA : k_Amb p s m args meth c cX12_talesOf 2 "TaleSharesModel" G _ := hA
  unfold f_M_talesOf_N at hf
  obtain ⟨t_1, et_1, hf⟩ := k_lt_e hf
  refine k_aload_n (i := 0) hA dX12_talesOf_0 rfl 0 rfl ?_
  refine k_iconst hA dX12_talesOf_1 kc_i_0 ?_
  refine pt_MN_0_0 hA wd_1248 et_1 dX12_talesOf_2 ?_
  refine k_aload_n (i := 0) hA dX12_talesOf_5 rfl 0 rfl ?_
  refine k_iload_n (i := 1) hA dX12_talesOf_6 rfl 1 rfl ?_
  refine k_callVi (As := [.int x1]) (rest := []) hA (m_M_isHouse_N l G a rv t_1 x1 rfl) cd_X12_isHouse wd_1625 (hc_MN_0 G.2.1 a rv t_1) rfl rfl (Nat.le_of_ble_eq_true rfl) rfl rfl (Nat.le_of_ble_eq_true rfl) dX12_talesOf_7 ?_
  refine k_if_eq (tgt := 30) hA dX12_talesOf_10 rfl (fun hc => ?_) (fun hc => ?_)
  · have hf := k_ift hc hf
    obtain ⟨⟨rq_2, tq_2⟩, hq_2, hf⟩ := k_lt_e hf
    dsimp only at hf
    obtain ⟨rfl, rfl⟩ := k_r2 hf
    refine k_aload_n (i := 0) hA dX12_talesOf_30 rfl 0 rfl ?_
    refine k_iconst hA dX12_talesOf_31 kc_i_1 ?_
    refine k_callVi (As := [.int (1 : Int32)]) (rest := []) hA (m_M_refused_N l G a rv (1 : Int32) t_1 hq_2.symm) cd_X12_refused wd_1390 (hc_MN_0 G.2.1 a rv t_1) rfl rfl (Nat.le_of_ble_eq_true rfl) rfl rfl (Nat.le_of_ble_eq_true rfl) dX12_talesOf_32 ?_
    exact k_iret hA hr rfl dX12_talesOf_35
  have hf := k_iff hc hf
  obtain ⟨hi_3, hf⟩ := k_gi_e hf
  obtain ⟨r_5, t_4, ht_4, hf⟩ := k_cl_e hf
  obtain ⟨⟨rq_6, tq_6⟩, hq_6, hf⟩ := k_lt_e hf
  dsimp only at hf
  obtain ⟨rfl, rfl⟩ := k_r2 hf
  refine k_aload_n (i := 0) hA dX12_talesOf_13 rfl 0 rfl ?_
  refine k_aload_n (i := 0) hA dX12_talesOf_14 rfl 0 rfl ?_
  refine k_aload_n (i := 0) hA dX12_talesOf_15 rfl 0 rfl ?_
  refine gt_MN_0_15 hA wd_1263 dX12_talesOf_16 ?_
  refine k_iload_n (i := 1) hA dX12_talesOf_19 rfl 1 rfl ?_
  refine ld_MN_2 hA hi_3 dX12_talesOf_20 ?_
  refine k_callVi (As := [.int (t_1.1 2 x1.toNatClampNeg)]) (rest := [.ref (a 0)]) hA (m_M_tellsAll_N l G a rv n (t_1.1 2 x1.toNatClampNeg) t_1 ht_4) cd_X12_tellsAll wd_1677 (hc_MN_0 G.2.1 a rv t_1) rfl rfl (Nat.le_of_ble_eq_true rfl) rfl rfl (Nat.le_of_ble_eq_true rfl) dX12_talesOf_21 ?_
  refine k_callVi (As := [.int r_5]) (rest := []) hA (m_M_good_N l G a rv r_5 t_4 hq_6.symm) cd_X12_good wd_1601 (hc_MN_0 G.2.1 a rv t_4) rfl rfl (Nat.le_of_ble_eq_true rfl) rfl rfl (Nat.le_of_ble_eq_true rfl) dX12_talesOf_24 ?_
  refine k_goto (tgt := 35) hA dX12_talesOf_27 rfl ?_
  exact k_iret hA hr rfl dX12_talesOf_35

def f_M_wanted_N (n : Nat) (x1 : Int32) (t : k_St) : Option (Int32 × k_St) := k_lt (k_sI t 0 0 (0 : Int32)) (fun t_1 => (if (k_b (f_M_isHouse_N t_1 x1)) = 0 then k_lt (f_M_refused_N (1 : Int32) t_1) (fun q_5 => some (q_5.1, q_5.2)) else k_gi x1 6 (k_cl (f_M_tellsAll_N n (t_1.1 2 x1.toNatClampNeg) t_1) (fun r_4 t_3 => none))))
theorem m_M_wanted_N (l : Launch) (G : k_G) (a : Nat → Nat) (rv : Value) (n : Nat) (x1 : Int32) (t : k_St) {r : Int32} {t' : k_St} (hf : f_M_wanted_N n x1 t = some (r, t')) : k_CI l G yX12_wanted cX12_wanted 6 (some .int) 4 (k_WN G.2.1 a rv t) [.ref (a 0), .int x1] r (k_WN G.2.1 a rv t') := by
  refine k_startI (lv := [(0, .ref (a 0)), (1, .int x1)]) (by decide +kernel) (Nat.le_of_ble_eq_true rfl) rfl ?_
  intro p e s m args below meth c hA hr
  have hA : k_Amb p s m args meth c cX12_wanted 6 "TaleSharesModel" G _ := hA
  unfold f_M_wanted_N at hf
  obtain ⟨t_1, et_1, hf⟩ := k_lt_e hf
  refine k_aload_n (i := 0) hA dX12_wanted_0 rfl 0 rfl ?_
  refine k_iconst hA dX12_wanted_1 kc_i_0 ?_
  refine pt_MN_0_0 hA wd_1248 et_1 dX12_wanted_2 ?_
  refine k_aload_n (i := 0) hA dX12_wanted_5 rfl 0 rfl ?_
  refine k_iload_n (i := 1) hA dX12_wanted_6 rfl 1 rfl ?_
  refine k_callVi (As := [.int x1]) (rest := []) hA (m_M_isHouse_N l G a rv t_1 x1 rfl) cd_X12_isHouse wd_1625 (hc_MN_0 G.2.1 a rv t_1) rfl rfl (Nat.le_of_ble_eq_true rfl) rfl rfl (Nat.le_of_ble_eq_true rfl) dX12_wanted_7 ?_
  refine k_if_ne (tgt := 19) hA dX12_wanted_10 rfl (fun hc => ?_) (fun hc => ?_)
  · have hf := k_iff hc hf
    obtain ⟨hi_2, hf⟩ := k_gi_e hf
    obtain ⟨r_4, t_3, ht_3, hf⟩ := k_cl_e hf
    cases hf
  have hf := k_ift hc hf
  obtain ⟨⟨rq_5, tq_5⟩, hq_5, hf⟩ := k_lt_e hf
  dsimp only at hf
  obtain ⟨rfl, rfl⟩ := k_r2 hf
  refine k_aload_n (i := 0) hA dX12_wanted_13 rfl 0 rfl ?_
  refine k_iconst hA dX12_wanted_14 kc_i_1 ?_
  refine k_callVi (As := [.int (1 : Int32)]) (rest := []) hA (m_M_refused_N l G a rv (1 : Int32) t_1 hq_5.symm) cd_X12_refused wd_1390 (hc_MN_0 G.2.1 a rv t_1) rfl rfl (Nat.le_of_ble_eq_true rfl) rfl rfl (Nat.le_of_ble_eq_true rfl) dX12_wanted_15 ?_
  exact k_iret hA hr rfl dX12_wanted_18

def f_M_ask_N (n : Nat) (x1 : Int32) (t : k_St) : Option (Int32 × k_St) := k_lt (k_sI t 0 0 (0 : Int32)) (fun t_1 => (if (k_b (f_M_isHouse_N t_1 x1)) = 0 then k_lt (f_M_refused_N (1 : Int32) t_1) (fun q_5 => some (q_5.1, q_5.2)) else k_gi x1 6 (k_cl (f_M_tellsAll_N n (t_1.1 2 x1.toNatClampNeg) t_1) (fun r_4 t_3 => none))))
theorem m_M_ask_N (l : Launch) (G : k_G) (a : Nat → Nat) (rv : Value) (n : Nat) (x1 : Int32) (t : k_St) {r : Int32} {t' : k_St} (hf : f_M_ask_N n x1 t = some (r, t')) : k_CI l G yX12_ask cX12_ask 6 (some .int) 4 (k_WN G.2.1 a rv t) [.ref (a 0), .int x1] r (k_WN G.2.1 a rv t') := by
  refine k_startI (lv := [(0, .ref (a 0)), (1, .int x1)]) (by decide +kernel) (Nat.le_of_ble_eq_true rfl) rfl ?_
  intro p e s m args below meth c hA hr
  have hA : k_Amb p s m args meth c cX12_ask 6 "TaleSharesModel" G _ := hA
  unfold f_M_ask_N at hf
  obtain ⟨t_1, et_1, hf⟩ := k_lt_e hf
  refine k_aload_n (i := 0) hA dX12_ask_0 rfl 0 rfl ?_
  refine k_iconst hA dX12_ask_1 kc_i_0 ?_
  refine pt_MN_0_0 hA wd_1248 et_1 dX12_ask_2 ?_
  refine k_aload_n (i := 0) hA dX12_ask_5 rfl 0 rfl ?_
  refine k_iload_n (i := 1) hA dX12_ask_6 rfl 1 rfl ?_
  refine k_callVi (As := [.int x1]) (rest := []) hA (m_M_isHouse_N l G a rv t_1 x1 rfl) cd_X12_isHouse wd_1625 (hc_MN_0 G.2.1 a rv t_1) rfl rfl (Nat.le_of_ble_eq_true rfl) rfl rfl (Nat.le_of_ble_eq_true rfl) dX12_ask_7 ?_
  refine k_if_ne (tgt := 19) hA dX12_ask_10 rfl (fun hc => ?_) (fun hc => ?_)
  · have hf := k_iff hc hf
    obtain ⟨hi_2, hf⟩ := k_gi_e hf
    obtain ⟨r_4, t_3, ht_3, hf⟩ := k_cl_e hf
    cases hf
  have hf := k_ift hc hf
  obtain ⟨⟨rq_5, tq_5⟩, hq_5, hf⟩ := k_lt_e hf
  dsimp only at hf
  obtain ⟨rfl, rfl⟩ := k_r2 hf
  refine k_aload_n (i := 0) hA dX12_ask_13 rfl 0 rfl ?_
  refine k_iconst hA dX12_ask_14 kc_i_1 ?_
  refine k_callVi (As := [.int (1 : Int32)]) (rest := []) hA (m_M_refused_N l G a rv (1 : Int32) t_1 hq_5.symm) cd_X12_refused wd_1390 (hc_MN_0 G.2.1 a rv t_1) rfl rfl (Nat.le_of_ble_eq_true rfl) rfl rfl (Nat.le_of_ble_eq_true rfl) dX12_ask_15 ?_
  exact k_iret hA hr rfl dX12_ask_18

def f_M_askAll_N (x1 : Int32) (t : k_St) : Option (Int32 × k_St) := k_lt (k_sI t 0 0 (0 : Int32)) (fun t_1 => (if (k_b (f_M_isHouse_N t_1 x1)) = 0 then k_lt (f_M_refused_N (1 : Int32) t_1) (fun q_2 => some (q_2.1, q_2.2)) else none))
theorem m_M_askAll_N (l : Launch) (G : k_G) (a : Nat → Nat) (rv : Value) (x1 : Int32) (t : k_St) {r : Int32} {t' : k_St} (hf : f_M_askAll_N x1 t = some (r, t')) : k_CI l G yX12_askAll cX12_askAll 6 (some .int) 2 (k_WN G.2.1 a rv t) [.ref (a 0), .int x1] r (k_WN G.2.1 a rv t') := by
  refine k_startI (lv := [(0, .ref (a 0)), (1, .int x1)]) (by decide +kernel) (Nat.le_of_ble_eq_true rfl) rfl ?_
  intro p e s m args below meth c hA hr
  have hA : k_Amb p s m args meth c cX12_askAll 6 "TaleSharesModel" G _ := hA
  unfold f_M_askAll_N at hf
  obtain ⟨t_1, et_1, hf⟩ := k_lt_e hf
  refine k_aload_n (i := 0) hA dX12_askAll_0 rfl 0 rfl ?_
  refine k_iconst hA dX12_askAll_1 kc_i_0 ?_
  refine pt_MN_0_0 hA wd_1248 et_1 dX12_askAll_2 ?_
  refine k_aload_n (i := 0) hA dX12_askAll_5 rfl 0 rfl ?_
  refine k_iload_n (i := 1) hA dX12_askAll_6 rfl 1 rfl ?_
  refine k_callVi (As := [.int x1]) (rest := []) hA (m_M_isHouse_N l G a rv t_1 x1 rfl) cd_X12_isHouse wd_1625 (hc_MN_0 G.2.1 a rv t_1) rfl rfl (Nat.le_of_ble_eq_true rfl) rfl rfl (Nat.le_of_ble_eq_true rfl) dX12_askAll_7 ?_
  refine k_if_ne (tgt := 19) hA dX12_askAll_10 rfl (fun hc => ?_) (fun hc => ?_)
  · have hf := k_iff hc hf
    cases hf
  have hf := k_ift hc hf
  obtain ⟨⟨rq_2, tq_2⟩, hq_2, hf⟩ := k_lt_e hf
  dsimp only at hf
  obtain ⟨rfl, rfl⟩ := k_r2 hf
  refine k_aload_n (i := 0) hA dX12_askAll_13 rfl 0 rfl ?_
  refine k_iconst hA dX12_askAll_14 kc_i_1 ?_
  refine k_callVi (As := [.int (1 : Int32)]) (rest := []) hA (m_M_refused_N l G a rv (1 : Int32) t_1 hq_2.symm) cd_X12_refused wd_1390 (hc_MN_0 G.2.1 a rv t_1) rfl rfl (Nat.le_of_ble_eq_true rfl) rfl rfl (Nat.le_of_ble_eq_true rfl) dX12_askAll_15 ?_
  exact k_iret hA hr rfl dX12_askAll_18

def f_M_sense_N (t : k_St) : Int32 × k_St := k_lt (k_sI t 0 0 (0 : Int32)) (fun t_1 => k_lt (f_M_refused_N (1 : Int32) t_1) (fun q_2 => (q_2.1, q_2.2)))
theorem m_M_sense_N (l : Launch) (G : k_G) (a : Nat → Nat) (rv : Value) (t : k_St) {r : Int32} {t' : k_St} (hf : f_M_sense_N t = (r, t')) : k_CI l G yX12_sense cX12_sense 1 (some .int) 2 (k_WN G.2.1 a rv t) [.ref (a 0)] r (k_WN G.2.1 a rv t') := by
  refine k_startI (lv := [(0, .ref (a 0))]) (by decide +kernel) (Nat.le_of_ble_eq_true rfl) rfl ?_
  intro p e s m args below meth c hA hr
  have hA : k_Amb p s m args meth c cX12_sense 1 "TaleSharesModel" G _ := hA
  unfold f_M_sense_N at hf
  obtain ⟨t_1, et_1, hf⟩ := k_lt_e hf
  obtain ⟨⟨rq_2, tq_2⟩, hq_2, hf⟩ := k_lt_e hf
  dsimp only at hf
  obtain ⟨rfl, rfl⟩ := k_p2 hf
  refine k_aload_n (i := 0) hA dX12_sense_0 rfl 0 rfl ?_
  refine k_iconst hA dX12_sense_1 kc_i_0 ?_
  refine pt_MN_0_0 hA wd_1248 et_1 dX12_sense_2 ?_
  refine k_aload_n (i := 0) hA dX12_sense_5 rfl 0 rfl ?_
  refine gt_MN_0_3 hA wd_1251 dX12_sense_6 ?_
  refine k_ifnonnullN hA dX12_sense_9 ?_
  refine k_aload_n (i := 0) hA dX12_sense_12 rfl 0 rfl ?_
  refine k_iconst hA dX12_sense_13 kc_i_1 ?_
  refine k_callVi (As := [.int (1 : Int32)]) (rest := []) hA (m_M_refused_N l G a rv (1 : Int32) t_1 hq_2.symm) cd_X12_refused wd_1390 (hc_MN_0 G.2.1 a rv t_1) rfl rfl (Nat.le_of_ble_eq_true rfl) rfl rfl (Nat.le_of_ble_eq_true rfl) dX12_sense_14 ?_
  refine k_goto (tgt := 32) hA dX12_sense_17 rfl ?_
  exact k_iret hA hr rfl dX12_sense_32

def f_M_wisest_N (t : k_St) : Int32 × k_St := k_lt (k_sI t 0 0 (0 : Int32)) (fun t_1 => k_lt (f_M_refused_N (1 : Int32) t_1) (fun q_2 => (q_2.1, q_2.2)))
theorem m_M_wisest_N (l : Launch) (G : k_G) (a : Nat → Nat) (rv : Value) (t : k_St) {r : Int32} {t' : k_St} (hf : f_M_wisest_N t = (r, t')) : k_CI l G yX12_wisest cX12_wisest 3 (some .int) 2 (k_WN G.2.1 a rv t) [.ref (a 0)] r (k_WN G.2.1 a rv t') := by
  refine k_startI (lv := [(0, .ref (a 0))]) (by decide +kernel) (Nat.le_of_ble_eq_true rfl) rfl ?_
  intro p e s m args below meth c hA hr
  have hA : k_Amb p s m args meth c cX12_wisest 3 "TaleSharesModel" G _ := hA
  unfold f_M_wisest_N at hf
  obtain ⟨t_1, et_1, hf⟩ := k_lt_e hf
  obtain ⟨⟨rq_2, tq_2⟩, hq_2, hf⟩ := k_lt_e hf
  dsimp only at hf
  obtain ⟨rfl, rfl⟩ := k_p2 hf
  refine k_aload_n (i := 0) hA dX12_wisest_0 rfl 0 rfl ?_
  refine k_iconst hA dX12_wisest_1 kc_i_0 ?_
  refine pt_MN_0_0 hA wd_1248 et_1 dX12_wisest_2 ?_
  refine k_aload_n (i := 0) hA dX12_wisest_5 rfl 0 rfl ?_
  refine gt_MN_0_3 hA wd_1251 dX12_wisest_6 ?_
  refine k_ifnonnullN hA dX12_wisest_9 ?_
  refine k_aload_n (i := 0) hA dX12_wisest_12 rfl 0 rfl ?_
  refine k_iconst hA dX12_wisest_13 kc_i_1 ?_
  refine k_callVi (As := [.int (1 : Int32)]) (rest := []) hA (m_M_refused_N l G a rv (1 : Int32) t_1 hq_2.symm) cd_X12_refused wd_1390 (hc_MN_0 G.2.1 a rv t_1) rfl rfl (Nat.le_of_ble_eq_true rfl) rfl rfl (Nat.le_of_ble_eq_true rfl) dX12_wisest_14 ?_
  exact k_iret hA hr rfl dX12_wisest_17

def f_M_soonest_N (t : k_St) : Int32 × k_St := k_lt (k_sI t 0 0 (0 : Int32)) (fun t_1 => k_lt (f_M_refused_N (1 : Int32) t_1) (fun q_2 => (q_2.1, q_2.2)))
theorem m_M_soonest_N (l : Launch) (G : k_G) (a : Nat → Nat) (rv : Value) (t : k_St) {r : Int32} {t' : k_St} (hf : f_M_soonest_N t = (r, t')) : k_CI l G yX12_soonest cX12_soonest 1 (some .int) 2 (k_WN G.2.1 a rv t) [.ref (a 0)] r (k_WN G.2.1 a rv t') := by
  refine k_startI (lv := [(0, .ref (a 0))]) (by decide +kernel) (Nat.le_of_ble_eq_true rfl) rfl ?_
  intro p e s m args below meth c hA hr
  have hA : k_Amb p s m args meth c cX12_soonest 1 "TaleSharesModel" G _ := hA
  unfold f_M_soonest_N at hf
  obtain ⟨t_1, et_1, hf⟩ := k_lt_e hf
  obtain ⟨⟨rq_2, tq_2⟩, hq_2, hf⟩ := k_lt_e hf
  dsimp only at hf
  obtain ⟨rfl, rfl⟩ := k_p2 hf
  refine k_aload_n (i := 0) hA dX12_soonest_0 rfl 0 rfl ?_
  refine k_iconst hA dX12_soonest_1 kc_i_0 ?_
  refine pt_MN_0_0 hA wd_1248 et_1 dX12_soonest_2 ?_
  refine k_aload_n (i := 0) hA dX12_soonest_5 rfl 0 rfl ?_
  refine gt_MN_0_3 hA wd_1251 dX12_soonest_6 ?_
  refine k_ifnonnullN hA dX12_soonest_9 ?_
  refine k_aload_n (i := 0) hA dX12_soonest_12 rfl 0 rfl ?_
  refine k_iconst hA dX12_soonest_13 kc_i_1 ?_
  refine k_callVi (As := [.int (1 : Int32)]) (rest := []) hA (m_M_refused_N l G a rv (1 : Int32) t_1 hq_2.symm) cd_X12_refused wd_1390 (hc_MN_0 G.2.1 a rv t_1) rfl rfl (Nat.le_of_ble_eq_true rfl) rfl rfl (Nat.le_of_ble_eq_true rfl) dX12_soonest_14 ?_
  refine k_goto (tgt := 28) hA dX12_soonest_17 rfl ?_
  exact k_iret hA hr rfl dX12_soonest_28

def f_M_waysAll_N (t : k_St) : Option k_St := k_lt (k_sI t 0 31 (0 : Int32)) (fun t_1 => none)
theorem m_M_waysAll_N (l : Launch) (G : k_G) (a : Nat → Nat) (rv : Value) (t : k_St) {t' : k_St} (hf : f_M_waysAll_N t = some t') : k_CV l G yX12_waysAll cX12_waysAll 6 none 1 (k_WN G.2.1 a rv t) [.ref (a 0)] (k_WN G.2.1 a rv t') := by
  refine k_startV (lv := [(0, .ref (a 0))]) (by decide +kernel) (Nat.le_of_ble_eq_true rfl) rfl ?_
  intro p e s m args below meth c hA hr
  have hA : k_Amb p s m args meth c cX12_waysAll 6 "TaleSharesModel" G _ := hA
  unfold f_M_waysAll_N at hf
  obtain ⟨t_1, et_1, hf⟩ := k_lt_e hf
  cases hf

def f_M_codesOf_N_4 (n : Nat) (t : k_St) : Nat → Int32 → Int32 → Int32 → Option Int32
  | 0, _, _, _ => none
  | k + 1, x1, x2, x3 => (if x1 ≤ x3 then some x2 else k_lt (x2 * (t.1 0 31)) (fun x2_1 => k_lt (x3 + (1 : Int32)) (fun x3_2 => f_M_codesOf_N_4 n t k x1 x2_1 x3_2)))
def f_M_codesOf_N (n : Nat) (t : k_St) (x1 : Int32) : Option Int32 := f_M_codesOf_N_4 n t n x1 (1 : Int32) (0 : Int32)
theorem m_M_codesOf_N_4 {p : Program} (l : Launch) {e : Env} {s : State} {m : MethodId} {args : Array Value} {below : List Frame} {meth : Method} {c : Code} (G : k_G) (a : Nat → Nat) (rv : Value) (n : Nat) (t : k_St) {w0 : va_W} {r : Int32} (hA : k_Amb p s m args meth c cX12_codesOf 4 "TaleSharesModel" G (va_A w0 s.heap.size)) (hr : meth.sig.returnType = (some .int)) : ∀ (k : Nat) (x1 : Int32) (x2 : Int32) (x3 : Int32), f_M_codesOf_N_4 n t k x1 x2 x3 = some r → k_Go p l e (k_rm 1) s m args below meth c (k_QI G w0 r (k_WN G.2.1 a rv t) args s below) 4 G (va_A w0 s.heap.size) (k_WN G.2.1 a rv t) 4 [(0, .ref (a 0)), (1, .int x1), (2, .int x2), (3, .int x3)] [] := by
  intro k
  induction k with
  | zero => intro x1 x2 x3 hf; cases hf
  | succ k ih =>
  intro x1 x2 x3 hf
  rw [f_M_codesOf_N_4] at hf
  refine k_iload_n (i := 3) hA dX12_codesOf_4 rfl 3 rfl ?_
  refine k_iload_n (i := 1) hA dX12_codesOf_5 rfl 1 rfl ?_
  refine k_icmp_ge (tgt := 22) hA dX12_codesOf_6 rfl (fun hc => ?_) (fun hc => ?_)
  · have hf := k_ift hc hf
    obtain rfl := k_r1 hf
    refine k_iload_n (i := 2) hA dX12_codesOf_22 rfl 2 rfl ?_
    exact k_iret hA hr rfl dX12_codesOf_23
  have hf := k_iff hc hf
  obtain ⟨x2_1, ex2_1, hf⟩ := k_lt_e hf
  obtain ⟨x3_2, ex3_2, hf⟩ := k_lt_e hf
  refine k_iload_n (i := 2) hA dX12_codesOf_9 rfl 2 rfl ?_
  refine k_aload_n (i := 0) hA dX12_codesOf_10 rfl 0 rfl ?_
  refine gt_MN_0_31 hA wd_1279 dX12_codesOf_11 ?_
  refine k_imul hA dX12_codesOf_14 ?_
  refine k_istore_n (i := 2) (lv' := [(2, .int x2_1), (0, .ref (a 0)), (1, .int x1), (3, .int x3)]) hA dX12_codesOf_15 rfl ex2_1 (Nat.le_of_ble_eq_true rfl) rfl ?_
  refine k_iinc (j := 3) (v := x3_2) (lv' := [(3, .int x3_2), (2, .int x2_1), (0, .ref (a 0)), (1, .int x1)]) hA dX12_codesOf_16 rfl (k_inc ex3_2 kc_i_1) (Nat.le_of_ble_eq_true rfl) rfl ?_
  refine k_goto (tgt := 4) hA dX12_codesOf_19 rfl ?_
  refine k_pick (lv' := [(0, .ref (a 0)), (1, .int x1), (2, .int x2_1), (3, .int x3_2)]) [2, 3, 1, 0] rfl ?_
  exact ih x1 x2_1 x3_2 hf

theorem m_M_codesOf_N (l : Launch) (G : k_G) (a : Nat → Nat) (rv : Value) (n : Nat) (t : k_St) (x1 : Int32) {r : Int32} (hf : f_M_codesOf_N n t x1 = some r) : k_CI l G yX12_codesOf cX12_codesOf 4 (some .int) 1 (k_WN G.2.1 a rv t) [.ref (a 0), .int x1] r (k_WN G.2.1 a rv t) := by
  refine k_startI (lv := [(0, .ref (a 0)), (1, .int x1)]) (by decide +kernel) (Nat.le_of_ble_eq_true rfl) rfl ?_
  intro p e s m args below meth c hA hr
  have hA : k_Amb p s m args meth c cX12_codesOf 4 "TaleSharesModel" G _ := hA
  unfold f_M_codesOf_N at hf
  refine k_iconst hA dX12_codesOf_0 kc_i_1 ?_
  refine k_istore_n (i := 2) (lv' := [(2, .int (1 : Int32)), (0, .ref (a 0)), (1, .int x1)]) hA dX12_codesOf_1 rfl rfl (Nat.le_of_ble_eq_true rfl) rfl ?_
  refine k_iconst hA dX12_codesOf_2 kc_i_0 ?_
  refine k_istore_n (i := 3) (lv' := [(3, .int (0 : Int32)), (2, .int (1 : Int32)), (0, .ref (a 0)), (1, .int x1)]) hA dX12_codesOf_3 rfl rfl (Nat.le_of_ble_eq_true rfl) rfl ?_
  refine k_pick (lv' := [(0, .ref (a 0)), (1, .int x1), (2, .int (1 : Int32)), (3, .int (0 : Int32))]) [2, 3, 1, 0] rfl ?_
  exact m_M_codesOf_N_4 l G a rv n t hA hr n x1 (1 : Int32) (0 : Int32) hf

def f_M_allKnow_N (t : k_St) (x1 : Int32) (x2 : Int32) : Option Int32 := k_cp (f_M_knownBut_N t (-1 : Int32)) (fun r_1 => none)
theorem m_M_allKnow_N (l : Launch) (G : k_G) (a : Nat → Nat) (rv : Value) (t : k_St) (x1 : Int32) (x2 : Int32) {r : Int32} (hf : f_M_allKnow_N t x1 x2 = some r) : k_CI l G yX12_allKnow cX12_allKnow 6 (some .int) 2 (k_WN G.2.1 a rv t) [.ref (a 0), .int x1, .int x2] r (k_WN G.2.1 a rv t) := by
  refine k_startI (lv := [(0, .ref (a 0)), (1, .int x1), (2, .int x2)]) (by decide +kernel) (Nat.le_of_ble_eq_true rfl) rfl ?_
  intro p e s m args below meth c hA hr
  have hA : k_Amb p s m args meth c cX12_allKnow 6 "TaleSharesModel" G _ := hA
  unfold f_M_allKnow_N at hf
  obtain ⟨r_1, hr_1, hf⟩ := k_cp_e hf
  cases hf

def f_M_parks_N_6 (n : Nat) : Nat → Int32 → k_St → Option (Int32 × k_St)
  | 0, _, _ => none
  | k + 1, x1, t => (if (3 : Int32) < x1 then some ((-2 : Int32), t) else k_cp (f_M_codesOf_N n t x1) (fun r_1 => (if r_1 ≤ (0 : Int32) then k_lt (x1 + (1 : Int32)) (fun x1_2 => f_M_parks_N_6 n k x1_2 t) else k_cp (f_M_allKnow_N t (0 : Int32) x1) (fun r_3 => none))))
def f_M_parks_N (n : Nat) (t : k_St) : Option (Int32 × k_St) := k_cv (f_M_waysAll_N t) (fun t_1 => f_M_parks_N_6 n n (0 : Int32) t_1)
theorem m_M_parks_N_6 {p : Program} (l : Launch) {e : Env} {s : State} {m : MethodId} {args : Array Value} {below : List Frame} {meth : Method} {c : Code} (G : k_G) (a : Nat → Nat) (rv : Value) (n : Nat) {w0 : va_W} {r : Int32} {t' : k_St} (hA : k_Amb p s m args meth c cX12_parks 3 "TaleSharesModel" G (va_A w0 s.heap.size)) (hr : meth.sig.returnType = (some .int)) : ∀ (k : Nat) (x1 : Int32) (t : k_St), f_M_parks_N_6 n k x1 t = some (r, t') → k_Go p l e (k_rm 3) s m args below meth c (k_QI G w0 r (k_WN G.2.1 a rv t') args s below) 3 G (va_A w0 s.heap.size) (k_WN G.2.1 a rv t) 6 [(0, .ref (a 0)), (1, .int x1)] [] := by
  intro k
  induction k with
  | zero => intro x1 t hf; cases hf
  | succ k ih =>
  intro x1 t hf
  rw [f_M_parks_N_6] at hf
  refine k_iload_n (i := 1) hA dX12_parks_6 rfl 1 rfl ?_
  refine k_iconst hA dX12_parks_7 kc_i_3 ?_
  refine k_icmp_gt (tgt := 60) hA dX12_parks_8 rfl (fun hc => ?_) (fun hc => ?_)
  · have hf := k_ift hc hf
    obtain ⟨rfl, rfl⟩ := k_r2 hf
    refine k_bipush hA dX12_parks_60 kc_b_m2 ?_
    exact k_iret hA hr rfl dX12_parks_62
  have hf := k_iff hc hf
  obtain ⟨r_1, hr_1, hf⟩ := k_cp_e hf
  refine k_iconst hA dX12_parks_11 kc_i_0 ?_
  refine k_istore_n (i := 2) (lv' := [(2, .int (0 : Int32)), (0, .ref (a 0)), (1, .int x1)]) hA dX12_parks_12 rfl rfl (Nat.le_of_ble_eq_true rfl) rfl ?_
  refine k_iload_n (i := 2) hA dX12_parks_13 rfl 0 rfl ?_
  refine k_aload_n (i := 0) hA dX12_parks_14 rfl 1 rfl ?_
  refine k_iload_n (i := 1) hA dX12_parks_15 rfl 2 rfl ?_
  refine k_callVi (As := [.int x1]) (rest := [.int (0 : Int32)]) hA (m_M_codesOf_N l G a rv n t x1 hr_1) cd_X12_codesOf wd_1768 (hc_MN_0 G.2.1 a rv t) rfl rfl (Nat.le_of_ble_eq_true rfl) rfl rfl (Nat.le_of_ble_eq_true rfl) dX12_parks_16 ?_
  refine k_icmp_ge (tgt := 54) hA dX12_parks_19 rfl (fun hc => ?_) (fun hc => ?_)
  · have hf := k_ift hc hf
    obtain ⟨x1_2, ex1_2, hf⟩ := k_lt_e hf
    refine k_iinc (j := 2) (v := x1_2) (lv' := [(1, .int x1_2), (2, .int (0 : Int32)), (0, .ref (a 0))]) hA dX12_parks_54 rfl (k_inc ex1_2 kc_i_1) (Nat.le_of_ble_eq_true rfl) rfl ?_
    refine k_goto (tgt := 6) hA dX12_parks_57 rfl ?_
    refine k_pick (lv' := [(0, .ref (a 0)), (1, .int x1_2)]) [2, 0] rfl ?_
    exact ih x1_2 t hf
  have hf := k_iff hc hf
  obtain ⟨r_3, hr_3, hf⟩ := k_cp_e hf
  cases hf

theorem m_M_parks_N (l : Launch) (G : k_G) (a : Nat → Nat) (rv : Value) (n : Nat) (t : k_St) {r : Int32} {t' : k_St} (hf : f_M_parks_N n t = some (r, t')) : k_CI l G yX12_parks cX12_parks 3 (some .int) 3 (k_WN G.2.1 a rv t) [.ref (a 0)] r (k_WN G.2.1 a rv t') := by
  refine k_startI (lv := [(0, .ref (a 0))]) (by decide +kernel) (Nat.le_of_ble_eq_true rfl) rfl ?_
  intro p e s m args below meth c hA hr
  have hA : k_Amb p s m args meth c cX12_parks 3 "TaleSharesModel" G _ := hA
  unfold f_M_parks_N at hf
  obtain ⟨t_1, ht_1, hf⟩ := k_cv_e hf
  refine k_aload_n (i := 0) hA dX12_parks_0 rfl 0 rfl ?_
  refine k_callVv (As := []) (rest := []) hA (m_M_waysAll_N l G a rv t ht_1) cd_X12_waysAll wd_1760 (hc_MN_0 G.2.1 a rv t) rfl rfl (Nat.le_of_ble_eq_true rfl) rfl rfl (Nat.le_of_ble_eq_true rfl) dX12_parks_1 ?_
  refine k_iconst hA dX12_parks_4 kc_i_0 ?_
  refine k_istore_n (i := 1) (lv' := [(1, .int (0 : Int32)), (0, .ref (a 0))]) hA dX12_parks_5 rfl rfl (Nat.le_of_ble_eq_true rfl) rfl ?_
  refine k_pick (lv' := [(0, .ref (a 0)), (1, .int (0 : Int32))]) [1, 0] rfl ?_
  exact m_M_parks_N_6 l G a rv n hA hr n (0 : Int32) t_1 hf

def f_M_rowOf_N_8 (n : Nat) (t : k_St) : Nat → Int32 → Int32 → Int32 → Option Int32
  | 0, _, _, _ => none
  | k + 1, x3, x4, x5 => (if x5 ≤ x3 then k_gd (¬ (t.1 0 31) = 0) (some (x4 - x4 / (t.1 0 31) * (t.1 0 31))) else k_gd (¬ (t.1 0 31) = 0) (k_lt (x4 / (t.1 0 31)) (fun x4_3 => k_lt (x5 + (-1 : Int32)) (fun x5_4 => f_M_rowOf_N_8 n t k x3 x4_3 x5_4))))
def f_M_rowOf_N (n : Nat) (t : k_St) (x1 : Int32) (x2 : Int32) (x3 : Int32) : Option Int32 := k_lt (x2 - (1 : Int32)) (fun x5_1 => f_M_rowOf_N_8 n t n x3 x1 x5_1)
theorem m_M_rowOf_N_8 {p : Program} (l : Launch) {e : Env} {s : State} {m : MethodId} {args : Array Value} {below : List Frame} {meth : Method} {c : Code} (G : k_G) (a : Nat → Nat) (rv : Value) (n : Nat) (t : k_St) {w0 : va_W} {r : Int32} (hA : k_Amb p s m args meth c cX12_rowOf 6 "TaleSharesModel" G (va_A w0 s.heap.size)) (hr : meth.sig.returnType = (some .int)) : ∀ (k : Nat) (x3 : Int32) (x4 : Int32) (x5 : Int32), f_M_rowOf_N_8 n t k x3 x4 x5 = some r → k_Go p l e (k_rm 1) s m args below meth c (k_QI G w0 r (k_WN G.2.1 a rv t) args s below) 6 G (va_A w0 s.heap.size) (k_WN G.2.1 a rv t) 8 [(0, .ref (a 0)), (3, .int x3), (4, .int x4), (5, .int x5)] [] := by
  intro k
  induction k with
  | zero => intro x3 x4 x5 hf; cases hf
  | succ k ih =>
  intro x3 x4 x5 hf
  rw [f_M_rowOf_N_8] at hf
  refine k_iload hA dX12_rowOf_8 3 rfl ?_
  refine k_iload_n (i := 3) hA dX12_rowOf_10 rfl 1 rfl ?_
  refine k_icmp_le (tgt := 29) hA dX12_rowOf_11 rfl (fun hc => ?_) (fun hc => ?_)
  · have hf := k_ift hc hf
    obtain ⟨hn_1, hf⟩ := k_gd_e hf
    obtain rfl := k_r1 hf
    refine k_iload hA dX12_rowOf_29 2 rfl ?_
    refine k_aload_n (i := 0) hA dX12_rowOf_31 rfl 0 rfl ?_
    refine gt_MN_0_31 hA wd_1279 dX12_rowOf_32 ?_
    refine k_irem hA dX12_rowOf_35 hn_1 ?_
    exact k_iret hA hr rfl dX12_rowOf_36
  have hf := k_iff hc hf
  obtain ⟨hn_2, hf⟩ := k_gd_e hf
  obtain ⟨x4_3, ex4_3, hf⟩ := k_lt_e hf
  obtain ⟨x5_4, ex5_4, hf⟩ := k_lt_e hf
  refine k_iload hA dX12_rowOf_14 2 rfl ?_
  refine k_aload_n (i := 0) hA dX12_rowOf_16 rfl 0 rfl ?_
  refine gt_MN_0_31 hA wd_1279 dX12_rowOf_17 ?_
  refine k_idiv hA dX12_rowOf_20 hn_2 ?_
  refine k_istore (lv' := [(4, .int x4_3), (0, .ref (a 0)), (3, .int x3), (5, .int x5)]) hA dX12_rowOf_21 ex4_3 (Nat.le_of_ble_eq_true rfl) rfl ?_
  refine k_iinc (j := 3) (v := x5_4) (lv' := [(5, .int x5_4), (4, .int x4_3), (0, .ref (a 0)), (3, .int x3)]) hA dX12_rowOf_23 rfl (k_inc ex5_4 kc_i_m1) (Nat.le_of_ble_eq_true rfl) rfl ?_
  refine k_goto (tgt := 8) hA dX12_rowOf_26 rfl ?_
  refine k_pick (lv' := [(0, .ref (a 0)), (3, .int x3), (4, .int x4_3), (5, .int x5_4)]) [2, 3, 1, 0] rfl ?_
  exact ih x3 x4_3 x5_4 hf

theorem m_M_rowOf_N (l : Launch) (G : k_G) (a : Nat → Nat) (rv : Value) (n : Nat) (t : k_St) (x1 : Int32) (x2 : Int32) (x3 : Int32) {r : Int32} (hf : f_M_rowOf_N n t x1 x2 x3 = some r) : k_CI l G yX12_rowOf cX12_rowOf 6 (some .int) 1 (k_WN G.2.1 a rv t) [.ref (a 0), .int x1, .int x2, .int x3] r (k_WN G.2.1 a rv t) := by
  refine k_startI (lv := [(0, .ref (a 0)), (1, .int x1), (2, .int x2), (3, .int x3)]) (by decide +kernel) (Nat.le_of_ble_eq_true rfl) rfl ?_
  intro p e s m args below meth c hA hr
  have hA : k_Amb p s m args meth c cX12_rowOf 6 "TaleSharesModel" G _ := hA
  unfold f_M_rowOf_N at hf
  obtain ⟨x5_1, ex5_1, hf⟩ := k_lt_e hf
  refine k_iload_n (i := 1) hA dX12_rowOf_0 rfl 1 rfl ?_
  refine k_istore (lv' := [(4, .int x1), (0, .ref (a 0)), (1, .int x1), (2, .int x2), (3, .int x3)]) hA dX12_rowOf_1 rfl (Nat.le_of_ble_eq_true rfl) rfl ?_
  refine k_iload_n (i := 2) hA dX12_rowOf_3 rfl 3 rfl ?_
  refine k_iconst hA dX12_rowOf_4 kc_i_1 ?_
  refine k_isub hA dX12_rowOf_5 ?_
  refine k_istore (lv' := [(5, .int x5_1), (4, .int x1), (0, .ref (a 0)), (1, .int x1), (2, .int x2), (3, .int x3)]) hA dX12_rowOf_6 ex5_1 (Nat.le_of_ble_eq_true rfl) rfl ?_
  refine k_pick (lv' := [(0, .ref (a 0)), (3, .int x3), (4, .int x1), (5, .int x5_1)]) [2, 5, 1, 0] rfl ?_
  exact m_M_rowOf_N_8 l G a rv n t hA hr n x3 x1 x5_1 hf

def f_M_meets_N (n : Nat) (x1 : Int32) (x2 : Int32) (t : k_St) : Option (Int32 × k_St) := k_lt (k_sI t 0 0 (0 : Int32)) (fun t_1 => (if (k_b (f_M_isHouse_N t_1 x2)) = 0 then k_lt (f_M_refused_N (1 : Int32) t_1) (fun q_2 => some (q_2.1, q_2.2)) else (if 0 ≤ x1 then k_cl (f_M_parks_N n t_1) (fun r_4 t_3 => (if x1 < r_4 then k_cp (f_M_rowOf_N n t_3 (t_3.1 0 32) r_4 x1) (fun r_5 => k_gi (((5 : Int32) * r_5) + x2) 130 (k_lt (t_3.1 8 (((5 : Int32) * r_5) + x2).toNatClampNeg) (fun x4_7 => none))) else k_lt (f_M_refused_N (1 : Int32) t_3) (fun q_8 => some (q_8.1, q_8.2)))) else k_lt (f_M_refused_N (1 : Int32) t_1) (fun q_9 => some (q_9.1, q_9.2)))))
theorem m_M_meets_N (l : Launch) (G : k_G) (a : Nat → Nat) (rv : Value) (n : Nat) (x1 : Int32) (x2 : Int32) (t : k_St) {r : Int32} {t' : k_St} (hf : f_M_meets_N n x1 x2 t = some (r, t')) : k_CI l G yX12_meets cX12_meets 5 (some .int) 4 (k_WN G.2.1 a rv t) [.ref (a 0), .int x1, .int x2] r (k_WN G.2.1 a rv t') := by
  refine k_startI (lv := [(0, .ref (a 0)), (1, .int x1), (2, .int x2)]) (by decide +kernel) (Nat.le_of_ble_eq_true rfl) rfl ?_
  intro p e s m args below meth c hA hr
  have hA : k_Amb p s m args meth c cX12_meets 5 "TaleSharesModel" G _ := hA
  unfold f_M_meets_N at hf
  obtain ⟨t_1, et_1, hf⟩ := k_lt_e hf
  refine k_aload_n (i := 0) hA dX12_meets_0 rfl 0 rfl ?_
  refine k_iconst hA dX12_meets_1 kc_i_0 ?_
  refine pt_MN_0_0 hA wd_1248 et_1 dX12_meets_2 ?_
  refine k_aload_n (i := 0) hA dX12_meets_5 rfl 0 rfl ?_
  refine k_iload_n (i := 2) hA dX12_meets_6 rfl 2 rfl ?_
  refine k_callVi (As := [.int x2]) (rest := []) hA (m_M_isHouse_N l G a rv t_1 x2 rfl) cd_X12_isHouse wd_1625 (hc_MN_0 G.2.1 a rv t_1) rfl rfl (Nat.le_of_ble_eq_true rfl) rfl rfl (Nat.le_of_ble_eq_true rfl) dX12_meets_7 ?_
  refine k_if_eq (tgt := 17) hA dX12_meets_10 rfl (fun hc => ?_) (fun hc => ?_)
  · have hf := k_ift hc hf
    obtain ⟨⟨rq_2, tq_2⟩, hq_2, hf⟩ := k_lt_e hf
    dsimp only at hf
    obtain ⟨rfl, rfl⟩ := k_r2 hf
    refine k_aload_n (i := 0) hA dX12_meets_17 rfl 0 rfl ?_
    refine k_iconst hA dX12_meets_18 kc_i_1 ?_
    refine k_callVi (As := [.int (1 : Int32)]) (rest := []) hA (m_M_refused_N l G a rv (1 : Int32) t_1 hq_2.symm) cd_X12_refused wd_1390 (hc_MN_0 G.2.1 a rv t_1) rfl rfl (Nat.le_of_ble_eq_true rfl) rfl rfl (Nat.le_of_ble_eq_true rfl) dX12_meets_19 ?_
    exact k_iret hA hr rfl dX12_meets_22
  have hf := k_iff hc hf
  refine k_iload_n (i := 1) hA dX12_meets_13 rfl 1 rfl ?_
  refine k_if_ge (tgt := 23) hA dX12_meets_14 rfl (fun hc => ?_) (fun hc => ?_)
  · have hf := k_ift hc hf
    obtain ⟨r_4, t_3, ht_3, hf⟩ := k_cl_e hf
    refine k_aload_n (i := 0) hA dX12_meets_23 rfl 0 rfl ?_
    refine k_callVi (As := []) (rest := []) hA (m_M_parks_N l G a rv n t_1 ht_3) cd_X12_parks wd_1756 (hc_MN_0 G.2.1 a rv t_1) rfl rfl (Nat.le_of_ble_eq_true rfl) rfl rfl (Nat.le_of_ble_eq_true rfl) dX12_meets_24 ?_
    refine k_istore_n (i := 3) (lv' := [(3, .int r_4), (0, .ref (a 0)), (1, .int x1), (2, .int x2)]) hA dX12_meets_27 rfl rfl (Nat.le_of_ble_eq_true rfl) rfl ?_
    refine k_iload_n (i := 1) hA dX12_meets_28 rfl 2 rfl ?_
    refine k_iload_n (i := 3) hA dX12_meets_29 rfl 0 rfl ?_
    refine k_icmp_lt (tgt := 39) hA dX12_meets_30 rfl (fun hc => ?_) (fun hc => ?_)
    · have hf := k_ift hc hf
      obtain ⟨r_5, hr_5, hf⟩ := k_cp_e hf
      obtain ⟨hi_6, hf⟩ := k_gi_e hf
      obtain ⟨x4_7, ex4_7, hf⟩ := k_lt_e hf
      cases hf
    have hf := k_iff hc hf
    obtain ⟨⟨rq_8, tq_8⟩, hq_8, hf⟩ := k_lt_e hf
    dsimp only at hf
    obtain ⟨rfl, rfl⟩ := k_r2 hf
    refine k_aload_n (i := 0) hA dX12_meets_33 rfl 1 rfl ?_
    refine k_iconst hA dX12_meets_34 kc_i_1 ?_
    refine k_callVi (As := [.int (1 : Int32)]) (rest := []) hA (m_M_refused_N l G a rv (1 : Int32) t_3 hq_8.symm) cd_X12_refused wd_1390 (hc_MN_0 G.2.1 a rv t_3) rfl rfl (Nat.le_of_ble_eq_true rfl) rfl rfl (Nat.le_of_ble_eq_true rfl) dX12_meets_35 ?_
    exact k_iret hA hr rfl dX12_meets_38
  have hf := k_iff hc hf
  obtain ⟨⟨rq_9, tq_9⟩, hq_9, hf⟩ := k_lt_e hf
  dsimp only at hf
  obtain ⟨rfl, rfl⟩ := k_r2 hf
  refine k_aload_n (i := 0) hA dX12_meets_17 rfl 0 rfl ?_
  refine k_iconst hA dX12_meets_18 kc_i_1 ?_
  refine k_callVi (As := [.int (1 : Int32)]) (rest := []) hA (m_M_refused_N l G a rv (1 : Int32) t_1 hq_9.symm) cd_X12_refused wd_1390 (hc_MN_0 G.2.1 a rv t_1) rfl rfl (Nat.le_of_ble_eq_true rfl) rfl rfl (Nat.le_of_ble_eq_true rfl) dX12_meets_19 ?_
  exact k_iret hA hr rfl dX12_meets_22

def f_M_mostBehind_N (x1 : Int32) (t : k_St) : Int32 × k_St := k_lt (k_sI t 0 0 (0 : Int32)) (fun t_1 => k_lt (f_M_refused_N (1 : Int32) t_1) (fun q_2 => (q_2.1, q_2.2)))
theorem m_M_mostBehind_N (l : Launch) (G : k_G) (a : Nat → Nat) (rv : Value) (x1 : Int32) (t : k_St) {r : Int32} {t' : k_St} (hf : f_M_mostBehind_N x1 t = (r, t')) : k_CI l G yX12_mostBehind cX12_mostBehind 4 (some .int) 2 (k_WN G.2.1 a rv t) [.ref (a 0), .int x1] r (k_WN G.2.1 a rv t') := by
  refine k_startI (lv := [(0, .ref (a 0)), (1, .int x1)]) (by decide +kernel) (Nat.le_of_ble_eq_true rfl) rfl ?_
  intro p e s m args below meth c hA hr
  have hA : k_Amb p s m args meth c cX12_mostBehind 4 "TaleSharesModel" G _ := hA
  unfold f_M_mostBehind_N at hf
  obtain ⟨t_1, et_1, hf⟩ := k_lt_e hf
  obtain ⟨⟨rq_2, tq_2⟩, hq_2, hf⟩ := k_lt_e hf
  dsimp only at hf
  obtain ⟨rfl, rfl⟩ := k_p2 hf
  refine k_aload_n (i := 0) hA dX12_mostBehind_0 rfl 0 rfl ?_
  refine k_iconst hA dX12_mostBehind_1 kc_i_0 ?_
  refine pt_MN_0_0 hA wd_1248 et_1 dX12_mostBehind_2 ?_
  refine k_aload_n (i := 0) hA dX12_mostBehind_5 rfl 0 rfl ?_
  refine gt_MN_0_3 hA wd_1251 dX12_mostBehind_6 ?_
  refine k_ifnonnullN hA dX12_mostBehind_9 ?_
  refine k_aload_n (i := 0) hA dX12_mostBehind_12 rfl 0 rfl ?_
  refine k_iconst hA dX12_mostBehind_13 kc_i_1 ?_
  refine k_callVi (As := [.int (1 : Int32)]) (rest := []) hA (m_M_refused_N l G a rv (1 : Int32) t_1 hq_2.symm) cd_X12_refused wd_1390 (hc_MN_0 G.2.1 a rv t_1) rfl rfl (Nat.le_of_ble_eq_true rfl) rfl rfl (Nat.le_of_ble_eq_true rfl) dX12_mostBehind_14 ?_
  exact k_iret hA hr rfl dX12_mostBehind_17

def f_M_refusesHouses_N (t : k_St) : Int32 := (1 : Int32)
theorem m_M_refusesHouses_N (l : Launch) (G : k_G) (a : Nat → Nat) (rv : Value) (t : k_St) {r : Int32} (hf : f_M_refusesHouses_N t = r) : k_CI l G yX12_refusesHouses cX12_refusesHouses 1 (some .int) 1 (k_WN G.2.1 a rv t) [.ref (a 0)] r (k_WN G.2.1 a rv t) := by
  refine k_startI (lv := [(0, .ref (a 0))]) (by decide +kernel) (Nat.le_of_ble_eq_true rfl) rfl ?_
  intro p e s m args below meth c hA hr
  have hA : k_Amb p s m args meth c cX12_refusesHouses 1 "TaleSharesModel" G _ := hA
  unfold f_M_refusesHouses_N at hf
  subst hf
  refine k_aload_n (i := 0) hA dX12_refusesHouses_0 rfl 0 rfl ?_
  refine gt_MN_0_3 hA wd_1251 dX12_refusesHouses_1 ?_
  refine k_ifnonnullN hA dX12_refusesHouses_4 ?_
  refine k_iconst hA dX12_refusesHouses_7 kc_i_1 ?_
  refine k_goto (tgt := 27) hA dX12_refusesHouses_8 rfl ?_
  exact k_iret hA hr rfl dX12_refusesHouses_27

def f_M_walksBy_N (t : k_St) : Option Int32 := none
theorem m_M_walksBy_N (l : Launch) (G : k_G) (a : Nat → Nat) (rv : Value) (t : k_St) {r : Int32} (hf : f_M_walksBy_N t = some r) : k_CI l G yX12_walksBy cX12_walksBy 6 (some .int) 1 (k_WN G.2.1 a rv t) [.ref (a 0)] r (k_WN G.2.1 a rv t) := by
  refine k_startI (lv := [(0, .ref (a 0))]) (by decide +kernel) (Nat.le_of_ble_eq_true rfl) rfl ?_
  intro p e s m args below meth c hA hr
  have hA : k_Amb p s m args meth c cX12_walksBy 6 "TaleSharesModel" G _ := hA
  unfold f_M_walksBy_N at hf
  cases hf

def f_M_nextOrder_N (t : k_St) : Option Bool := none
theorem m_M_nextOrder_N (l : Launch) (G : k_G) (a : Nat → Nat) (rv : Value) (t : k_St) {r : Bool} (hf : f_M_nextOrder_N t = some r) : k_CI l G yX12_nextOrder cX12_nextOrder 5 (some .boolean) 1 (k_WN G.2.1 a rv t) [.ref (a 0)] (k_b r) (k_WN G.2.1 a rv t) := by
  refine k_startI (lv := [(0, .ref (a 0))]) (by decide +kernel) (Nat.le_of_ble_eq_true rfl) rfl ?_
  intro p e s m args below meth c hA hr
  have hA : k_Amb p s m args meth c cX12_nextOrder 5 "TaleSharesModel" G _ := hA
  unfold f_M_nextOrder_N at hf
  cases hf

def f_M_timetable_N_67 (n : Nat) (rec31 : Int32 → Int32 → k_St → Option (Int32 × k_St)) : Nat → Int32 → Int32 → k_St → Option (Int32 × k_St)
  | 0, _, _, _ => none
  | k + 1, x1, x4, t => (if (5 : Int32) ≤ x4 then k_cp (f_M_nextOrder_N t) (fun r_1 => k_lt (k_b r_1) (fun x2_2 => rec31 x1 x2_2 t)) else k_gi x4 5 (k_gi x4 5 (k_lt (k_sI t 14 x4.toNatClampNeg (t.1 12 x4.toNatClampNeg)) (fun t_5 => k_gi x4 5 (k_gi x4 5 (k_lt (k_sI t_5 15 x4.toNatClampNeg (t_5.1 13 x4.toNatClampNeg)) (fun t_8 => k_lt (x4 + (1 : Int32)) (fun x4_9 => f_M_timetable_N_67 n rec31 k x1 x4_9 t_8))))))))
def f_M_timetable_N_57 (n : Nat) (rec31 : Int32 → Int32 → k_St → Option (Int32 × k_St)) (x1 : Int32) (x3 : Int32) (t : k_St) : Option (Int32 × k_St) := (if x1 ≤ x3 then k_cp (f_M_nextOrder_N t) (fun r_1 => k_lt (k_b r_1) (fun x2_2 => rec31 x1 x2_2 t)) else f_M_timetable_N_67 n rec31 n x3 (0 : Int32) t)
def f_M_timetable_N_31 (n : Nat) : Nat → Int32 → Int32 → k_St → Option (Int32 × k_St)
  | 0, _, _, _ => none
  | k + 1, x1, x2, t => (if x2 = 0 then some (x1, t) else k_cp (f_M_walksBy_N t) (fun r_1 => (if (9999 : Int32) ≤ r_1 then f_M_timetable_N_57 n (f_M_timetable_N_31 n k) x1 r_1 t else k_lt (k_sI t 0 37 ((t.1 0 37) + (1 : Int32))) (fun t_2 => f_M_timetable_N_57 n (f_M_timetable_N_31 n k) x1 r_1 t_2))))
def f_M_timetable_N_11 (n : Nat) : Nat → Int32 → Int32 → k_St → Option (Int32 × k_St)
  | 0, _, _, _ => none
  | k + 1, x1, x2, t => (if (5 : Int32) ≤ x2 then f_M_timetable_N_31 n n x1 (1 : Int32) t else k_gi x2 5 (k_lt (k_sI t 12 x2.toNatClampNeg x2) (fun t_2 => k_lt (x2 + (1 : Int32)) (fun x2_3 => f_M_timetable_N_11 n k x1 x2_3 t_2))))
def f_M_timetable_N (n : Nat) (t : k_St) : Option (Int32 × k_St) := k_lt (k_sI t 0 37 (0 : Int32)) (fun t_1 => f_M_timetable_N_11 n n (9999 : Int32) (0 : Int32) t_1)
theorem m_M_timetable_N_67 {p : Program} (l : Launch) {e : Env} {s : State} {m : MethodId} {args : Array Value} {below : List Frame} {meth : Method} {c : Code} (G : k_G) (a : Nat → Nat) (rv : Value) (n : Nat) {w0 : va_W} {r : Int32} {t' : k_St} (hA : k_Amb p s m args meth c cX12_timetable 5 "TaleSharesModel" G (va_A w0 s.heap.size)) (hr : meth.sig.returnType = (some .int)) (rec31 : Int32 → Int32 → k_St → Option (Int32 × k_St)) (hrec31 : ∀ (x1 : Int32) (x2 : Int32) (t : k_St), rec31 x1 x2 t = some (r, t') → k_Go p l e (k_rm 2) s m args below meth c (k_QI G w0 r (k_WN G.2.1 a rv t') args s below) 5 G (va_A w0 s.heap.size) (k_WN G.2.1 a rv t) 31 [(0, .ref (a 0)), (1, .int x1), (2, .int x2)] []) : ∀ (k : Nat) (x1 : Int32) (x4 : Int32) (t : k_St), f_M_timetable_N_67 n rec31 k x1 x4 t = some (r, t') → k_Go p l e (k_rm 2) s m args below meth c (k_QI G w0 r (k_WN G.2.1 a rv t') args s below) 5 G (va_A w0 s.heap.size) (k_WN G.2.1 a rv t) 67 [(0, .ref (a 0)), (1, .int x1), (4, .int x4)] [] := by
  intro k
  induction k with
  | zero => intro x1 x4 t hf; cases hf
  | succ k ih =>
  intro x1 x4 t hf
  rw [f_M_timetable_N_67] at hf
  refine k_iload hA dX12_timetable_67 2 rfl ?_
  refine k_iconst hA dX12_timetable_69 kc_i_5 ?_
  refine k_icmp_ge (tgt := 107) hA dX12_timetable_70 rfl (fun hc => ?_) (fun hc => ?_)
  · have hf := k_ift hc hf
    obtain ⟨r_1, hr_1, hf⟩ := k_cp_e hf
    obtain ⟨x2_2, ex2_2, hf⟩ := k_lt_e hf
    refine k_aload_n (i := 0) hA dX12_timetable_107 rfl 0 rfl ?_
    refine k_callVi (As := []) (rest := []) hA (m_M_nextOrder_N l G a rv t hr_1) cd_X12_nextOrder wd_1808 (hc_MN_0 G.2.1 a rv t) rfl rfl (Nat.le_of_ble_eq_true rfl) rfl rfl (Nat.le_of_ble_eq_true rfl) dX12_timetable_108 ?_
    refine k_istore_n (i := 2) (lv' := [(2, .int x2_2), (0, .ref (a 0)), (1, .int x1), (4, .int x4)]) hA dX12_timetable_111 rfl ex2_2 (Nat.le_of_ble_eq_true rfl) rfl ?_
    refine k_goto (tgt := 31) hA dX12_timetable_112 rfl ?_
    refine k_pick (lv' := [(0, .ref (a 0)), (1, .int x1), (2, .int x2_2)]) [1, 2, 0] rfl ?_
    exact hrec31 x1 x2_2 t hf
  have hf := k_iff hc hf
  obtain ⟨hi_3, hf⟩ := k_gi_e hf
  obtain ⟨hi_4, hf⟩ := k_gi_e hf
  obtain ⟨t_5, et_5, hf⟩ := k_lt_e hf
  obtain ⟨hi_6, hf⟩ := k_gi_e hf
  obtain ⟨hi_7, hf⟩ := k_gi_e hf
  obtain ⟨t_8, et_8, hf⟩ := k_lt_e hf
  obtain ⟨x4_9, ex4_9, hf⟩ := k_lt_e hf
  refine k_aload_n (i := 0) hA dX12_timetable_73 rfl 0 rfl ?_
  refine gt_MN_0_35 hA wd_1283 dX12_timetable_74 ?_
  refine k_iload hA dX12_timetable_77 2 rfl ?_
  refine k_aload_n (i := 0) hA dX12_timetable_79 rfl 0 rfl ?_
  refine gt_MN_0_33 hA wd_1281 dX12_timetable_80 ?_
  refine k_iload hA dX12_timetable_83 2 rfl ?_
  refine ld_MN_12 hA hi_3 dX12_timetable_85 ?_
  refine sr_MN_14 hA hi_4 et_5 dX12_timetable_86 ?_
  refine k_aload_n (i := 0) hA dX12_timetable_87 rfl 0 rfl ?_
  refine gt_MN_0_36 hA wd_1284 dX12_timetable_88 ?_
  refine k_iload hA dX12_timetable_91 2 rfl ?_
  refine k_aload_n (i := 0) hA dX12_timetable_93 rfl 0 rfl ?_
  refine gt_MN_0_34 hA wd_1282 dX12_timetable_94 ?_
  refine k_iload hA dX12_timetable_97 2 rfl ?_
  refine ld_MN_13 hA hi_6 dX12_timetable_99 ?_
  refine sr_MN_15 hA hi_7 et_8 dX12_timetable_100 ?_
  refine k_iinc (j := 2) (v := x4_9) (lv' := [(4, .int x4_9), (0, .ref (a 0)), (1, .int x1)]) hA dX12_timetable_101 rfl (k_inc ex4_9 kc_i_1) (Nat.le_of_ble_eq_true rfl) rfl ?_
  refine k_goto (tgt := 67) hA dX12_timetable_104 rfl ?_
  refine k_pick (lv' := [(0, .ref (a 0)), (1, .int x1), (4, .int x4_9)]) [1, 2, 0] rfl ?_
  exact ih x1 x4_9 t_8 hf

theorem m_M_timetable_N_57 {p : Program} (l : Launch) {e : Env} {s : State} {m : MethodId} {args : Array Value} {below : List Frame} {meth : Method} {c : Code} (G : k_G) (a : Nat → Nat) (rv : Value) (n : Nat) {w0 : va_W} {r : Int32} {t' : k_St} (hA : k_Amb p s m args meth c cX12_timetable 5 "TaleSharesModel" G (va_A w0 s.heap.size)) (hr : meth.sig.returnType = (some .int)) (rec31 : Int32 → Int32 → k_St → Option (Int32 × k_St)) (hrec31 : ∀ (x1 : Int32) (x2 : Int32) (t : k_St), rec31 x1 x2 t = some (r, t') → k_Go p l e (k_rm 2) s m args below meth c (k_QI G w0 r (k_WN G.2.1 a rv t') args s below) 5 G (va_A w0 s.heap.size) (k_WN G.2.1 a rv t) 31 [(0, .ref (a 0)), (1, .int x1), (2, .int x2)] []) : ∀ (x1 : Int32) (x3 : Int32) (t : k_St), f_M_timetable_N_57 n rec31 x1 x3 t = some (r, t') → k_Go p l e (k_rm 2) s m args below meth c (k_QI G w0 r (k_WN G.2.1 a rv t') args s below) 5 G (va_A w0 s.heap.size) (k_WN G.2.1 a rv t) 57 [(0, .ref (a 0)), (1, .int x1), (3, .int x3)] [] := by
  intro x1 x3 t hf
  unfold f_M_timetable_N_57 at hf
  refine k_iload_n (i := 3) hA dX12_timetable_57 rfl 2 rfl ?_
  refine k_iload_n (i := 1) hA dX12_timetable_58 rfl 1 rfl ?_
  refine k_icmp_ge (tgt := 107) hA dX12_timetable_59 rfl (fun hc => ?_) (fun hc => ?_)
  · have hf := k_ift hc hf
    obtain ⟨r_1, hr_1, hf⟩ := k_cp_e hf
    obtain ⟨x2_2, ex2_2, hf⟩ := k_lt_e hf
    refine k_aload_n (i := 0) hA dX12_timetable_107 rfl 0 rfl ?_
    refine k_callVi (As := []) (rest := []) hA (m_M_nextOrder_N l G a rv t hr_1) cd_X12_nextOrder wd_1808 (hc_MN_0 G.2.1 a rv t) rfl rfl (Nat.le_of_ble_eq_true rfl) rfl rfl (Nat.le_of_ble_eq_true rfl) dX12_timetable_108 ?_
    refine k_istore_n (i := 2) (lv' := [(2, .int x2_2), (0, .ref (a 0)), (1, .int x1), (3, .int x3)]) hA dX12_timetable_111 rfl ex2_2 (Nat.le_of_ble_eq_true rfl) rfl ?_
    refine k_goto (tgt := 31) hA dX12_timetable_112 rfl ?_
    refine k_pick (lv' := [(0, .ref (a 0)), (1, .int x1), (2, .int x2_2)]) [1, 2, 0] rfl ?_
    exact hrec31 x1 x2_2 t hf
  have hf := k_iff hc hf
  refine k_iload_n (i := 3) hA dX12_timetable_62 rfl 2 rfl ?_
  refine k_istore_n (i := 1) (lv' := [(1, .int x3), (0, .ref (a 0)), (3, .int x3)]) hA dX12_timetable_63 rfl rfl (Nat.le_of_ble_eq_true rfl) rfl ?_
  refine k_iconst hA dX12_timetable_64 kc_i_0 ?_
  refine k_istore (lv' := [(4, .int (0 : Int32)), (1, .int x3), (0, .ref (a 0)), (3, .int x3)]) hA dX12_timetable_65 rfl (Nat.le_of_ble_eq_true rfl) rfl ?_
  refine k_pick (lv' := [(0, .ref (a 0)), (1, .int x3), (4, .int (0 : Int32))]) [2, 1, 0] rfl ?_
  exact m_M_timetable_N_67 l G a rv n hA hr rec31 hrec31 n x3 (0 : Int32) t hf

theorem m_M_timetable_N_31 {p : Program} (l : Launch) {e : Env} {s : State} {m : MethodId} {args : Array Value} {below : List Frame} {meth : Method} {c : Code} (G : k_G) (a : Nat → Nat) (rv : Value) (n : Nat) {w0 : va_W} {r : Int32} {t' : k_St} (hA : k_Amb p s m args meth c cX12_timetable 5 "TaleSharesModel" G (va_A w0 s.heap.size)) (hr : meth.sig.returnType = (some .int)) : ∀ (k : Nat) (x1 : Int32) (x2 : Int32) (t : k_St), f_M_timetable_N_31 n k x1 x2 t = some (r, t') → k_Go p l e (k_rm 2) s m args below meth c (k_QI G w0 r (k_WN G.2.1 a rv t') args s below) 5 G (va_A w0 s.heap.size) (k_WN G.2.1 a rv t) 31 [(0, .ref (a 0)), (1, .int x1), (2, .int x2)] [] := by
  intro k
  induction k with
  | zero => intro x1 x2 t hf; cases hf
  | succ k ih =>
  intro x1 x2 t hf
  rw [f_M_timetable_N_31] at hf
  refine k_iload_n (i := 2) hA dX12_timetable_31 rfl 2 rfl ?_
  refine k_if_eq (tgt := 115) hA dX12_timetable_32 rfl (fun hc => ?_) (fun hc => ?_)
  · have hf := k_ift hc hf
    obtain ⟨rfl, rfl⟩ := k_r2 hf
    refine k_iload_n (i := 1) hA dX12_timetable_115 rfl 1 rfl ?_
    exact k_iret hA hr rfl dX12_timetable_116
  have hf := k_iff hc hf
  obtain ⟨r_1, hr_1, hf⟩ := k_cp_e hf
  refine k_aload_n (i := 0) hA dX12_timetable_35 rfl 0 rfl ?_
  refine k_callVi (As := []) (rest := []) hA (m_M_walksBy_N l G a rv t hr_1) cd_X12_walksBy wd_1804 (hc_MN_0 G.2.1 a rv t) rfl rfl (Nat.le_of_ble_eq_true rfl) rfl rfl (Nat.le_of_ble_eq_true rfl) dX12_timetable_36 ?_
  refine k_istore_n (i := 3) (lv' := [(3, .int r_1), (0, .ref (a 0)), (1, .int x1), (2, .int x2)]) hA dX12_timetable_39 rfl rfl (Nat.le_of_ble_eq_true rfl) rfl ?_
  refine k_iload_n (i := 3) hA dX12_timetable_40 rfl 0 rfl ?_
  refine k_sipush hA dX12_timetable_41 kc_s_9999 ?_
  refine k_icmp_ge (tgt := 57) hA dX12_timetable_44 rfl (fun hc => ?_) (fun hc => ?_)
  · have hf := k_ift hc hf
    refine k_pick (lv' := [(0, .ref (a 0)), (1, .int x1), (3, .int r_1)]) [1, 2, 0] rfl ?_
    exact m_M_timetable_N_57 l G a rv n hA hr (f_M_timetable_N_31 n k) ih x1 r_1 t hf
  have hf := k_iff hc hf
  obtain ⟨t_2, et_2, hf⟩ := k_lt_e hf
  refine k_aload_n (i := 0) hA dX12_timetable_47 rfl 1 rfl ?_
  refine k_dup hA dX12_timetable_48 rfl ?_
  refine gt_MN_0_37 hA wd_1285 dX12_timetable_49 ?_
  refine k_iconst hA dX12_timetable_52 kc_i_1 ?_
  refine k_iadd hA dX12_timetable_53 ?_
  refine pt_MN_0_37 hA wd_1285 et_2 dX12_timetable_54 ?_
  refine k_pick (lv' := [(0, .ref (a 0)), (1, .int x1), (3, .int r_1)]) [1, 2, 0] rfl ?_
  exact m_M_timetable_N_57 l G a rv n hA hr (f_M_timetable_N_31 n k) ih x1 r_1 t_2 hf

theorem m_M_timetable_N_11 {p : Program} (l : Launch) {e : Env} {s : State} {m : MethodId} {args : Array Value} {below : List Frame} {meth : Method} {c : Code} (G : k_G) (a : Nat → Nat) (rv : Value) (n : Nat) {w0 : va_W} {r : Int32} {t' : k_St} (hA : k_Amb p s m args meth c cX12_timetable 5 "TaleSharesModel" G (va_A w0 s.heap.size)) (hr : meth.sig.returnType = (some .int)) : ∀ (k : Nat) (x1 : Int32) (x2 : Int32) (t : k_St), f_M_timetable_N_11 n k x1 x2 t = some (r, t') → k_Go p l e (k_rm 2) s m args below meth c (k_QI G w0 r (k_WN G.2.1 a rv t') args s below) 5 G (va_A w0 s.heap.size) (k_WN G.2.1 a rv t) 11 [(0, .ref (a 0)), (1, .int x1), (2, .int x2)] [] := by
  intro k
  induction k with
  | zero => intro x1 x2 t hf; cases hf
  | succ k ih =>
  intro x1 x2 t hf
  rw [f_M_timetable_N_11] at hf
  refine k_iload_n (i := 2) hA dX12_timetable_11 rfl 2 rfl ?_
  refine k_iconst hA dX12_timetable_12 kc_i_5 ?_
  refine k_icmp_ge (tgt := 29) hA dX12_timetable_13 rfl (fun hc => ?_) (fun hc => ?_)
  · have hf := k_ift hc hf
    refine k_iconst hA dX12_timetable_29 kc_i_1 ?_
    refine k_istore_n (i := 2) (lv' := [(2, .int (1 : Int32)), (0, .ref (a 0)), (1, .int x1)]) hA dX12_timetable_30 rfl rfl (Nat.le_of_ble_eq_true rfl) rfl ?_
    refine k_pick (lv' := [(0, .ref (a 0)), (1, .int x1), (2, .int (1 : Int32))]) [1, 2, 0] rfl ?_
    exact m_M_timetable_N_31 l G a rv n hA hr n x1 (1 : Int32) t hf
  have hf := k_iff hc hf
  obtain ⟨hi_1, hf⟩ := k_gi_e hf
  obtain ⟨t_2, et_2, hf⟩ := k_lt_e hf
  obtain ⟨x2_3, ex2_3, hf⟩ := k_lt_e hf
  refine k_aload_n (i := 0) hA dX12_timetable_16 rfl 0 rfl ?_
  refine gt_MN_0_33 hA wd_1281 dX12_timetable_17 ?_
  refine k_iload_n (i := 2) hA dX12_timetable_20 rfl 2 rfl ?_
  refine k_iload_n (i := 2) hA dX12_timetable_21 rfl 2 rfl ?_
  refine sr_MN_12 hA hi_1 et_2 dX12_timetable_22 ?_
  refine k_iinc (j := 2) (v := x2_3) (lv' := [(2, .int x2_3), (0, .ref (a 0)), (1, .int x1)]) hA dX12_timetable_23 rfl (k_inc ex2_3 kc_i_1) (Nat.le_of_ble_eq_true rfl) rfl ?_
  refine k_goto (tgt := 11) hA dX12_timetable_26 rfl ?_
  refine k_pick (lv' := [(0, .ref (a 0)), (1, .int x1), (2, .int x2_3)]) [1, 2, 0] rfl ?_
  exact ih x1 x2_3 t_2 hf

theorem m_M_timetable_N (l : Launch) (G : k_G) (a : Nat → Nat) (rv : Value) (n : Nat) (t : k_St) {r : Int32} {t' : k_St} (hf : f_M_timetable_N n t = some (r, t')) : k_CI l G yX12_timetable cX12_timetable 5 (some .int) 2 (k_WN G.2.1 a rv t) [.ref (a 0)] r (k_WN G.2.1 a rv t') := by
  refine k_startI (lv := [(0, .ref (a 0))]) (by decide +kernel) (Nat.le_of_ble_eq_true rfl) rfl ?_
  intro p e s m args below meth c hA hr
  have hA : k_Amb p s m args meth c cX12_timetable 5 "TaleSharesModel" G _ := hA
  unfold f_M_timetable_N at hf
  obtain ⟨t_1, et_1, hf⟩ := k_lt_e hf
  refine k_sipush hA dX12_timetable_0 kc_s_9999 ?_
  refine k_istore_n (i := 1) (lv' := [(1, .int (9999 : Int32)), (0, .ref (a 0))]) hA dX12_timetable_3 rfl rfl (Nat.le_of_ble_eq_true rfl) rfl ?_
  refine k_aload_n (i := 0) hA dX12_timetable_4 rfl 1 rfl ?_
  refine k_iconst hA dX12_timetable_5 kc_i_0 ?_
  refine pt_MN_0_37 hA wd_1285 et_1 dX12_timetable_6 ?_
  refine k_iconst hA dX12_timetable_9 kc_i_0 ?_
  refine k_istore_n (i := 2) (lv' := [(2, .int (0 : Int32)), (1, .int (9999 : Int32)), (0, .ref (a 0))]) hA dX12_timetable_10 rfl rfl (Nat.le_of_ble_eq_true rfl) rfl ?_
  refine k_pick (lv' := [(0, .ref (a 0)), (1, .int (9999 : Int32)), (2, .int (0 : Int32))]) [2, 1, 0] rfl ?_
  exact m_M_timetable_N_11 l G a rv n hA hr n (9999 : Int32) (0 : Int32) t_1 hf

