/-! ===== the law: its end, its loop ===== -/
def R_law : String := "TaleSharesLaw"
def lw_P (b : Addr) (xs : List Int32) (args : Array Value) (s : State) : Prop := args = #[.ref b] ∧ s.IntsAt b xs ∧ xs.length ≤ 3072 ∧ (Jvm.Cond.and given_1 narrow_1).before args s = true
def lw_Q (_ : Array Value) (s : State) (o : Outcome) (t : State) : Prop := o = .returned (some (.int 1)) ∧ Framed s o t [] 601024 7293034
def lw_Z (below : List Frame) (a : Array Value) (s : State) : State → Prop := fun t => ∃ o, t.status = .running ∧ Ended t below o ∧ lw_Q a s o t
/-- the law's own end, with 1 on the stack, nothing written that was there before, its room as the claim has it -/
theorem lw_ret {p : Program} {l : Launch} {e : Env} {s : State} {m : MethodId} {below : List Frame} {meth : Method} {c : Code} {b : Nat} (hx : p.tables.exec = Jvm.exec) (hb : c.code = code) (hr : meth.sig.returnType = ret) (hlocks : meth.locks = false) {pc : Nat} {H : Heap} {ls : Array Slot} (hdg : decode code pc = .ok (.ireturn, 1)) : W p l e room_1 s m #[Value.ref b] below meth c H [] 601024 7293034 (lw_Z below #[Value.ref b] s) (F0 m pc ls [.int 1]) := by
  intro T hT X
  obtain ⟨fs, hret, hrun, hended, hW, hframe⟩ := X.leave (v := some (.int 1)) (hlocks := hlocks) (fun h => by rw [hr] at h; cases h)
  have hmeth' : T.vm.method? m = some meth := X.method'
  refine ⟨T.setFrames fs, ?_, .returned (some (.int 1)), hrun, hended, rfl, ⟨_, rfl⟩, hW, hframe⟩
  jvm_step X.here [X.here.top, hx, hb, hdg, hmeth', hr, ret, narrow_b1]
  (try refine ⟨rfl, ?_⟩); (try refine ⟨rfl, ?_⟩)
  first | (intro acts; rw [hret _ acts rfl rfl rfl]) | rw [hret _ _ rfl rfl rfl]
  exact Steps.refl _
/-- what holds at the law's entry: the machine, the code, the tables' words (any of lw_tbl by 'hts w (by decide +kernel)'), the script of L ints xs at the cell b, what the Statement gives of the start (any of its parts by flat_of_before) -/
def lw_At (p : Program) (s : State) (m : MethodId) (meth : Method) (c : Code) (b L : Nat) (xs : Nat → Int32) : Prop :=
  p.tables.exec = Jvm.exec ∧ c.code = code ∧ meth.sig.returnType = ret ∧ c.maxLocals = 7 ∧ s.vm.findClass R_law = some m.cls ∧ (∀ w ∈ lw_tbl, w.before #[Value.ref b] s = true) ∧ va_X b L xs s s.heap ∧ b < s.heap.size ∧ meth.locks = false ∧ (Jvm.Cond.and given_1 narrow_1).before #[Value.ref b] s = true
theorem sw_cases (x : Int32) : (∃ k, k < 50 ∧ x = nI k) ∨ (x.toInt < 0 ∨ 49 < x.toInt) := by
  by_cases h : x.toInt < 0 ∨ 49 < x.toInt
  · exact Or.inr h
  · refine Or.inl ⟨x.toInt.toNat, by omega, ?_⟩
    have e : ((x.toInt.toNat : Nat) : Int) = x.toInt := Int.toNat_of_nonneg (by omega)
    have e2 : nI x.toInt.toNat = Int32.ofInt ((x.toInt.toNat : Nat) : Int) := rfl
    rw [e2, e, Int32.ofInt_toInt]
theorem l_more {L j : Nat} (hL : L ≤ 3072) (hj : j ≤ 600) (h : ¬ (Int32.ofNat L - 6 < nI (6 * j))) : 6 * j + 6 ≤ L := by
  have e1 : Int32.ofNat L - 6 = Int32.ofInt ((L : Int) - 6) := by rw [Int32.ofInt_sub]; rfl
  have e2 : (Int32.ofInt ((L : Int) - 6)).toInt = (L : Int) - 6 := Int32.toInt_ofInt_of_le (by omega) (by omega)
  have e3 : (nI (6 * j)).toInt = ((6 * j : Nat) : Int) := by
    show (Int32.ofInt ((6 * j : Nat) : Int)).toInt = _
    exact Int32.toInt_ofInt_of_le (by omega) (by omega)
  rw [e1, Int32.lt_iff_toInt_lt, e2, e3] at h
  omega
section LLP
variable {cells slots : Nat} {p : Program} {l : Launch} {e : Env} {s : State} {m : MethodId} {below : List Frame} {meth : Method} {c : Code} {G : k_G} {w : va_W} {b L ax dm oo n : Nat} {xs : Nat → Int32} {lv : List (Nat × Value)}
theorem law_end (hA : k_Amb p s m #[Value.ref b] meth c code 7 "TaleSharesLaw" G (fun q => s.heap.size ≤ q)) (hr : meth.sig.returnType = ret) (hcs : cells ≤ 601024 ∧ slots ≤ 7293034) : k_GoA p l e room_1 s m #[Value.ref b] below meth c (lw_Z below #[Value.ref b] s) 7 G (fun q => s.heap.size ≤ q) cells slots w 1701 lv [] := by
  refine ka_iconst hA dL_law_1701 (v := 1) rfl ?_
  exact fun H locs ls hP hD hS hl => va_forget (fun q hq => hS.2.2 q hq) (W.widen hcs.1 hcs.2 (lw_ret hA.1.1 hA.1.2.1 hr hA.2.2.2 dL_law_1702))
theorem law_loop (hfl : l.flags = flags0) (hn : big n) (hA : k_Amb p s m #[Value.ref b] meth c code 7 "TaleSharesLaw" G (fun q => s.heap.size ≤ q)) (hE : th_E (fun q => s.heap.size ≤ q) s s.heap) (hr : meth.sig.returnType = ret) (hX : va_X b L xs s s.heap) (hbl : b < s.heap.size) (hL : L ≤ 3072) : ∀ (q j : Nat) (w : va_W), j ≤ 512 → L < 6 * (j + q) + 6 → l_W G ax dm oo w → k_GoA p l e room_1 s m #[Value.ref b] below meth c (lw_Z below #[Value.ref b] s) 7 G (fun q => s.heap.size ≤ q) (100 + 11 * j) (3000 + 100 * j) w 23 (l_lv b ax dm oo j) [] := by
  have hbA : ¬ (fun q => s.heap.size ≤ q) b := by show ¬ s.heap.size ≤ b; omega
  intro q
  induction q with
  | zero =>
    intro j w hj hq hw
    refine ka_iload (i := 4) hA dL_law_23 4 rfl ?_
    refine ka_aload_n (i := 0) hA dL_law_25 rfl 0 rfl ?_
    refine ka_slen hA hX hbl hbA dL_law_26 ?_
    refine ka_bipush hA dL_law_27 (v := 6) rfl ?_
    refine ka_isub hA dL_law_29 ?_
    refine ka_icmp_gt (tgt := 1701) hA dL_law_30 rfl (fun hc => ?_) (fun hc => ?_)
    · exact law_end hA hr ⟨by omega, by omega⟩
    · exact absurd (l_more hL (by omega) hc) (by omega)
  | succ q ih =>
    intro j w hj hq hw
    refine ka_iload (i := 4) hA dL_law_23 4 rfl ?_
    refine ka_aload_n (i := 0) hA dL_law_25 rfl 0 rfl ?_
    refine ka_slen hA hX hbl hbA dL_law_26 ?_
    refine ka_bipush hA dL_law_27 (v := 6) rfl ?_
    refine ka_isub hA dL_law_29 ?_
    refine ka_icmp_gt (tgt := 1701) hA dL_law_30 rfl (fun hc => ?_) (fun hc => ?_)
    · exact law_end hA hr ⟨by omega, by omega⟩
    have hj6 := l_more hL (by omega) hc
    have h : l_C p s m #[Value.ref b] meth c G (fun q => s.heap.size ≤ q) b L xs j := ⟨hA, hX, hbl, hbA, hj6, hL⟩
    have fin : ∀ w2, l_W G ax dm oo w2 → k_GoA p l e room_1 s m #[Value.ref b] below meth c (lw_Z below #[Value.ref b] s) 7 G (fun q => s.heap.size ≤ q) (100 + 11 * j + 11) (3000 + 100 * j + 100) w2 1695 (l_lv b ax dm oo j) [] := by
      intro w2 h2
      refine ka_iinc (j := 4) (v := nI (6 * (j + 1))) (lv' := [(4, .int (nI (6 * (j + 1)))), (0, .ref b), (1, .ref ax), (2, .ref dm), (3, .ref oo)]) hA dL_law_1695 rfl (by rw [show Int32.ofInt 6 = nI 6 from rfl, nI_add]; rfl) (Nat.le_of_ble_eq_true rfl) rfl ?_
      refine ka_goto (tgt := 23) hA dL_law_1698 rfl ?_
      refine ka_pick (lv' := l_lv b ax dm oo (j + 1)) [1, 2, 3, 4, 0] rfl ?_
      exact ih (j + 1) w2 (by omega) (by omega) h2
    have fin0 : ∀ w2, l_W G ax dm oo w2 → k_GoA p l e room_1 s m #[Value.ref b] below meth c (lw_Z below #[Value.ref b] s) 7 G (fun q => s.heap.size ≤ q) (100 + 11 * j) (3000 + 100 * j) w2 1695 (l_lv b ax dm oo j) [] := fun w2 h2 => ka_widen (by omega) (by omega) (fin w2 h2)
    have hcs : 100 + 11 * j ≤ 601024 ∧ 3000 + 100 * j ≤ 7293034 := ⟨by omega, by omega⟩
    refine ka_aload_n (i := 0) hA dL_law_33 rfl 0 rfl ?_
    refine ka_iload (i := 4) hA dL_law_34 4 rfl ?_
    refine ka_sld hA hX hbl hbA (vp_in_nI (by omega) (by omega)) dL_law_36 ?_
    refine ka_bipush hA dL_law_37 (v := 63) rfl ?_
    refine ka_iand hA dL_law_39 ?_
    generalize xs (nI (6 * j)).toNatClampNeg &&& 63 = z
    rcases sw_cases z with ⟨k, hk, rfl⟩ | hz
    · have hk' : k = 0 ∨ k = 1 ∨ k = 2 ∨ k = 3 ∨ k = 4 ∨ k = 5 ∨ k = 6 ∨ k = 7 ∨ k = 8 ∨ k = 9 ∨ k = 10 ∨ k = 11 ∨ k = 12 ∨ k = 13 ∨ k = 14 ∨ k = 15 ∨ k = 16 ∨ k = 17 ∨ k = 18 ∨ k = 19 ∨ k = 20 ∨ k = 21 ∨ k = 22 ∨ k = 23 ∨ k = 24 ∨ k = 25 ∨ k = 26 ∨ k = 27 ∨ k = 28 ∨ k = 29 ∨ k = 30 ∨ k = 31 ∨ k = 32 ∨ k = 33 ∨ k = 34 ∨ k = 35 ∨ k = 36 ∨ k = 37 ∨ k = 38 ∨ k = 39 ∨ k = 40 ∨ k = 41 ∨ k = 42 ∨ k = 43 ∨ k = 44 ∨ k = 45 ∨ k = 46 ∨ k = 47 ∨ k = 48 ∨ k = 49 := by omega
      rcases hk' with rfl | rfl | rfl | rfl | rfl | rfl | rfl | rfl | rfl | rfl | rfl | rfl | rfl | rfl | rfl | rfl | rfl | rfl | rfl | rfl | rfl | rfl | rfl | rfl | rfl | rfl | rfl | rfl | rfl | rfl | rfl | rfl | rfl | rfl | rfl | rfl | rfl | rfl | rfl | rfl | rfl | rfl | rfl | rfl | rfl | rfl | rfl | rfl | rfl | rfl
      · refine ka_tin (tgt := 256) hA dL_law_40 (by decide) (by decide) rfl rfl ?_
        exact lc_feed h hn hcs hw fin0
      · refine ka_tin (tgt := 329) hA dL_law_40 (by decide) (by decide) rfl rfl ?_
        exact lc_terrace h hn ⟨by omega, by omega⟩ hw fin
      · refine ka_tin (tgt := 354) hA dL_law_40 (by decide) (by decide) rfl rfl ?_
        exact lc_fault h hn hcs hw fin0
      · refine ka_tin (tgt := 367) hA dL_law_40 (by decide) (by decide) rfl rfl ?_
        exact lc_where h hn hcs hw fin0
      · refine ka_tin (tgt := 380) hA dL_law_40 (by decide) (by decide) rfl rfl ?_
        exact lc_piece h hn hcs hw fin0
      · refine ka_tin (tgt := 417) hA dL_law_40 (by decide) (by decide) rfl rfl ?_
        exact lc_house h hn hcs hw fin0
      · refine ka_tin (tgt := 454) hA dL_law_40 (by decide) (by decide) rfl rfl ?_
        exact lc_known h hn hcs hw fin0
      · refine ka_tin (tgt := 467) hA dL_law_40 (by decide) (by decide) rfl rfl ?_
        exact lc_alone h hn hcs hw fin0
      · refine ka_tin (tgt := 492) hA dL_law_40 (by decide) (by decide) rfl rfl ?_
        exact lc_tales h hn hcs hw fin0
      · refine ka_tin (tgt := 517) hA dL_law_40 (by decide) (by decide) rfl rfl ?_
        exact lc_longest h hn hcs hw fin0
      · refine ka_tin (tgt := 542) hA dL_law_40 (by decide) (by decide) rfl rfl ?_
        exact lc_longestAt h hn hcs hw fin0
      · refine ka_tin (tgt := 579) hA dL_law_40 (by decide) (by decide) rfl rfl ?_
        exact lc_taleAt h hn hcs hw fin0
      · refine ka_tin (tgt := 628) hA dL_law_40 (by decide) (by decide) rfl rfl ?_
        exact lc_used h hn hcs hw fin0
      · refine ka_tin (tgt := 653) hA dL_law_40 (by decide) (by decide) rfl rfl ?_
        exact lc_needed h hn hcs hw fin0
      · refine ka_tin (tgt := 678) hA dL_law_40 (by decide) (by decide) rfl rfl ?_
        exact lc_leftOver h hn hcs hw fin0
      · refine ka_tin (tgt := 703) hA dL_law_40 (by decide) (by decide) rfl rfl ?_
        exact lc_isTale h hn hcs hw fin0
      · refine ka_tin (tgt := 728) hA dL_law_40 (by decide) (by decide) rfl rfl ?_
        exact lc_talesOf h hn hcs hw fin0
      · refine ka_tin (tgt := 753) hA dL_law_40 (by decide) (by decide) rfl rfl ?_
        exact lc_wanted h hn hcs hw fin0
      · refine ka_tin (tgt := 778) hA dL_law_40 (by decide) (by decide) rfl rfl ?_
        exact lc_ask h hn hcs hw fin0
      · refine ka_tin (tgt := 803) hA dL_law_40 (by decide) (by decide) rfl rfl ?_
        exact lc_askAll h hn hcs hw fin0
      · refine ka_tin (tgt := 828) hA dL_law_40 (by decide) (by decide) rfl rfl ?_
        exact lc_sense h hn hcs hw fin0
      · refine ka_tin (tgt := 841) hA dL_law_40 (by decide) (by decide) rfl rfl ?_
        exact lc_wisest h hn hcs hw fin0
      · refine ka_tin (tgt := 854) hA dL_law_40 (by decide) (by decide) rfl rfl ?_
        exact lc_soonest h hn hcs hw fin0
      · refine ka_tin (tgt := 867) hA dL_law_40 (by decide) (by decide) rfl rfl ?_
        exact lc_meets h hn hcs hw fin0
      · refine ka_tin (tgt := 904) hA dL_law_40 (by decide) (by decide) rfl rfl ?_
        exact lc_mostBehind h hn hcs hw fin0
      · refine ka_tin (tgt := 929) hA dL_law_40 (by decide) (by decide) rfl rfl ?_
        exact lc_walks h hn hcs hw fin0
      · refine ka_tin (tgt := 942) hA dL_law_40 (by decide) (by decide) rfl rfl ?_
        exact lc_visit h hn hcs hw fin0
      · refine ka_tin (tgt := 967) hA dL_law_40 (by decide) (by decide) rfl rfl ?_
        exact lc_hourOf h hn hcs hw fin0
      · refine ka_tin (tgt := 992) hA dL_law_40 (by decide) (by decide) rfl rfl ?_
        exact lc_orders h hn hcs hw fin0
      · refine ka_tin (tgt := 1005) hA dL_law_40 (by decide) (by decide) rfl rfl ?_
        exact lc_slips h hn hcs hw fin0
      · refine ka_tin (tgt := 1018) hA dL_law_40 (by decide) (by decide) rfl rfl ?_
        exact lc_meant h hn hcs hw fin0
      · refine ka_tin (tgt := 1043) hA dL_law_40 (by decide) (by decide) rfl rfl ?_
        exact lc_meanings h hn hcs hw fin0
      · refine ka_tin (tgt := 1056) hA dL_law_40 (by decide) (by decide) rfl rfl ?_
        exact lc_father h hn hcs hw fin0
      · refine ka_tin (tgt := 1133) hA dL_law_40 (by decide) (by decide) rfl rfl ?_
        exact lc_rests h hn hcs hw fin0
      · refine ka_tin (tgt := 1158) hA dL_law_40 (by decide) (by decide) rfl rfl ?_
        exact lc_rest h hn hcs hw fin0
      · refine ka_tin (tgt := 1183) hA dL_law_40 (by decide) (by decide) rfl rfl ?_
        exact lc_tells h hn hcs hw fin0
      · refine ka_tin (tgt := 1249) hA dL_law_40 (by decide) (by decide) rfl rfl ?_
        exact lc_mean h hn hcs hw fin0
      · refine ka_tin (tgt := 1303) hA dL_law_40 (by decide) (by decide) rfl rfl ?_
        exact lc_evenings h hn hcs hw fin0
      · refine ka_tin (tgt := 1352) hA dL_law_40 (by decide) (by decide) rfl rfl ?_
        exact lc_allSense h hn hcs hw fin0
      · refine ka_tin (tgt := 1389) hA dL_law_40 (by decide) (by decide) rfl rfl ?_
        exact lc_tell h hn hcs hw fin0
      · refine ka_tin (tgt := 1426) hA dL_law_40 (by decide) (by decide) rfl rfl ?_
        exact lc_learn h hn hcs hw fin0
      · refine ka_tin (tgt := 1463) hA dL_law_40 (by decide) (by decide) rfl rfl ?_
        exact lc_forget h hn hcs hw fin0
      · refine ka_tin (tgt := 1500) hA dL_law_40 (by decide) (by decide) rfl rfl ?_
        exact lc_evening h hn hcs hw fin0
      · refine ka_tin (tgt := 1525) hA dL_law_40 (by decide) (by decide) rfl rfl ?_
        exact lc_seed h hn hcs hw fin0
      · refine ka_tin (tgt := 1550) hA dL_law_40 (by decide) (by decide) rfl rfl ?_
        exact lc_undo h hn hcs hw fin0
      · refine ka_tin (tgt := 1563) hA dL_law_40 (by decide) (by decide) rfl rfl ?_
        exact lc_image h hn hcs hw fin0
      · refine ka_tin (tgt := 1576) hA dL_law_40 (by decide) (by decide) rfl rfl ?_
        exact lc_back h hn hcs hw fin0
      · refine ka_tin (tgt := 1601) hA dL_law_40 (by decide) (by decide) rfl rfl ?_
        exact lc_led h hfl hE hn ⟨by omega, by omega⟩ hw (fun w2 h2 => ka_widen (by omega) (by omega) (fin w2 h2))
      · refine ka_tin (tgt := 1657) hA dL_law_40 (by decide) (by decide) rfl rfl ?_
        exact lc_size h hn hcs hw fin0
      · refine ka_tin (tgt := 1682) hA dL_law_40 (by decide) (by decide) rfl rfl ?_
        exact lc_trouble h hn hcs hw fin0
    · exact ka_tout (tgt := 1695) hA dL_law_40 hz rfl (fin0 w hw)
end LLP
