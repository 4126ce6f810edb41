/-! ===== the whole ===== -/
theorem wd_143 : Cond.classLink "TaleSharesLaw" 8 "TaleShares" ∈ k_TB := k_tb 143 (by decide +kernel) rfl
theorem wd_1242 : Cond.classLink "TaleSharesLaw" 16 "TaleSharesModel" ∈ k_TB := k_tb 1242 (by decide +kernel) rfl
theorem wd_144 : Cond.instantiable "TaleShares" 10 ∈ k_TB := k_tb 144 (by decide +kernel) rfl
theorem wd_1243 : Cond.instantiable "TaleSharesModel" 43 ∈ k_TB := k_tb 1243 (by decide +kernel) rfl
theorem wd_119 : Cond.initialized "TaleShares" ∈ k_TB := k_tb 119 (by decide +kernel) rfl
theorem wd_128 : Cond.initialized "TaleSharesModel" ∈ k_TB := k_tb 128 (by decide +kernel) rfl
theorem wd_145 : Cond.methodLink "TaleSharesLaw" 15 yX10_init ∈ k_TB := k_tb 145 (by decide +kernel) rfl
theorem wd_1244 : Cond.methodLink "TaleSharesLaw" 18 yX12_init ∈ k_TB := k_tb 1244 (by decide +kernel) rfl
section WST
variable {cells slots : Nat} {p : Program} {l : Launch} {e : Env} {R : Room} {s : State} {m : MethodId} {args : Array Value} {below : List Frame} {meth : Method} {c : Code} {Q : State → Prop} {nL : Nat} {G : k_G} {A : Nat → Prop} {pc : Nat} {lv : List (Nat × Value)} {st : List Value}
theorem ka_swap {w1 w2 w3 : va_W} (k : k_GoA p l e R s m args below meth c Q nL G A cells slots (w2 ++ (w1 ++ w3)) pc lv st) : k_GoA p l e R s m args below meth c Q nL G A cells slots (w1 ++ (w2 ++ w3)) pc lv st := fun H locs ls hP hD hS hl => k H locs ls (va_P.app hP.r.l (va_P.app hP.l hP.r.r)) (va_D.app hD.r.l (va_D.app hD.l hD.r.r (fun i j x y hx hy => hD.x i (w2.length + j) x y hx (by rw [List.getElem?_append_right (by omega), Nat.add_sub_cancel_left]; exact hy))) (fun i j x y hx hy => by
  rcases app_get hy with ⟨k2, h2⟩ | ⟨k2, h2⟩
  · exact fun e => hD.x k2 i y x h2 (by rw [List.getElem?_append_left (List.getElem?_eq_some_iff.mp hx).1]; exact hx) e.symm
  · exact hD.r.x i k2 x y hx h2)) hS hl
end WST
theorem ci_X10_init : k_cardI yX10_init cX10_init 1 0 := ⟨k_tb 147 (by decide +kernel) rfl, k_tb 146 (by decide +kernel) rfl, k_tb 119 (by decide +kernel) rfl, by decide +kernel, by decide +kernel, by decide +kernel, rfl⟩
theorem ci_X12_init : k_cardI yX12_init cX12_init 1 0 := ⟨k_tb 1246 (by decide +kernel) rfl, k_tb 1245 (by decide +kernel) rfl, k_tb 128 (by decide +kernel) rfl, by decide +kernel, by decide +kernel, by decide +kernel, rfl⟩
set_option maxHeartbeats 1000000 in
theorem whole_start {p : Program} {e : Env} {s : State} {m : MethodId} {below : List Frame} {meth : Method} {c : Code} (l : Launch) (hfl : l.flags = flags0) {b L : Nat} {xs : Nat → Int32} (hL : L ≤ 3072) (C0 : lw_At p s m meth c b L xs) : W p l e room_1 s m #[Value.ref b] below meth c s.heap [] 0 0 (lw_Z below #[Value.ref b] s) (entryFrame m ([Value.ref b] : List Value).toArray 7) := by
  obtain ⟨hx, hb, hr, hml, hown, hts, hX, hbl, hlk, hg⟩ := C0
  obtain ⟨G, hEnv, hTE⟩ := e_env hts hg
  have hA : k_Amb p s m #[Value.ref b] meth c code 7 "TaleSharesLaw" G (fun q => s.heap.size ≤ q) := ⟨⟨hx, hb, hml, hown, fun w hw => hts w (List.mem_filter.mp hw).1⟩, hEnv, fun q h => h, hlk⟩
  have key : k_GoA p l e room_1 s m #[Value.ref b] below meth c (lw_Z below #[Value.ref b] s) 7 G (fun q => s.heap.size ≤ q) 0 0 [] 0 [(0, .ref b)] [] := by
    refine ka_new (ci := 8) (fs := [.null, .null, .null, .null, .null, .null, .null, .null, .int 0, .int 0]) hA k_in_X10 tyX10 tyX10_ok wd_143 wd_144 wd_119 rfl (fun j hj => by rcases (show j = 0 ∨ j = 1 ∨ j = 2 ∨ j = 3 ∨ j = 4 ∨ j = 5 ∨ j = 6 ∨ j = 7 ∨ j = 8 ∨ j = 9 by omega) with rfl | rfl | rfl | rfl | rfl | rfl | rfl | rfl | rfl | rfl <;> rfl) (Nat.le_of_ble_eq_true rfl) (Nat.le_of_ble_eq_true rfl) dL_law_0 (fun q1 => ?_)
    rw [List.nil_append]
    refine ka_dup hA dL_law_3 rfl ?_
    refine ka_callI (R := room_1) (cells := 1) (slots := 10) (w1 := []) (wc := [(q1, .inr (8, [.null, .null, .null, .null, .null, .null, .null, .null, .int 0, .int 0]))]) (w2 := []) (As := []) (rest := [.ref q1]) hA (i_X10_init l G q1) ci_X10_init wd_145 ⟨(Nat.le_of_ble_eq_true rfl), (Nat.le_of_ble_eq_true rfl)⟩ ⟨(Nat.le_of_ble_eq_true rfl), (Nat.le_of_ble_eq_true rfl)⟩ rfl rfl (Nat.le_of_ble_eq_true rfl) dL_law_4 (fun u hu => ?_)
    obtain ⟨l1, hl1, rfl⟩ := hu
    rw [List.nil_append, List.append_nil]
    refine ka_astore_n (i := 1) (lv' := [(1, .ref q1), (0, .ref b)]) hA dL_law_7 rfl (Nat.le_of_ble_eq_true rfl) rfl ?_
    refine ka_new (ci := 10) (fs := [.int 0, .int 0, .int 0, .null, .null, .null, .int 0, .int 0, .int 0, .int 0, .int 0, .int 0, .int 0, .int 0, .long 0, .null, .null, .null, .null, .int 0, .int 0, .null, .int 0, .int 0, .int 0, .int 0, .null, .null, .null, .null, .null, .int 0, .int 0, .null, .null, .null, .null, .int 0, .null, .null, .int 0, .int 0, .int 0]) hA k_in_X12 tyX12 tyX12_ok wd_1242 wd_1243 wd_128 rfl (fun j hj => by rcases (show j = 0 ∨ j = 1 ∨ j = 2 ∨ j = 3 ∨ j = 4 ∨ j = 5 ∨ j = 6 ∨ j = 7 ∨ j = 8 ∨ j = 9 ∨ j = 10 ∨ j = 11 ∨ j = 12 ∨ j = 13 ∨ j = 14 ∨ j = 15 ∨ j = 16 ∨ j = 17 ∨ j = 18 ∨ j = 19 ∨ j = 20 ∨ j = 21 ∨ j = 22 ∨ j = 23 ∨ j = 24 ∨ j = 25 ∨ j = 26 ∨ j = 27 ∨ j = 28 ∨ j = 29 ∨ j = 30 ∨ j = 31 ∨ j = 32 ∨ j = 33 ∨ j = 34 ∨ j = 35 ∨ j = 36 ∨ j = 37 ∨ j = 38 ∨ j = 39 ∨ j = 40 ∨ j = 41 ∨ j = 42 by omega) with rfl | rfl | rfl | rfl | rfl | rfl | rfl | rfl | rfl | rfl | rfl | rfl | rfl | rfl | rfl | rfl | rfl | rfl | rfl | rfl | rfl | rfl | rfl | rfl | rfl | rfl | rfl | rfl | rfl | rfl | rfl | rfl | rfl | rfl | rfl | rfl | rfl | rfl | rfl | rfl | rfl | rfl | rfl <;> rfl) (Nat.le_of_ble_eq_true rfl) (Nat.le_of_ble_eq_true rfl) dL_law_8 (fun q2 => ?_)
    refine ka_dup hA dL_law_11 rfl ?_
    rw [← List.append_nil [(q2, _)]]
    refine ka_callI (R := room_1) (cells := 38) (slots := 1516) (w1 := k_WX G.2.1 (lsa l1) (.ref (lsa l1 10)) tz) (wc := [(q2, .inr (10, [.int 0, .int 0, .int 0, .null, .null, .null, .int 0, .int 0, .int 0, .int 0, .int 0, .int 0, .int 0, .int 0, .long 0, .null, .null, .null, .null, .int 0, .int 0, .null, .int 0, .int 0, .int 0, .int 0, .null, .null, .null, .null, .null, .int 0, .int 0, .null, .null, .null, .null, .int 0, .null, .null, .int 0, .int 0, .int 0]))]) (w2 := []) (As := []) (rest := [.ref q2]) hA (i_X12_init l G q2) ci_X12_init wd_1244 ⟨(Nat.le_of_ble_eq_true rfl), (Nat.le_of_ble_eq_true rfl)⟩ ⟨(Nat.le_of_ble_eq_true rfl), (Nat.le_of_ble_eq_true rfl)⟩ rfl rfl (Nat.le_of_ble_eq_true rfl) dL_law_12 (fun u hu => ?_)
    obtain ⟨l2, hl2, rfl⟩ := hu
    rw [List.append_nil]
    refine ka_astore_n (i := 2) (lv' := [(2, .ref q2), (1, .ref q1), (0, .ref b)]) hA dL_law_15 rfl (Nat.le_of_ble_eq_true rfl) rfl ?_
    refine ka_iconst hA dL_law_16 (v := 1) rfl ?_
    refine ka_newJ (N := 1) hA wd_298 (by decide) (by decide) (Nat.le_of_ble_eq_true rfl) (Nat.le_of_ble_eq_true rfl) (Nat.le_of_ble_eq_true rfl) dL_law_17 (fun q3 => ?_)
    refine ka_astore_n (i := 3) (lv' := [(3, .ref q3), (2, .ref q2), (1, .ref q1), (0, .ref b)]) hA dL_law_19 rfl (Nat.le_of_ble_eq_true rfl) rfl ?_
    refine ka_iconst hA dL_law_20 (v := 0) rfl ?_
    refine ka_istore (i := 4) (lv' := [(4, .int (0 : Int32)), (3, .ref q3), (2, .ref q2), (1, .ref q1), (0, .ref b)]) hA dL_law_21 rfl (Nat.le_of_ble_eq_true rfl) rfl ?_
    refine ka_pick (lv' := l_lv b q1 q2 q3 0) [4, 3, 2, 1, 0] rfl ?_
    rw [List.append_assoc]
    refine ka_swap ?_
    refine ka_widen (k := 100) (n := 3000) (Nat.le_of_ble_eq_true rfl) (Nat.le_of_ble_eq_true rfl) ?_
    exact law_loop (n := 2000000000) hfl (Nat.le_refl _) hA hTE hr hX hbl hL 512 0 _ (by omega) (by omega) ⟨lsa l1, lsa l2, .null, fun _ => 0, tz, tzM, hl1, hl2, Or.inl ⟨z_R0, rfl⟩⟩
  have hl := lv_entry [Value.ref b] (n := 7) (Nat.le_of_ble_eq_true rfl)
  rw [lg_entry_eq]
  exact key s.heap [] _ (fun k q h => by simp at h) ⟨fun i j p q h => (by simp at h), fun k q h => (by simp at h)⟩ va_S.rf hl
set_option maxHeartbeats 4000000 in
theorem lw_walk (l : Launch) (hfl : l.flags = flags0) (b : Addr) (xs : List Int32) : MetFree l x (headSpec (Jvm.Cond.code x code maxLocals ret :: tables_1) room_1) (lw_P b xs) (fun _ _ _ _ _ => True) lw_Q := by
  refine MetFree.of_bodyS (code := code) (maxLocals := maxLocals) (ret := ret) (by decide) ?_ ?_
  · intro args s m h hn
    obtain ⟨meth, c, h1, h2, h3, h4, h5, h6, -, -⟩ := Cond.code_spec hn (atoms_spec (ws := Jvm.Cond.code x code maxLocals ret :: tables_1) h _ List.mem_cons_self)
    exact ⟨meth, c, h1, h2, h3, h4, h5, h6⟩
  · intro p e s m args below meth c s₁ B hml0 hP _
    obtain ⟨rfl, hx, hbd, hgv⟩ := hP
    obtain ⟨scr, harrAt, hlist, hof, hsmall⟩ := hx
    obtain ⟨hcb, hkn, -, -⟩ := State.arrayAt?_spec harrAt
    have hown : s.vm.findClass R_law = some m.cls := findClass_of_methodNamed B.named
    have hts0 : ∀ c ∈ (Jvm.Cond.code x code maxLocals ret :: tables_1), c.before #[Value.ref b] s = true := atoms_spec (ws := Jvm.Cond.code x code maxLocals ret :: tables_1) B.pre
    have hts : ∀ w ∈ lw_tbl, w.before #[Value.ref b] s = true := k2_hts_sels lw_privs (fun w hw => hts0 w (List.mem_cons_of_mem _ hw)) lw_privs_ok
    have hml : c.maxLocals = 7 := B.maxLocals_eq (hts0 _ List.mem_cons_self)
    have X₀ : Stand p l e room_1 s m #[Value.ref b] below meth c s₁ [] 0 0 := Stand.of_body B
    have hh0 : s₁.heap = s.heap := by rw [B.state]; rfl
    have hsz : scr.slots.size = xs.length := by rw [← Array.length_toList, hlist, List.length_map]
    have hval : ∀ j : Nat, j < xs.length → scr.slots[j]? = some (.int (xs.getD j 0)) := fun j hj => by
      rw [← Array.getElem?_toList, hlist]
      simp [hj]
    have hbl : b < s.heap.size := (Array.getElem?_eq_some_iff.mp hcb).1
    have hX : va_X b xs.length (fun j => xs.getD j 0) s s.heap := ⟨scr, hcb, hof, hkn, hsz, hval⟩
    have K : W p l e room_1 s m #[Value.ref b] below meth c s₁.heap [] 0 0 (lw_Z below #[Value.ref b] s) (entryFrame m ([Value.ref b] : List Value).toArray 7) := by
      rw [hh0]
      exact whole_start l hfl hbd ⟨B.exec, B.bytes, B.returns, hml, hown, hts, hX, hbl, B.notSynchronized, hgv⟩
    obtain ⟨t, a1, o, b1, b2, b3⟩ := K s₁ rfl X₀
    exact ⟨t, o, a1, b1, b2, b3⟩
theorem lw_pre_spec {args : Array Value} {s : State} (h : (Jvm.Cond.and given_1 narrow_1).before args s = true) (hr : rest_1_c.before args s = true) : ∃ (b : Addr) (xs : List Int32), lw_P b xs args s := by
  have hs := flat_of_before _ h
  have hq := flat_of_before _ hr
  have hc : (Cond.count 1).before args s = true := hs _ (by decide +kernel)
  have harr : (Cond.arrayOf (.arg 0) .int).before args s = true := hs _ (by decide +kernel)
  have hle : (Cond.le (.length (.arg 0)) (.int 3072)).before args s = true := hs _ (by decide +kernel)
  have hlen : (Cond.isInt (.length (.arg 0))).before args s = true := hq _ (by decide +kernel)
  have hall : (Cond.all (.arg 0) (.isInt (.elem (.arg 0) (.index 0)))).before args s = true := hq _ (by decide +kernel)
  obtain ⟨b, xs, hb, hx⟩ := State.ints_of_pre rfl harr hlen hall
  have hsm : xs.length < 2 ^ 31 := hx.choose_spec.2.2.2
  have hev : (Term.length (.arg 0)).eval args s none [] s = some (.int xs.length.toInt32) := hx.length_eval hb
  have hv := Cond.le_ints hev (show (Term.int 3072).eval args s none [] s = some (.int 3072) from rfl)
  have hd : xs.length.toInt32 ≤ 3072 := by
    simpa [Cond.before, Cond.holds, hv] using hle
  have hN : xs.length ≤ 3072 := (Int32.ofNat_le_ofNat hsm (by decide)).mp (show Int32.ofNat xs.length ≤ Int32.ofNat 3072 from hd)
  exact ⟨b, xs, Cond.one_arg hc (show args[0]? = some (.ref b) from hb), hx, hN, h⟩
theorem lw_comes (l : Launch) (hfl : l.flags = flags0) : Comes l x (Jvm.Cond.code x code maxLocals ret :: tables_1) room_1 (fun tb e args s => Calls_1 tb e args s ∧ rest_1 tb e args s ∧ Pre_1 tb e args s)
    (fun _ _ args s o t => lw_Q args s o t) := by
  intro p e ha hc hk s m args below hf hfit hheap happ hpre
  obtain ⟨b, xs, hP⟩ := lw_pre_spec hpre.2.2 hpre.2.1
  obtain ⟨k, o, h1, h2, h3, hQ⟩ := lw_walk l hfl b xs p e ha hc hk s m args below hf ((Spec.applies_iff_loose hf).mp happ).1 hP trivial
  exact ⟨k, o, h1, h2, h3, hQ⟩
theorem lw_frame {s t : State} {o : Outcome} {args : Array Value} (h : Framed s o t [] 601024 7293034) :
    Framed s o t (fieldLocs frame_1_writes args s ++ arrayLocs frame_1_arrays args s ++ staticLocs frame_1_statics s) 601024 7293034 := h
theorem lw_limb (L : Cond) (hL : ∀ (args : Array Value) (s t : State), L.after args s (.returned (some (.int 1))) t = true) :
    ArmFor flags0 classFile x code maxLocals ret World_1 tables_1 room_1 Calls_1 rest_1 Pre_1
      (fun tb e a s o t => postC L tb e a s o t ∧ Framed s o t (fieldLocs frame_1_writes a s ++ arrayLocs frame_1_arrays a s ++ staticLocs frame_1_statics s) 601024 7293034) := by
  intro l hfl _ _ p e ha hc hk s m args below hf hfit hheap happ hpre
  obtain ⟨k, o, h1, h2, h3, rfl, hF⟩ := lw_comes l hfl p e ha hc hk s m args below hf hfit hheap happ hpre
  exact ⟨k, _, h1, h2, h3, hL args s _, lw_frame hF⟩
theorem i_vc : Claimed_1_1 ∧ Claimed_1_2 := ⟨lw_limb limb_1_1 (fun args s t => by simp [limb_1_1, Cond.after, Cond.holds, Cond.value]), lw_limb limb_1_2 (fun args s t => Cond.after_iff.mpr (by
  first | (rw [show limb_1_2 = Cond.eq .result (.int 1) from rfl, Cond.eq_ints (x := 1) (y := 1) rfl rfl]; simp; done) | (simp [limb_1_2, Cond.value, Term.eval]; done)))⟩
