/-! ===== TaleShares.led ===== -/
theorem dX10_led_0 : decode cX10_led 0 = .ok (.iconst 0, 1) := by decide +kernel
theorem dX10_led_1 : decode cX10_led 1 = .ok (.istore_n 2, 1) := by decide +kernel
theorem dX10_led_2 : decode cX10_led 2 = .ok (.iconst 0, 1) := by decide +kernel
theorem dX10_led_3 : decode cX10_led 3 = .ok (.istore_n 3, 1) := by decide +kernel
theorem dX10_led_4 : decode cX10_led 4 = .ok (.iload_n 3, 1) := by decide +kernel
theorem dX10_led_5 : decode cX10_led 5 = .ok (.aload_n 0, 1) := by decide +kernel
theorem dX10_led_6 : decode cX10_led 6 = .ok (.getfield 10, 3) := by decide +kernel
theorem dX10_led_9 : decode cX10_led 9 = .ok (.getfield 203, 3) := by decide +kernel
theorem dX10_led_12 : decode cX10_led 12 = .ok (.if_icmp .ge 27, 3) := by decide +kernel
theorem dX10_led_15 : decode cX10_led 15 = .ok (.aload_n 0, 1) := by decide +kernel
theorem dX10_led_16 : decode cX10_led 16 = .ok (.iload_n 3, 1) := by decide +kernel
theorem dX10_led_17 : decode cX10_led 17 = .ok (.invokevirtual 155, 3) := by decide +kernel
theorem dX10_led_20 : decode cX10_led 20 = .ok (.ifCond .ne 13, 3) := by decide +kernel
theorem dX10_led_23 : decode cX10_led 23 = .ok (.iload_n 2, 1) := by decide +kernel
theorem dX10_led_24 : decode cX10_led 24 = .ok (.iload_n 1, 1) := by decide +kernel
theorem dX10_led_25 : decode cX10_led 25 = .ok (.if_icmp .ne 5, 3) := by decide +kernel
theorem dX10_led_28 : decode cX10_led 28 = .ok (.iload_n 3, 1) := by decide +kernel
theorem dX10_led_29 : decode cX10_led 29 = .ok (.ireturn, 1) := by decide +kernel
theorem dX10_led_30 : decode cX10_led 30 = .ok (.iinc 2 1, 3) := by decide +kernel
theorem dX10_led_33 : decode cX10_led 33 = .ok (.iinc 3 1, 3) := by decide +kernel
theorem dX10_led_36 : decode cX10_led 36 = .ok (.goto (-32), 3) := by decide +kernel
theorem dX10_led_39 : decode cX10_led 39 = .ok (.new 349, 3) := by decide +kernel
theorem dX10_led_42 : decode cX10_led 42 = .ok (.dup, 1) := by decide +kernel
theorem dX10_led_43 : decode cX10_led 43 = .ok (.invokespecial 351, 3) := by decide +kernel
theorem dX10_led_46 : decode cX10_led 46 = .ok (.athrow, 1) := by decide +kernel
theorem cd_X10_led : k_cardV yX10_led cX10_led 4 (some .int) 1 := ⟨k_tb 1180 (by decide +kernel) rfl, k_tb 1178 (by decide +kernel) rfl, k_tb 1179 (by decide +kernel) rfl, k_tb 119 (by decide +kernel) rfl, by decide +kernel, by decide +kernel, by decide +kernel, Nat.le_of_ble_eq_true rfl⟩
theorem gta_X_0_7 {cells slots : Nat} {p : Program} {l : Launch} {e : Env} {R : Room} {s : State} {m : MethodId} {args : Array Value} {below : List Frame} {meth : Method} {c : Code} {Q : State → Prop} {cc : ByteArray} {nL : Nat} {own : String} {G : k_G} {A : Nat → Prop} {pc : Nat} {lv : List (Nat × Value)} {rest : List Value} {a : Nat → Nat} {index : Nat} {tl : Value} {t : k_St} (hA : k_Amb p s m args meth c cc nL own G A) (hlink : Cond.fieldLink own index "TaleShares" "terrace" "LTaleShares$Terrace;" ∈ k_TB) (hd : decode cc pc = .ok (.getfield index, 3)) (kk : k_GoA p l e R s m args below meth c Q nL G A cells slots (k_WX G.2.1 a tl t) (pc + 3) lv (.ref (a 2) :: rest)) : k_GoA p l e R s m args below meth c Q nL G A cells slots (k_WX G.2.1 a tl t) pc lv (.ref (a 0) :: rest) := ka_get (ref := "") hA k_in_X10 (hc_X_0 G.2.1 a tl t) rfl 7 (by decide) hlink (v := .ref (a 2)) rfl hd kk
theorem gta_X_2_4 {cells slots : Nat} {p : Program} {l : Launch} {e : Env} {R : Room} {s : State} {m : MethodId} {args : Array Value} {below : List Frame} {meth : Method} {c : Code} {Q : State → Prop} {cc : ByteArray} {nL : Nat} {own : String} {G : k_G} {A : Nat → Prop} {pc : Nat} {lv : List (Nat × Value)} {rest : List Value} {a : Nat → Nat} {index : Nat} {tl : Value} {t : k_St} (hA : k_Amb p s m args meth c cc nL own G A) (hlink : Cond.fieldLink own index "TaleShares$Terrace" "houses" "I" ∈ k_TB) (hd : decode cc pc = .ok (.getfield index, 3)) (kk : k_GoA p l e R s m args below meth c Q nL G A cells slots (k_WX G.2.1 a tl t) (pc + 3) lv (.int (t.1 2 4) :: rest)) : k_GoA p l e R s m args below meth c Q nL G A cells slots (k_WX G.2.1 a tl t) pc lv (.ref (a 2) :: rest) := ka_get (ref := "") hA k_in_X8 (hc_X_2 G.2.1 a tl t) rfl 4 (by decide) hlink (v := .int (t.1 2 4)) rfl hd kk
theorem X_led_4 {p : Program} {l : Launch} {e : Env} {R : Room} {s : State} {m : MethodId} {args : Array Value} {below : List Frame} {meth : Method} {c : Code} {Q : State → Prop} {G : k_G} {A : Nat → Prop} {a : Nat → Nat} {tl : Value} {n : Nat} {t : k_St} {c0 : Nat} {p0 : Nat → Bool} (hL : LH n t c0 p0) {x1 : Int32} (hA : k_Amb p s m args meth c cX10_led 4 "TaleShares" G A) (hR : k_fit 2 (k_rm 4) R)
    (kr : ∀ k, ld p0 x1 c0 0 0 = some k → k_GoA p l e R s m args below meth c Q 4 G A 0 0 (k_WX G.2.1 a tl t) 29 [(0, .ref (a 0))] [.int (nI k)])
    (kt : ld p0 x1 c0 0 0 = none → k_GoA p l e R s m args below meth c Q 4 G A 0 0 (k_WX G.2.1 a tl t) 39 [(0, .ref (a 0))] []) :
    ∀ q j i, j + q = c0 → ld p0 x1 q j i = ld p0 x1 c0 0 0 → k_GoA p l e R s m args below meth c Q 4 G A 0 0 (k_WX G.2.1 a tl t) 4 [(0, .ref (a 0)), (1, .int x1), (2, .int (nI i)), (3, .int (nI j))] [] := by
  have h5 := hL.1
  intro q
  induction q with
  | zero =>
    intro j i hj he
    refine ka_iload_n (i := 3) hA dX10_led_4 rfl 3 rfl ?_
    refine ka_aload_n (i := 0) hA dX10_led_5 rfl 0 rfl ?_
    refine gta_X_0_7 hA wd_444 dX10_led_6 ?_
    refine gta_X_2_4 hA wd_177 dX10_led_9 ?_
    refine ka_icmp_ge (tgt := 39) hA dX10_led_12 rfl (fun hc => ?_) (fun hc => absurd (by rw [hL.2.1]; exact nI_le (by omega) (by omega)) hc)
    refine ka_pick (lv' := [(0, .ref (a 0))]) [0] rfl ?_
    exact kt (by rw [← he]; rfl)
  | succ q ih =>
    intro j i hj he
    refine ka_iload_n (i := 3) hA dX10_led_4 rfl 3 rfl ?_
    refine ka_aload_n (i := 0) hA dX10_led_5 rfl 0 rfl ?_
    refine gta_X_0_7 hA wd_444 dX10_led_6 ?_
    refine gta_X_2_4 hA wd_177 dX10_led_9 ?_
    refine ka_icmp_ge (tgt := 39) hA dX10_led_12 rfl (fun hc => absurd hc (by rw [hL.2.1]; exact nI_ge (by omega) (by omega))) (fun hc => ?_)
    refine ka_aload_n (i := 0) hA dX10_led_15 rfl 0 rfl ?_
    refine ka_iload_n (i := 3) hA dX10_led_16 rfl 3 rfl ?_
    refine ka_callVi0 (As := [.int (nI j)]) (rest := []) hA (m_X_hasSense l G a tl n t (nI j) (hL.2.2 j (by omega))) cd_X10_hasSense wd_781 (hc_X_0 G.2.1 a tl t) rfl rfl hR ⟨Nat.zero_le _, Nat.zero_le _⟩ rfl rfl (Nat.le_of_ble_eq_true rfl) dX10_led_17 ?_
    rw [ld] at he
    refine ka_if_ne (tgt := 33) hA dX10_led_20 rfl (fun hc => ?_) (fun hc => ?_)
    · have hp : ¬ p0 j = true := fun z => hc (by rw [z]; rfl)
      rw [if_neg hp] at he
      refine ka_iinc (j := 3) (v := nI (j + 1)) (lv' := [(3, .int (nI (j + 1))), (0, .ref (a 0)), (1, .int x1), (2, .int (nI i))]) hA dX10_led_33 rfl (nI_1 j) (Nat.le_of_ble_eq_true rfl) rfl ?_
      refine ka_goto (tgt := 4) hA dX10_led_36 rfl ?_
      refine ka_pick (lv' := [(0, .ref (a 0)), (1, .int x1), (2, .int (nI i)), (3, .int (nI (j + 1)))]) [1, 2, 3, 0] rfl ?_
      exact ih (j + 1) i (by omega) he
    · have hp : p0 j = true := by
        cases z : p0 j with
        | true => rfl
        | false => rw [z] at hc; cases hc
      rw [if_pos hp] at he
      refine ka_iload_n (i := 2) hA dX10_led_23 rfl 2 rfl ?_
      refine ka_iload_n (i := 1) hA dX10_led_24 rfl 1 rfl ?_
      refine ka_icmp_ne (tgt := 30) hA dX10_led_25 rfl (fun hc2 => ?_) (fun hc2 => ?_)
      · rw [if_neg hc2] at he
        refine ka_iinc (j := 2) (v := nI (i + 1)) (lv' := [(2, .int (nI (i + 1))), (0, .ref (a 0)), (1, .int x1), (3, .int (nI j))]) hA dX10_led_30 rfl (nI_1 i) (Nat.le_of_ble_eq_true rfl) rfl ?_
        refine ka_iinc (j := 3) (v := nI (j + 1)) (lv' := [(3, .int (nI (j + 1))), (2, .int (nI (i + 1))), (0, .ref (a 0)), (1, .int x1)]) hA dX10_led_33 rfl (nI_1 j) (Nat.le_of_ble_eq_true rfl) rfl ?_
        refine ka_goto (tgt := 4) hA dX10_led_36 rfl ?_
        refine ka_pick (lv' := [(0, .ref (a 0)), (1, .int x1), (2, .int (nI (i + 1))), (3, .int (nI (j + 1)))]) [2, 3, 1, 0] rfl ?_
        exact ih (j + 1) (i + 1) (by omega) he
      · rw [if_pos hc2] at he
        refine ka_iload_n (i := 3) hA dX10_led_28 rfl 3 rfl ?_
        refine ka_pick (lv' := [(0, .ref (a 0))]) [0] rfl ?_
        exact kr j he.symm
/-- a contract of a method that throws -/
def th_M (l : Launch) (G : k_G) (y : MethodName) (cc : ByteArray) (nL : Nat) (ret : Option FieldType) (rm : Room) (w : va_W) (vals : List Value) : Prop := ∀ sz : Nat, MetFree l y (headSpec (.code y cc nL ret :: k_TB) rm) (fun ar U => k_Pc G w vals sz ar U ∧ th_E (va_A w sz) U U.heap) (fun _ _ _ _ _ => True) (fun _ st o t => th_Q G w st o t)
theorem th_start {l : Launch} {G : k_G} {y : MethodName} {cc : ByteArray} {nL : Nat} {ret : Option FieldType} {rm : Room} {w : va_W} {vals : List Value} {lv : List (Nat × Value)} (hy : plainName y.cls = true) (hlen : (lg_sl vals).length ≤ nL) (hlv : lv_args 0 vals = lv) (body : ∀ (p : Program) (e : Env) (s : State) (m : MethodId) (args : Array Value) (below : List Frame) (meth : Method) (c : Code), k_Amb p s m args meth c cc nL y.cls G (va_A w s.heap.size) → th_E (va_A w s.heap.size) s s.heap → c.exceptionTable.isEmpty = true → k_GoA p l e rm s m args below meth c (th_QQ G w below s) nL G (va_A w s.heap.size) 0 0 w 0 lv []) : th_M l G y cc nL ret rm w vals := by
  intro sz
  refine MetFree.of_bodyS (code := cc) (maxLocals := nL) (ret := ret) hy ?_ ?_
  · intro args s m h hn
    obtain ⟨meth, c, h1, h2, h3, h4, h5, h6, -, -⟩ := Cond.code_spec hn (atoms_spec (ws := .code y cc nL ret :: k_TB) h _ List.mem_cons_self)
    exact ⟨meth, c, h1, h2, h3, h4, h5, h6⟩
  · intro p e s m args below meth c s₁ B hml hP _
    obtain ⟨⟨rfl, hsz, hPw, hD0, hE⟩, hT⟩ := hP
    subst hsz
    have hts := atoms_spec (ws := .code y cc nL ret :: k_TB) B.pre
    have hl := lv_entry vals (n := nL) hlen
    rw [hlv] at hl
    have hh0 : s₁.heap = s.heap := by rw [B.state]; rfl
    have hb := body p e s m _ below meth c ⟨⟨B.exec, B.bytes, hml, findClass_of_methodNamed B.named, fun w hw => hts w (List.mem_cons_of_mem _ hw)⟩, hE, fun q h => Or.inr h, B.notSynchronized⟩ hT (B.noHandlers (hts _ List.mem_cons_self)) s.heap [] _ hPw hD0.self va_S.rf hl s₁ hh0 (Stand.of_body B)
    rw [← lg_entry_eq] at hb
    obtain ⟨t, st, o, h1, h2, h3⟩ := hb
    exact ⟨t, o, st, h1, h2, h3⟩
theorem m_X_led_ok (l : Launch) (G : k_G) (a : Nat → Nat) (tl : Value) (n : Nat) (t : k_St) {c0 : Nat} {p0 : Nat → Bool} (hL : LH n t c0 p0) (x1 : Int32) {k : Nat} (hk : ld p0 x1 c0 0 0 = some k) : k_CI l G yX10_led cX10_led 4 (some .int) 5 (k_WX G.2.1 a tl t) [.ref (a 0), .int x1] (nI k) (k_WX G.2.1 a tl t) := by
  refine k_startI (lv := [(0, .ref (a 0)), (1, .int x1)]) (by decide +kernel) (Nat.le_of_ble_eq_true rfl) rfl ?_
  intro p e s m args below meth c hA hr
  have hA : k_Amb p s m args meth c cX10_led 4 "TaleShares" G _ := hA
  show k_GoA p l e (k_rm 5) s m args below meth c _ 4 G _ 0 0 (k_WX G.2.1 a tl t) 0 [(0, .ref (a 0)), (1, .int x1)] []
  refine ka_iconst hA dX10_led_0 kc_i_0 ?_
  refine ka_istore_n (i := 2) (lv' := [(2, .int (nI 0)), (0, .ref (a 0)), (1, .int x1)]) hA dX10_led_1 rfl rfl (Nat.le_of_ble_eq_true rfl) rfl ?_
  refine ka_iconst hA dX10_led_2 kc_i_0 ?_
  refine ka_istore_n (i := 3) (lv' := [(3, .int (nI 0)), (2, .int (nI 0)), (0, .ref (a 0)), (1, .int x1)]) hA dX10_led_3 rfl rfl (Nat.le_of_ble_eq_true rfl) rfl ?_
  refine ka_pick (lv' := [(0, .ref (a 0)), (1, .int x1), (2, .int (nI 0)), (3, .int (nI 0))]) [2, 3, 1, 0] rfl ?_
  refine X_led_4 (l := l) (n := n) hL hA ⟨Nat.le_refl _, (Nat.le_of_ble_eq_true rfl)⟩ (fun k2 h2 => ?_) (fun h2 => by rw [hk] at h2; cases h2) c0 0 0 (by omega) rfl
  rw [hk] at h2
  have h3 := Option.some.inj h2
  subst h3
  exact k_iret hA hr rfl dX10_led_29
def rm_Xl : Room := { frames := 6, cells := 1, slots := 6, locals := 260 }
theorem m_X_led_no (l : Launch) (hl : l.flags = flags0) (G : k_G) (a : Nat → Nat) (tl : Value) (n : Nat) (t : k_St) {c0 : Nat} {p0 : Nat → Bool} (hL : LH n t c0 p0) (x1 : Int32) (hk : ld p0 x1 c0 0 0 = none) : th_M l G yX10_led cX10_led 4 (some .int) rm_Xl (k_WX G.2.1 a tl t) [.ref (a 0), .int x1] := by
  refine th_start (lv := [(0, .ref (a 0)), (1, .int x1)]) (by decide +kernel) (Nat.le_of_ble_eq_true rfl) rfl ?_
  intro p e s m args below meth c hA hE hno
  have hA : k_Amb p s m args meth c cX10_led 4 "TaleShares" G _ := hA
  refine ka_iconst hA dX10_led_0 kc_i_0 ?_
  refine ka_istore_n (i := 2) (lv' := [(2, .int (nI 0)), (0, .ref (a 0)), (1, .int x1)]) hA dX10_led_1 rfl rfl (Nat.le_of_ble_eq_true rfl) rfl ?_
  refine ka_iconst hA dX10_led_2 kc_i_0 ?_
  refine ka_istore_n (i := 3) (lv' := [(3, .int (nI 0)), (2, .int (nI 0)), (0, .ref (a 0)), (1, .int x1)]) hA dX10_led_3 rfl rfl (Nat.le_of_ble_eq_true rfl) rfl ?_
  refine ka_pick (lv' := [(0, .ref (a 0)), (1, .int x1), (2, .int (nI 0)), (3, .int (nI 0))]) [2, 3, 1, 0] rfl ?_
  refine X_led_4 (l := l) (n := n) hL hA ⟨(Nat.le_of_ble_eq_true rfl), (Nat.le_of_ble_eq_true rfl)⟩ (fun k2 h2 => by rw [hk] at h2; cases h2) (fun h2 => ?_) c0 0 0 (by omega) rfl
  exact th_throw hl hA hE hno dX10_led_39 dX10_led_42 dX10_led_43 dX10_led_46 ⟨(Nat.le_of_ble_eq_true rfl), (Nat.le_of_ble_eq_true rfl), (Nat.le_of_ble_eq_true rfl), (Nat.le_of_ble_eq_true rfl)⟩
