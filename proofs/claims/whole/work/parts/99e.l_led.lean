/-! ===== TaleSharesLaw.led ===== -/
theorem dL_led_0 : decode cL_led 0 = .ok (.aload_n 2, 1) := by decide +kernel
theorem dL_led_1 : decode cL_led 1 = .ok (.iconst 0, 1) := by decide +kernel
theorem dL_led_2 : decode cL_led 2 = .ok (.aload_n 0, 1) := by decide +kernel
theorem dL_led_3 : decode cL_led 3 = .ok (.iload_n 1, 1) := by decide +kernel
theorem dL_led_4 : decode cL_led 4 = .ok (.invokevirtual 7, 3) := by decide +kernel
theorem dL_led_7 : decode cL_led 7 = .ok (.i2l, 1) := by decide +kernel
theorem dL_led_8 : decode cL_led 8 = .ok (.lastore, 1) := by decide +kernel
theorem dL_led_9 : decode cL_led 9 = .ok (.goto 6, 3) := by decide +kernel
theorem dL_led_12 : decode cL_led 12 = .ok (.astore_n 3, 1) := by decide +kernel
theorem dL_led_13 : decode cL_led 13 = .ok (.iconst 1, 1) := by decide +kernel
theorem dL_led_14 : decode cL_led 14 = .ok (.ireturn, 1) := by decide +kernel
theorem dL_led_15 : decode cL_led 15 = .ok (.iconst 0, 1) := by decide +kernel
theorem dL_led_16 : decode cL_led 16 = .ok (.ireturn, 1) := by decide +kernel
theorem wd_1177 : Cond.methodLink "TaleSharesLaw" 7 yX10_led ∈ k_TB := k_tb 1177 (by decide +kernel) rfl
theorem th_cw : Cond.codeWith yL_led cL_led 4 (some .int) [(0, 9, 12, 13)] ∈ k_TB := k_tb 1175 (by decide +kernel) rfl
theorem th_cs : Cond.static yL_led ∈ k_TB := k_tb 1174 (by decide +kernel) rfl
theorem th_cl : Cond.methodLink "TaleSharesLaw" 217 yL_led ∈ k_TB := k_tb 1173 (by decide +kernel) rfl
theorem th_ci : Cond.initialized yL_led.cls ∈ k_TB := k_tb 118 (by decide +kernel) rfl
def rm_Ll : Room := { frames := 7, cells := 1, slots := 6, locals := 300 }
def th_L (l : Launch) (G : k_G) (w : va_W) (vals : List Value) (post : Int32 → va_W → Prop) : Prop := ∀ sz : Nat, Met l yL_led (Cond.codeWith yL_led cL_led 4 (some .int) [(0, 9, 12, 13)] :: k_TB) rm_Ll (fun ar U => k_Pc G w vals sz ar U ∧ th_E (va_A w sz) U U.heap) (va_Qi post (k_BM G w sz) (va_A w sz)) 1 6 (va_A w sz)
theorem th_startL {l : Launch} {G : k_G} {w : va_W} {vals : List Value} {lv : List (Nat × Value)} {post : Int32 → va_W → Prop} (hlen : (lg_sl vals).length ≤ 4) (hlv : lv_args 0 vals = lv) (body : ∀ (p : Program) (e : Env) (s : State) (m : MethodId) (args : Array Value) (below : List Frame) (meth : Method) (c : Code) (x : ExceptionTableEntry), k_Amb p s m args meth c cL_led 4 "TaleSharesLaw" G (va_A w s.heap.size) → th_E (va_A w s.heap.size) s s.heap → c.exceptionTable.toList = [x] → x.startPc = 0 → x.endPc = 9 → x.handlerPc = 12 → x.catchType = 13 → meth.sig.returnType = some .int → k_GoA p l e rm_Ll s m args below meth c (k_QMI G w post 1 6 args s below) 4 G (va_A w s.heap.size) 0 0 w 0 lv []) : th_L l G w vals post := by
  intro sz
  refine va_MetW (cc := cL_led) (maxL := 4) (ret := some .int) (hh := [(0, 9, 12, 13)]) (by decide +kernel) rfl ?_
  intro p e s m args below meth c s₁ B hml hP
  obtain ⟨⟨rfl, hsz, hPw, hD0, hE⟩, hT⟩ := hP
  subst hsz
  have hts := atoms_spec (ws := Cond.codeWith yL_led cL_led 4 (some .int) [(0, 9, 12, 13)] :: k_TB) B.pre
  have hl := lv_entry vals (n := 4) hlen
  rw [lg_entry_eq]
  rw [hlv] at hl
  obtain ⟨m9, meth9, c9, hn9, h1, h2, -, -, h5, -⟩ := Cond.codeWith_spec (hts _ List.mem_cons_self)
  cases B.named.symm.trans hn9
  cases B.method.symm.trans h1
  cases (Stand.of_body B).code.symm.trans h2
  obtain ⟨x, hx, hx2⟩ : ∃ x, c.exceptionTable.toList = [x] ∧ (x.startPc, x.endPc, x.handlerPc, x.catchType) = (0, 9, 12, 13) := by
    cases hq : c.exceptionTable.toList with
    | nil => rw [hq] at h5; cases h5
    | cons y ys =>
      rw [hq] at h5
      cases ys with
      | nil => exact ⟨y, rfl, (List.cons.inj h5).1⟩
      | cons z zs => cases (List.cons.inj h5).2
  simp only [Prod.mk.injEq] at hx2
  exact body p e s m _ below meth c x ⟨⟨B.exec, B.bytes, hml, findClass_of_methodNamed B.named, fun w hw => hts w (List.mem_cons_of_mem _ hw)⟩, hE, fun q h => Or.inr h, B.notSynchronized⟩ hT hx hx2.1 hx2.2.1 hx2.2.2.1 hx2.2.2.2 B.returns s.heap [] _ hPw hD0.self va_S.rf hl
theorem m_L_led_ok (l : Launch) (G : k_G) (a : Nat → Nat) (tl : Value) (n : Nat) (t : k_St) (o : Nat) (f : Nat → Int64) {c0 : Nat} {p0 : Nat → Bool} (hL : LH n t c0 p0) (x1 : Int32) {k : Nat} (hk : ld p0 x1 c0 0 0 = some k) : th_L l G (k_WX G.2.1 a tl t ++ [(o, .inl (G.2.1 2, 1, .inr (.inl f)))]) [.ref (a 0), .int x1, .ref o] (fun r u => r = 0 ∧ u = k_WX G.2.1 a tl t ++ [(o, .inl (G.2.1 2, 1, .inr (.inl (vp_updL f 0 (nI k).toInt64))))]) := by
  refine th_startL (lv := [(0, .ref (a 0)), (1, .int x1), (2, .ref o)]) (Nat.le_of_ble_eq_true rfl) rfl ?_
  intro p e s m args below meth c x hA hE hx hx1 hx2 hx3 hx4 hr
  refine ka_aload_n (i := 2) hA dL_led_0 rfl 2 rfl ?_
  refine ka_iconst hA dL_led_1 kc_i_0 ?_
  refine ka_aload_n (i := 0) hA dL_led_2 rfl 0 rfl ?_
  refine ka_iload_n (i := 1) hA dL_led_3 rfl 1 rfl ?_
  refine ka_callVi (w1 := []) (wc := k_WX G.2.1 a tl t) (w2 := [(o, .inl (G.2.1 2, 1, .inr (.inl f)))]) (As := [.int x1]) (rest := [.int (0 : Int32), .ref o]) hA (m_X_led_ok l G a tl n t hL x1 hk) cd_X10_led wd_1177 (hc_X_0 G.2.1 a tl t) rfl rfl ⟨(Nat.le_of_ble_eq_true rfl), (Nat.le_of_ble_eq_true rfl)⟩ ⟨(Nat.le_of_ble_eq_true rfl), (Nat.le_of_ble_eq_true rfl)⟩ rfl rfl (Nat.le_of_ble_eq_true rfl) dL_led_4 ?_
  refine ka_i2l hA dL_led_7 ?_
  refine ka_last (q0 := 37) (w' := k_WX G.2.1 a tl t ++ [(o, .inl (G.2.1 2, 1, .inr (.inl (vp_updL f 0 (nI k).toInt64))))]) hA rfl (show ¬ ((0 : Int32) < 0 ∨ 1 ≤ (0 : Int32).toNatClampNeg) by decide) rfl dL_led_8 ?_
  refine ka_goto (tgt := 15) hA dL_led_9 rfl ?_
  refine ka_iconst hA dL_led_15 kc_i_0 ?_
  refine ka_widen (k := 1) (n := 6) (Nat.zero_le _) (Nat.zero_le _) ?_
  exact ka_iretM hA hr rfl ⟨rfl, rfl⟩ dL_led_16
theorem m_L_led_no (l : Launch) (G : k_G) (a : Nat → Nat) (tl : Value) (n : Nat) (t : k_St) (o : Nat) (f : Nat → Int64) {c0 : Nat} {p0 : Nat → Bool} (hL : LH n t c0 p0) (x1 : Int32) (hfl : l.flags = flags0) (hk : ld p0 x1 c0 0 0 = none) : th_L l G (k_WX G.2.1 a tl t ++ [(o, .inl (G.2.1 2, 1, .inr (.inl f)))]) [.ref (a 0), .int x1, .ref o] (fun r u => r = 1 ∧ u = k_WX G.2.1 a tl t ++ [(o, .inl (G.2.1 2, 1, .inr (.inl f)))]) := by
  refine th_startL (lv := [(0, .ref (a 0)), (1, .int x1), (2, .ref o)]) (Nat.le_of_ble_eq_true rfl) rfl ?_
  intro p e s m args below meth c x hA hE hx hx1 hx2 hx3 hx4 hr
  refine ka_aload_n (i := 2) hA dL_led_0 rfl 2 rfl ?_
  refine ka_iconst hA dL_led_1 kc_i_0 ?_
  refine ka_aload_n (i := 0) hA dL_led_2 rfl 0 rfl ?_
  refine ka_iload_n (i := 1) hA dL_led_3 rfl 1 rfl ?_
  refine th_caught (w1 := []) (wc := k_WX G.2.1 a tl t) (w2 := [(o, .inl (G.2.1 2, 1, .inr (.inl f)))]) (As := [.int x1]) (rest := [.int (0 : Int32), .ref o]) hA hE (m_X_led_no l hfl G a tl n t hL x1 hk) ⟨rfl, rfl⟩ cd_X10_led wd_1177 (hc_X_0 G.2.1 a tl t) rfl rfl ⟨(Nat.le_of_ble_eq_true rfl), (Nat.le_of_ble_eq_true rfl)⟩ ⟨(Nat.le_of_ble_eq_true rfl), (Nat.le_of_ble_eq_true rfl)⟩ rfl rfl (Nat.le_of_ble_eq_true rfl) dL_led_4 hx (by simp [covers, hx1, hx2]) hx4 hx3 (fun q => ?_)
  refine ka_astore_n (i := 3) (lv' := [(3, .ref q), (0, .ref (a 0)), (1, .int x1), (2, .ref o)]) hA dL_led_12 rfl (Nat.le_of_ble_eq_true rfl) rfl ?_
  refine ka_iconst hA dL_led_13 kc_i_1 ?_
  exact ka_iretM hA hr rfl ⟨rfl, rfl⟩ dL_led_14
section LC
variable {cells slots : Nat} {p : Program} {l : Launch} {e : Env} {R : Room} {s : State} {m : MethodId} {args : Array Value} {below : List Frame} {meth : Method} {c : Code} {Q : State → Prop} {cc : ByteArray} {nL : Nat} {G : k_G} {A : Nat → Prop} {w1 w2 wc : va_W} {pc : Nat} {lv : List (Nat × Value)} {rest st : List Value} {As : List Value}
theorem th_call {post : Int32 → va_W → Prop} (hA : k_Amb p s m args meth c cc nL "TaleSharesLaw" G A) (hE : th_E A s s.heap) (hM : th_L l G wc As post) (hL : k_fit 4 rm_Ll R) (hcs : cells + 1 ≤ R.cells ∧ slots + 6 ≤ R.slots) (hn : As.length = 3) (hst : st = As.reverse ++ rest) (hr : (rest.map fun v => v.category).sum ≤ 8) (hd : decode cc pc = .ok (.invokestatic 217, 3))
    (k : ∀ r u, post r u → k_GoA p l e R s m args below meth c Q nL G A (cells + 1) (slots + 6) (w1 ++ (u ++ w2)) (pc + 3) lv (.int r :: rest)) : k_GoA p l e R s m args below meth c Q nL G A cells slots (w1 ++ (wc ++ w2)) pc lv st := by
  intro H locs ls hP hD hS hl
  have hts := hA.1.2.2.2.2
  have hgood : ∀ w ∈ (Cond.codeWith yL_led cL_led 4 (some .int) [(0, 9, 12, 13)] :: k_TB), w ∈ k_TB ∧ ((w.onTables && w.keeps) = true ∨ ∃ ty, w = .arrayClass ty) := by
    intro w hw
    have h1 : w ∈ k_TB := by
      rcases List.mem_cons.mp hw with rfl | h
      · exact th_cw
      · exact h
    exact ⟨h1, good_of_word (List.mem_filter.mp h1).2⟩
  have hK : Back l R p e below s args yL_led 3 8 (PreOf R 1 6 (fun ar U => k_Pc G wc As H.size ar U ∧ th_E (va_A wc H.size) U U.heap)) (PostOf (va_Qi post (k_BM G wc H.size) (va_A wc H.size)) 1 6 (va_A wc H.size)) :=
    va_backW (hh := [(0, 9, 12, 13)]) (bytes := cL_led) (maxL := 4) (ret := some .int) (hM H.size) (fun a U g mk q => ⟨k_blind a U g mk q.1, th_E.same (u := U) rfl (Vm.Alike.refl _) q.2⟩) rfl rfl hL.1 hL.2
      (fun w hw a' U hW => word_at hW (hgood w hw).2 (hts w (hgood w hw).1)) List.mem_cons_self (fun a' U hW => word_at (args := args) hW (Or.inl rfl) (hts _ th_ci))
  have hrun : va_Run p l e R s m args below meth c H locs cells slots 1 6 (F0 m pc ls st) rest (va_Qi post (k_BM G wc H.size) (va_A wc H.size) As.toArray) (va_A wc H.size) := by
    intro T hT X
    obtain ⟨mk, methM, cM, hnamed, hmethM, -, -, -, -, -, -, hsigM⟩ := Cond.codeWith_spec (hts _ th_cw)
    have hstatic : methM.isStatic = true := Cond.static_spec hnamed hmethM (hts _ th_cs)
    obtain ⟨kP, hkP, -⟩ := className_of_methodNamed hnamed
    have hinitP : kP.init = .initialized := Cond.initialized_spec (findClass_of_methodNamed hnamed) hkP (hts _ th_ci)
    obtain ⟨vm₁, X₁, hstep₁⟩ := X.invokestatic hA.1.1 hA.1.2.2.2.1 (hts _ th_cl) hnamed hmethM hstatic hkP hinitP ⟨by decide +kernel, by decide +kernel⟩ (g := F0 m pc ls st) rfl (argsL := As) (rest := rest)
      (by
        have h : (parseMethodDescriptor yL_led.desc).map (fun d => d.parameters.length) = some 3 := by decide +kernel
        rw [hsigM] at h
        exact hn.trans (Option.some.inj h).symm) hst (by rw [hA.1.2.1]; exact hd)
    obtain ⟨v, ⟨U', l2, c2, s2⟩, X', ⟨g', mk', t, L, e1, e2, hq, h1, hL2, h2, h3⟩, hsteps⟩ := hK m meth c ⟨T.setVm vm₁, locs, cells, slots⟩ (F0 m pc ls rest) (.invokestatic 217) mk As.toArray X₁ rfl (hl.1.trans hA.1.2.2.1.symm) (by rw [hA.1.2.1]; exact hd) (lv_room hr) (X₁.named hnamed)
      ⟨hcs.1, hcs.2, (ka_pre (w1 := w1) (w2 := w2) hA hP hD hS).2 (T.setVm vm₁) hT X₁.warmed, by
        show th_E (va_A wc H.size) (T.setVm vm₁) T.heap
        rw [hT]
        exact th_E.call X₁.warmed hE hS (ka_free hD hS hA.2.2.1)⟩
    dsimp only [Pt.U, Pt.locs, Pt.cells, Pt.slots] at X' e1 e2 h1 h2 h3 hsteps
    subst h1; subst h2; subst h3
    exact ⟨v, (T.setVm vm₁).calling g' mk' As.toArray, t, U', L, hT, X', hL2, e1, e2, hq, fun target h => hstep₁ _ fun acts => by rw [doInvoke_state]; exact hsteps.trans h⟩
  exact va_calli hrun hS (fun q _ h => ka_free hD hS hA.2.2.1 _ h) (ka_free hD hS hA.2.2.1) (fun r2 u t H1 locs1 ht hvm hw hB hz1 hk1 hS1 => by
    have h9 := hB.1
    rw [ht] at h9
    obtain ⟨j1, j2⟩ := ka_join hP hD hk1 (ka_free hD hS hA.2.2.1) h9 hB.2
    exact k r2 u hw H1 locs1 ls j1 j2 hS1 hl)
end LC
