/-! ===== the law: its rows ===== -/
def l_lv (b ax dm oo j : Nat) : List (Nat × Value) := [(0, .ref b), (1, .ref ax), (2, .ref dm), (3, .ref oo), (4, .int (nI (6 * j)))]
def l_C (p : Program) (s : State) (m : MethodId) (args : Array Value) (meth : Method) (c : Code) (G : k_G) (A : Nat → Prop) (b L : Nat) (xs : Nat → Int32) (j : Nat) : Prop := k_Amb p s m args meth c code 7 "TaleSharesLaw" G A ∧ va_X b L xs s s.heap ∧ b < s.heap.size ∧ ¬ A b ∧ 6 * j + 6 ≤ L ∧ L ≤ 3072
def l_ld (k : Nat) (pc : Nat) : Prop := decode code pc = .ok (.aload_n 0, 1) ∧ decode code (pc + 1) = .ok (.iload 4, 2) ∧ decode code (pc + 3) = .ok (.iconst (k : Int), 1) ∧ decode code (pc + 4) = .ok (.iadd, 1) ∧ decode code (pc + 5) = .ok (.iaload, 1)
def l_ldz (k : Nat) (pc : Nat) : Prop := l_ld k pc ∧ decode code (pc + 6) = .ok (.ifCond .eq 7, 3) ∧ decode code (pc + 9) = .ok (.iconst 1, 1) ∧ decode code (pc + 10) = .ok (.goto 4, 3) ∧ decode code (pc + 13) = .ok (.iconst 0, 1)
def l_z (v : Int32) : Int32 := if v = 0 then 0 else 1
/-- both objects and the row for led's answer, between two calls -/
def l_W (G : k_G) (ax dm oo : Nat) (w : va_W) : Prop := ∃ (a d : Nat → Nat) (rv : Value) (f : Nat → Int64) (x mm : k_St), a 0 = ax ∧ d 0 = dm ∧ ((R0 x mm ∧ w = k_WN G.2.1 d rv mm ++ (k_WX G.2.1 a (.ref (a 10)) x ++ [(oo, .inl (G.2.1 2, 1, .inr (.inl f)))])) ∨ ∃ T v K I, R1 T v K I x mm ∧ w = k_WT G.2.1 d rv mm ++ (k_WX G.2.1 a (.ref (a 10)) x ++ [(oo, .inl (G.2.1 2, 1, .inr (.inl f)))]))
theorem lg_cmp_rf (r : Int64) : lg_cmp r r = 0 := by
  unfold lg_cmp
  rw [if_neg (fun h => Int64.lt_irrefl h), if_pos rfl]
section LR
variable {cells slots : Nat} {p : Program} {l : Launch} {e : Env} {R : Room} {s : State} {m : MethodId} {args : Array Value} {below : List Frame} {meth : Method} {c : Code} {Q : State → Prop} {cc : ByteArray} {nL : Nat} {own : String} {G : k_G} {A : Nat → Prop} {w wc wc' w2 : va_W} {pc : Nat} {lv lv' : List (Nat × Value)} {rest st : List Value}
variable {y : MethodName} {cc2 : ByteArray} {nL2 index n Lc b q0 ci N : Nat} {ret : Option FieldType} {As fs : List Value} {T : u_T}
theorem ka_sld (hA : k_Amb p s m args meth c cc nL own G A) {b L : Nat} {xs : Nat → Int32} (hX : va_X b L xs s s.heap) (hbl : b < s.heap.size) (hbA : ¬ A b) {i : Int32} (hin : vp_in i L) (hd : decode cc pc = .ok (.iaload, 1)) (kk : k_GoA p l e R s m args below meth c Q nL G A cells slots w (pc + 1) lv (.int (xs i.toNatClampNeg) :: rest)) : k_GoA p l e R s m args below meth c Q nL G A cells slots w pc lv (.int i :: .ref b :: rest) := fun H locs ls hP hD hS hl => va_sld hA.1.1 hA.1.2.1 hX hbl hbA hS hin hd (kk H locs ls hP hD hS hl)
theorem ka_slen (hA : k_Amb p s m args meth c cc nL own G A) {b L : Nat} {xs : Nat → Int32} (hX : va_X b L xs s s.heap) (hbl : b < s.heap.size) (hbA : ¬ A b) (hd : decode cc pc = .ok (.arraylength, 1)) (kk : k_GoA p l e R s m args below meth c Q nL G A cells slots w (pc + 1) lv (.int (Int32.ofNat L) :: rest)) : k_GoA p l e R s m args below meth c Q nL G A cells slots w pc lv (.ref b :: rest) := fun H locs ls hP hD hS hl => va_slen hA.1.1 hA.1.2.1 hX hbl hbA hS hd (kk H locs ls hP hD hS hl)
theorem ka_tin {dflt lo hi : Int} {offs : Array Int} {len : Nat} {x : Int32} {off : Int} {tgt : Nat} (hA : k_Amb p s m args meth c cc nL own G A) (hd : decode cc pc = .ok (.tableswitch dflt lo hi offs, len)) (h1 : ¬ x.toInt < lo) (h2 : ¬ hi < x.toInt) (ho : offs[(x.toInt - lo).toNat]? = some off) (ht : (pc : Int) + off = (tgt : Int)) (k : k_GoA p l e R s m args below meth c Q nL G A cells slots w tgt lv rest) : k_GoA p l e R s m args below meth c Q nL G A cells slots w pc lv (.int x :: rest) := fun H locs ls hP hD hS hl => lv_tableIn hA.1.1 hA.1.2.1 hd h1 h2 ho ht (k H locs ls hP hD hS hl)
theorem ka_tout {dflt lo hi : Int} {offs : Array Int} {len : Nat} {x : Int32} {tgt : Nat} (hA : k_Amb p s m args meth c cc nL own G A) (hd : decode cc pc = .ok (.tableswitch dflt lo hi offs, len)) (h : x.toInt < lo ∨ hi < x.toInt) (ht : (pc : Int) + dflt = (tgt : Int)) (k : k_GoA p l e R s m args below meth c Q nL G A cells slots w tgt lv rest) : k_GoA p l e R s m args below meth c Q nL G A cells slots w pc lv (.int x :: rest) := fun H locs ls hP hD hS hl => lv_tableOut hA.1.1 hA.1.2.1 hd h ht (k H locs ls hP hD hS hl)
theorem kb_callVi {r : Int32} (hA : k_Amb p s m args meth c cc nL own G A) (hM : k_CI l G y cc2 nL2 ret Lc wc (.ref b :: As) r wc') (hcard : k_cardV y cc2 nL2 ret n) (hlink : Cond.methodLink own index y ∈ k_TB) {C : String} (hq : wc[q0]? = some (b, .inr (ci, fs))) (hc : vwCl[ci]? = some (C, T, N)) (hC : C = y.cls) (hL : k_fit nL2 (k_rm Lc) R) (hcs : cells ≤ R.cells ∧ slots ≤ R.slots) (hn : As.length = n) (hst : st = As.reverse ++ .ref b :: rest) (hr : (rest.map fun v => v.category).sum ≤ 8) (hd : decode cc pc = .ok (.invokevirtual index, 3)) (k : k_GoA p l e R s m args below meth c Q nL G A cells slots (wc' ++ w2) (pc + 3) lv (.int r :: rest)) : k_GoA p l e R s m args below meth c Q nL G A cells slots (wc ++ w2) pc lv st := ka_callVi (w1 := []) hA hM hcard hlink hq hc hC hL hcs hn hst hr hd k
theorem kb_callVl {r : Int64} (hA : k_Amb p s m args meth c cc nL own G A) (hM : k_CL l G y cc2 nL2 ret Lc wc (.ref b :: As) r wc') (hcard : k_cardV y cc2 nL2 ret n) (hlink : Cond.methodLink own index y ∈ k_TB) {C : String} (hq : wc[q0]? = some (b, .inr (ci, fs))) (hc : vwCl[ci]? = some (C, T, N)) (hC : C = y.cls) (hL : k_fit nL2 (k_rm Lc) R) (hcs : cells ≤ R.cells ∧ slots ≤ R.slots) (hn : As.length = n) (hst : st = As.reverse ++ .ref b :: rest) (hr : (rest.map fun v => v.category).sum ≤ 8) (hd : decode cc pc = .ok (.invokevirtual index, 3)) (k : k_GoA p l e R s m args below meth c Q nL G A cells slots (wc' ++ w2) (pc + 3) lv (.long r :: rest)) : k_GoA p l e R s m args below meth c Q nL G A cells slots (wc ++ w2) pc lv st := ka_callVl (w1 := []) hA hM hcard hlink hq hc hC hL hcs hn hst hr hd k
theorem kb_callMi {rm : Room} {post : Int32 → va_W → Prop} (hA : k_Amb p s m args meth c cc nL own G A) (hM : k_MI l G y cc2 nL2 ret rm wc (.ref b :: As) post rm.cells rm.slots) (hcard : k_cardV y cc2 nL2 ret n) (hlink : Cond.methodLink own index y ∈ k_TB) {C : String} (hq : wc[q0]? = some (b, .inr (ci, fs))) (hc : vwCl[ci]? = some (C, T, N)) (hC : C = y.cls) (hL : k_fit nL2 rm R) (hcs : cells + rm.cells ≤ R.cells ∧ slots + rm.slots ≤ R.slots) (hn : As.length = n) (hst : st = As.reverse ++ .ref b :: rest) (hr : (rest.map fun v => v.category).sum ≤ 8) (hd : decode cc pc = .ok (.invokevirtual index, 3)) (k : ∀ r u, post r u → k_GoA p l e R s m args below meth c Q nL G A (cells + rm.cells) (slots + rm.slots) (u ++ w2) (pc + 3) lv (.int r :: rest)) : k_GoA p l e R s m args below meth c Q nL G A cells slots (wc ++ w2) pc lv st := ka_callMi (w1 := []) hA hM hcard hlink hq hc hC hL hcs hn hst hr hd k
theorem ka_dropM {w1 wm w3 : va_W} (k : k_GoA p l e R s m args below meth c Q nL G A cells slots (w1 ++ w3) pc lv st) : k_GoA p l e R s m args below meth c Q nL G A cells slots (w1 ++ (wm ++ w3)) pc lv st := fun H locs ls hP hD hS hl => k H locs ls (va_P.app hP.l hP.r.r) (va_D.app hD.l hD.r.r (fun i j x y hx hy => hD.x i (wm.length + j) x y hx (by rw [List.getElem?_append_right (by omega), Nat.add_sub_cancel_left]; exact hy))) hS hl
variable {L j ax dm oo : Nat} {xs : Nat → Int32}
theorem l_arg (h : l_C p s m args meth c G A b L xs j) {k : Nat} (hk : k ≤ 5) (hd : l_ld k pc) (kk : k_GoA p l e R s m args below meth c Q 7 G A cells slots w (pc + 6) (l_lv b ax dm oo j) (.int (xs (6 * j + k)) :: st)) : k_GoA p l e R s m args below meth c Q 7 G A cells slots w pc (l_lv b ax dm oo j) st := by
  have hA := h.1
  have h1 := h.2.2.2.2.1
  have h2 := h.2.2.2.2.2
  have he : nI (6 * j) + Int32.ofInt (k : Int) = nI (6 * j + k) := by
    rw [show Int32.ofInt (k : Int) = nI k from rfl, nI_add]
  refine ka_aload_n (i := 0) hA hd.1 rfl 0 rfl ?_
  refine ka_iload (i := 4) hA hd.2.1 4 rfl ?_
  refine ka_iconst hA hd.2.2.1 rfl ?_
  refine ka_iadd hA hd.2.2.2.1 ?_
  rw [he]
  refine ka_sld hA h.2.1 h.2.2.1 h.2.2.2.1 (vp_in_nI (by omega) (by omega)) hd.2.2.2.2 ?_
  rw [nI_clamp (by omega)]
  exact kk
theorem l_argZ (h : l_C p s m args meth c G A b L xs j) {k : Nat} (hk : k ≤ 5) (hd : l_ldz k pc) (kk : k_GoA p l e R s m args below meth c Q 7 G A cells slots w (pc + 14) (l_lv b ax dm oo j) (.int (l_z (xs (6 * j + k))) :: st)) : k_GoA p l e R s m args below meth c Q 7 G A cells slots w pc (l_lv b ax dm oo j) st := by
  have hA := h.1
  refine l_arg h hk hd.1 ?_
  refine ka_if_eq (tgt := pc + 13) hA hd.2.1 (by omega) (fun hc => ?_) (fun hc => ?_)
  · refine ka_iconst hA hd.2.2.2.2 rfl ?_
    rw [l_z, if_pos hc] at kk
    exact kk
  · refine ka_iconst hA hd.2.2.1 rfl ?_
    refine ka_goto (tgt := pc + 14) hA hd.2.2.2.1 (by omega) ?_
    rw [l_z, if_neg hc] at kk
    exact kk
end LR
theorem dL_law_0 : decode cL_law 0 = .ok (.new 8, 3) := by decide +kernel
theorem dL_law_3 : decode cL_law 3 = .ok (.dup, 1) := by decide +kernel
theorem dL_law_4 : decode cL_law 4 = .ok (.invokespecial 15, 3) := by decide +kernel
theorem dL_law_7 : decode cL_law 7 = .ok (.astore_n 1, 1) := by decide +kernel
theorem dL_law_8 : decode cL_law 8 = .ok (.new 16, 3) := by decide +kernel
theorem dL_law_11 : decode cL_law 11 = .ok (.dup, 1) := by decide +kernel
theorem dL_law_12 : decode cL_law 12 = .ok (.invokespecial 18, 3) := by decide +kernel
theorem dL_law_15 : decode cL_law 15 = .ok (.astore_n 2, 1) := by decide +kernel
theorem dL_law_16 : decode cL_law 16 = .ok (.iconst 1, 1) := by decide +kernel
theorem dL_law_17 : decode cL_law 17 = .ok (.newarray .long, 2) := by decide +kernel
theorem dL_law_19 : decode cL_law 19 = .ok (.astore_n 3, 1) := by decide +kernel
theorem dL_law_20 : decode cL_law 20 = .ok (.iconst 0, 1) := by decide +kernel
theorem dL_law_21 : decode cL_law 21 = .ok (.istore 4, 2) := by decide +kernel
theorem dL_law_23 : decode cL_law 23 = .ok (.iload 4, 2) := by decide +kernel
theorem dL_law_25 : decode cL_law 25 = .ok (.aload_n 0, 1) := by decide +kernel
theorem dL_law_26 : decode cL_law 26 = .ok (.arraylength, 1) := by decide +kernel
theorem dL_law_27 : decode cL_law 27 = .ok (.bipush 6, 2) := by decide +kernel
theorem dL_law_29 : decode cL_law 29 = .ok (.isub, 1) := by decide +kernel
theorem dL_law_30 : decode cL_law 30 = .ok (.if_icmp .gt 1671, 3) := by decide +kernel
theorem dL_law_33 : decode cL_law 33 = .ok (.aload_n 0, 1) := by decide +kernel
theorem dL_law_34 : decode cL_law 34 = .ok (.iload 4, 2) := by decide +kernel
theorem dL_law_36 : decode cL_law 36 = .ok (.iaload, 1) := by decide +kernel
theorem dL_law_37 : decode cL_law 37 = .ok (.bipush 63, 2) := by decide +kernel
theorem dL_law_39 : decode cL_law 39 = .ok (.iand, 1) := by decide +kernel
theorem dL_law_40 : decode cL_law 40 = .ok (.tableswitch 1655 0 49 #[216, 289, 314, 327, 340, 377, 414, 427, 452, 477, 502, 539, 588, 613, 638, 663, 688, 713, 738, 763, 788, 801, 814, 827, 864, 889, 902, 927, 952, 965, 978, 1003, 1016, 1093, 1118, 1143, 1209, 1263, 1312, 1349, 1386, 1423, 1460, 1485, 1510, 1523, 1536, 1561, 1617, 1642], 216) := by decide +kernel
theorem dL_law_256 : decode cL_law 256 = .ok (.aload_n 1, 1) := by decide +kernel
theorem dL_law_287 : decode cL_law 287 = .ok (.invokevirtual 19, 3) := by decide +kernel
theorem dL_law_290 : decode cL_law 290 = .ok (.aload_n 2, 1) := by decide +kernel
theorem dL_law_321 : decode cL_law 321 = .ok (.invokevirtual 23, 3) := by decide +kernel
theorem dL_law_324 : decode cL_law 324 = .ok (.if_icmp .eq 1371, 3) := by decide +kernel
theorem dL_law_327 : decode cL_law 327 = .ok (.iconst 0, 1) := by decide +kernel
theorem dL_law_328 : decode cL_law 328 = .ok (.ireturn, 1) := by decide +kernel
theorem dL_law_329 : decode cL_law 329 = .ok (.aload_n 1, 1) := by decide +kernel
theorem dL_law_330 : decode cL_law 330 = .ok (.aload_n 0, 1) := by decide +kernel
theorem dL_law_331 : decode cL_law 331 = .ok (.iload 4, 2) := by decide +kernel
theorem dL_law_333 : decode cL_law 333 = .ok (.iconst 1, 1) := by decide +kernel
theorem dL_law_334 : decode cL_law 334 = .ok (.iadd, 1) := by decide +kernel
theorem dL_law_335 : decode cL_law 335 = .ok (.iaload, 1) := by decide +kernel
theorem dL_law_336 : decode cL_law 336 = .ok (.invokevirtual 24, 3) := by decide +kernel
theorem dL_law_339 : decode cL_law 339 = .ok (.aload_n 2, 1) := by decide +kernel
theorem dL_law_340 : decode cL_law 340 = .ok (.aload_n 0, 1) := by decide +kernel
theorem dL_law_341 : decode cL_law 341 = .ok (.iload 4, 2) := by decide +kernel
theorem dL_law_343 : decode cL_law 343 = .ok (.iconst 1, 1) := by decide +kernel
theorem dL_law_344 : decode cL_law 344 = .ok (.iadd, 1) := by decide +kernel
theorem dL_law_345 : decode cL_law 345 = .ok (.iaload, 1) := by decide +kernel
theorem dL_law_346 : decode cL_law 346 = .ok (.invokevirtual 27, 3) := by decide +kernel
theorem dL_law_349 : decode cL_law 349 = .ok (.if_icmp .eq 1346, 3) := by decide +kernel
theorem dL_law_352 : decode cL_law 352 = .ok (.iconst 0, 1) := by decide +kernel
theorem dL_law_353 : decode cL_law 353 = .ok (.ireturn, 1) := by decide +kernel
theorem dL_law_354 : decode cL_law 354 = .ok (.aload_n 1, 1) := by decide +kernel
theorem dL_law_355 : decode cL_law 355 = .ok (.invokevirtual 28, 3) := by decide +kernel
theorem dL_law_358 : decode cL_law 358 = .ok (.aload_n 2, 1) := by decide +kernel
theorem dL_law_359 : decode cL_law 359 = .ok (.invokevirtual 32, 3) := by decide +kernel
theorem dL_law_362 : decode cL_law 362 = .ok (.if_icmp .eq 1333, 3) := by decide +kernel
theorem dL_law_365 : decode cL_law 365 = .ok (.iconst 0, 1) := by decide +kernel
theorem dL_law_366 : decode cL_law 366 = .ok (.ireturn, 1) := by decide +kernel
theorem dL_law_367 : decode cL_law 367 = .ok (.aload_n 1, 1) := by decide +kernel
theorem dL_law_368 : decode cL_law 368 = .ok (.invokevirtual 33, 3) := by decide +kernel
theorem dL_law_371 : decode cL_law 371 = .ok (.aload_n 2, 1) := by decide +kernel
theorem dL_law_372 : decode cL_law 372 = .ok (.invokevirtual 36, 3) := by decide +kernel
theorem dL_law_375 : decode cL_law 375 = .ok (.if_icmp .eq 1320, 3) := by decide +kernel
theorem dL_law_378 : decode cL_law 378 = .ok (.iconst 0, 1) := by decide +kernel
theorem dL_law_379 : decode cL_law 379 = .ok (.ireturn, 1) := by decide +kernel
theorem dL_law_380 : decode cL_law 380 = .ok (.aload_n 1, 1) := by decide +kernel
theorem dL_law_393 : decode cL_law 393 = .ok (.invokevirtual 37, 3) := by decide +kernel
theorem dL_law_396 : decode cL_law 396 = .ok (.aload_n 2, 1) := by decide +kernel
theorem dL_law_409 : decode cL_law 409 = .ok (.invokevirtual 41, 3) := by decide +kernel
theorem dL_law_412 : decode cL_law 412 = .ok (.if_icmp .eq 1283, 3) := by decide +kernel
theorem dL_law_415 : decode cL_law 415 = .ok (.iconst 0, 1) := by decide +kernel
theorem dL_law_416 : decode cL_law 416 = .ok (.ireturn, 1) := by decide +kernel
theorem dL_law_417 : decode cL_law 417 = .ok (.aload_n 1, 1) := by decide +kernel
theorem dL_law_430 : decode cL_law 430 = .ok (.invokevirtual 42, 3) := by decide +kernel
theorem dL_law_433 : decode cL_law 433 = .ok (.aload_n 2, 1) := by decide +kernel
theorem dL_law_446 : decode cL_law 446 = .ok (.invokevirtual 45, 3) := by decide +kernel
theorem dL_law_449 : decode cL_law 449 = .ok (.if_icmp .eq 1246, 3) := by decide +kernel
theorem dL_law_452 : decode cL_law 452 = .ok (.iconst 0, 1) := by decide +kernel
theorem dL_law_453 : decode cL_law 453 = .ok (.ireturn, 1) := by decide +kernel
theorem dL_law_454 : decode cL_law 454 = .ok (.aload_n 1, 1) := by decide +kernel
theorem dL_law_455 : decode cL_law 455 = .ok (.invokevirtual 46, 3) := by decide +kernel
theorem dL_law_458 : decode cL_law 458 = .ok (.aload_n 2, 1) := by decide +kernel
theorem dL_law_459 : decode cL_law 459 = .ok (.invokevirtual 49, 3) := by decide +kernel
theorem dL_law_462 : decode cL_law 462 = .ok (.if_icmp .eq 1233, 3) := by decide +kernel
theorem dL_law_465 : decode cL_law 465 = .ok (.iconst 0, 1) := by decide +kernel
theorem dL_law_466 : decode cL_law 466 = .ok (.ireturn, 1) := by decide +kernel
theorem dL_law_467 : decode cL_law 467 = .ok (.aload_n 1, 1) := by decide +kernel
theorem dL_law_474 : decode cL_law 474 = .ok (.invokevirtual 50, 3) := by decide +kernel
theorem dL_law_477 : decode cL_law 477 = .ok (.aload_n 2, 1) := by decide +kernel
theorem dL_law_484 : decode cL_law 484 = .ok (.invokevirtual 53, 3) := by decide +kernel
theorem dL_law_487 : decode cL_law 487 = .ok (.if_icmp .eq 1208, 3) := by decide +kernel
theorem dL_law_490 : decode cL_law 490 = .ok (.iconst 0, 1) := by decide +kernel
theorem dL_law_491 : decode cL_law 491 = .ok (.ireturn, 1) := by decide +kernel
theorem dL_law_492 : decode cL_law 492 = .ok (.aload_n 1, 1) := by decide +kernel
theorem dL_law_499 : decode cL_law 499 = .ok (.invokevirtual 54, 3) := by decide +kernel
theorem dL_law_502 : decode cL_law 502 = .ok (.aload_n 2, 1) := by decide +kernel
theorem dL_law_509 : decode cL_law 509 = .ok (.invokevirtual 57, 3) := by decide +kernel
theorem dL_law_512 : decode cL_law 512 = .ok (.if_icmp .eq 1183, 3) := by decide +kernel
theorem dL_law_515 : decode cL_law 515 = .ok (.iconst 0, 1) := by decide +kernel
theorem dL_law_516 : decode cL_law 516 = .ok (.ireturn, 1) := by decide +kernel
theorem dL_law_517 : decode cL_law 517 = .ok (.aload_n 1, 1) := by decide +kernel
theorem dL_law_524 : decode cL_law 524 = .ok (.invokevirtual 58, 3) := by decide +kernel
theorem dL_law_527 : decode cL_law 527 = .ok (.aload_n 2, 1) := by decide +kernel
theorem dL_law_534 : decode cL_law 534 = .ok (.invokevirtual 61, 3) := by decide +kernel
theorem dL_law_537 : decode cL_law 537 = .ok (.if_icmp .eq 1158, 3) := by decide +kernel
theorem dL_law_540 : decode cL_law 540 = .ok (.iconst 0, 1) := by decide +kernel
theorem dL_law_541 : decode cL_law 541 = .ok (.ireturn, 1) := by decide +kernel
theorem dL_law_542 : decode cL_law 542 = .ok (.aload_n 1, 1) := by decide +kernel
theorem dL_law_555 : decode cL_law 555 = .ok (.invokevirtual 62, 3) := by decide +kernel
theorem dL_law_558 : decode cL_law 558 = .ok (.aload_n 2, 1) := by decide +kernel
theorem dL_law_571 : decode cL_law 571 = .ok (.invokevirtual 65, 3) := by decide +kernel
theorem dL_law_574 : decode cL_law 574 = .ok (.if_icmp .eq 1121, 3) := by decide +kernel
theorem dL_law_577 : decode cL_law 577 = .ok (.iconst 0, 1) := by decide +kernel
theorem dL_law_578 : decode cL_law 578 = .ok (.ireturn, 1) := by decide +kernel
theorem dL_law_579 : decode cL_law 579 = .ok (.aload_n 1, 1) := by decide +kernel
theorem dL_law_598 : decode cL_law 598 = .ok (.invokevirtual 66, 3) := by decide +kernel
theorem dL_law_601 : decode cL_law 601 = .ok (.aload_n 2, 1) := by decide +kernel
theorem dL_law_620 : decode cL_law 620 = .ok (.invokevirtual 70, 3) := by decide +kernel
theorem dL_law_623 : decode cL_law 623 = .ok (.if_icmp .eq 1072, 3) := by decide +kernel
theorem dL_law_626 : decode cL_law 626 = .ok (.iconst 0, 1) := by decide +kernel
theorem dL_law_627 : decode cL_law 627 = .ok (.ireturn, 1) := by decide +kernel
theorem dL_law_628 : decode cL_law 628 = .ok (.aload_n 1, 1) := by decide +kernel
theorem dL_law_635 : decode cL_law 635 = .ok (.invokevirtual 71, 3) := by decide +kernel
theorem dL_law_638 : decode cL_law 638 = .ok (.aload_n 2, 1) := by decide +kernel
theorem dL_law_645 : decode cL_law 645 = .ok (.invokevirtual 74, 3) := by decide +kernel
theorem dL_law_648 : decode cL_law 648 = .ok (.if_icmp .eq 1047, 3) := by decide +kernel
theorem dL_law_651 : decode cL_law 651 = .ok (.iconst 0, 1) := by decide +kernel
theorem dL_law_652 : decode cL_law 652 = .ok (.ireturn, 1) := by decide +kernel
theorem dL_law_653 : decode cL_law 653 = .ok (.aload_n 1, 1) := by decide +kernel
theorem dL_law_660 : decode cL_law 660 = .ok (.invokevirtual 75, 3) := by decide +kernel
theorem dL_law_663 : decode cL_law 663 = .ok (.aload_n 2, 1) := by decide +kernel
theorem dL_law_670 : decode cL_law 670 = .ok (.invokevirtual 78, 3) := by decide +kernel
theorem dL_law_673 : decode cL_law 673 = .ok (.if_icmp .eq 1022, 3) := by decide +kernel
theorem dL_law_676 : decode cL_law 676 = .ok (.iconst 0, 1) := by decide +kernel
theorem dL_law_677 : decode cL_law 677 = .ok (.ireturn, 1) := by decide +kernel
theorem dL_law_678 : decode cL_law 678 = .ok (.aload_n 1, 1) := by decide +kernel
theorem dL_law_685 : decode cL_law 685 = .ok (.invokevirtual 79, 3) := by decide +kernel
theorem dL_law_688 : decode cL_law 688 = .ok (.aload_n 2, 1) := by decide +kernel
theorem dL_law_695 : decode cL_law 695 = .ok (.invokevirtual 82, 3) := by decide +kernel
theorem dL_law_698 : decode cL_law 698 = .ok (.if_icmp .eq 997, 3) := by decide +kernel
theorem dL_law_701 : decode cL_law 701 = .ok (.iconst 0, 1) := by decide +kernel
theorem dL_law_702 : decode cL_law 702 = .ok (.ireturn, 1) := by decide +kernel
theorem dL_law_703 : decode cL_law 703 = .ok (.aload_n 1, 1) := by decide +kernel
theorem dL_law_710 : decode cL_law 710 = .ok (.invokevirtual 83, 3) := by decide +kernel
theorem dL_law_713 : decode cL_law 713 = .ok (.aload_n 2, 1) := by decide +kernel
theorem dL_law_720 : decode cL_law 720 = .ok (.invokevirtual 86, 3) := by decide +kernel
theorem dL_law_723 : decode cL_law 723 = .ok (.if_icmp .eq 972, 3) := by decide +kernel
theorem dL_law_726 : decode cL_law 726 = .ok (.iconst 0, 1) := by decide +kernel
theorem dL_law_727 : decode cL_law 727 = .ok (.ireturn, 1) := by decide +kernel
theorem dL_law_728 : decode cL_law 728 = .ok (.aload_n 1, 1) := by decide +kernel
theorem dL_law_735 : decode cL_law 735 = .ok (.invokevirtual 87, 3) := by decide +kernel
theorem dL_law_738 : decode cL_law 738 = .ok (.aload_n 2, 1) := by decide +kernel
theorem dL_law_745 : decode cL_law 745 = .ok (.invokevirtual 90, 3) := by decide +kernel
theorem dL_law_748 : decode cL_law 748 = .ok (.if_icmp .eq 947, 3) := by decide +kernel
theorem dL_law_751 : decode cL_law 751 = .ok (.iconst 0, 1) := by decide +kernel
theorem dL_law_752 : decode cL_law 752 = .ok (.ireturn, 1) := by decide +kernel
theorem dL_law_753 : decode cL_law 753 = .ok (.aload_n 1, 1) := by decide +kernel
theorem dL_law_760 : decode cL_law 760 = .ok (.invokevirtual 91, 3) := by decide +kernel
theorem dL_law_763 : decode cL_law 763 = .ok (.aload_n 2, 1) := by decide +kernel
theorem dL_law_770 : decode cL_law 770 = .ok (.invokevirtual 94, 3) := by decide +kernel
theorem dL_law_773 : decode cL_law 773 = .ok (.if_icmp .eq 922, 3) := by decide +kernel
theorem dL_law_776 : decode cL_law 776 = .ok (.iconst 0, 1) := by decide +kernel
theorem dL_law_777 : decode cL_law 777 = .ok (.ireturn, 1) := by decide +kernel
theorem dL_law_778 : decode cL_law 778 = .ok (.aload_n 1, 1) := by decide +kernel
theorem dL_law_785 : decode cL_law 785 = .ok (.invokevirtual 95, 3) := by decide +kernel
theorem dL_law_788 : decode cL_law 788 = .ok (.aload_n 2, 1) := by decide +kernel
theorem dL_law_795 : decode cL_law 795 = .ok (.invokevirtual 98, 3) := by decide +kernel
theorem dL_law_798 : decode cL_law 798 = .ok (.if_icmp .eq 897, 3) := by decide +kernel
theorem dL_law_801 : decode cL_law 801 = .ok (.iconst 0, 1) := by decide +kernel
theorem dL_law_802 : decode cL_law 802 = .ok (.ireturn, 1) := by decide +kernel
theorem dL_law_803 : decode cL_law 803 = .ok (.aload_n 1, 1) := by decide +kernel
theorem dL_law_810 : decode cL_law 810 = .ok (.invokevirtual 99, 3) := by decide +kernel
theorem dL_law_813 : decode cL_law 813 = .ok (.aload_n 2, 1) := by decide +kernel
theorem dL_law_820 : decode cL_law 820 = .ok (.invokevirtual 102, 3) := by decide +kernel
theorem dL_law_823 : decode cL_law 823 = .ok (.if_icmp .eq 872, 3) := by decide +kernel
theorem dL_law_826 : decode cL_law 826 = .ok (.iconst 0, 1) := by decide +kernel
theorem dL_law_827 : decode cL_law 827 = .ok (.ireturn, 1) := by decide +kernel
theorem dL_law_828 : decode cL_law 828 = .ok (.aload_n 1, 1) := by decide +kernel
theorem dL_law_829 : decode cL_law 829 = .ok (.invokevirtual 103, 3) := by decide +kernel
theorem dL_law_832 : decode cL_law 832 = .ok (.aload_n 2, 1) := by decide +kernel
theorem dL_law_833 : decode cL_law 833 = .ok (.invokevirtual 106, 3) := by decide +kernel
theorem dL_law_836 : decode cL_law 836 = .ok (.if_icmp .eq 859, 3) := by decide +kernel
theorem dL_law_839 : decode cL_law 839 = .ok (.iconst 0, 1) := by decide +kernel
theorem dL_law_840 : decode cL_law 840 = .ok (.ireturn, 1) := by decide +kernel
theorem dL_law_841 : decode cL_law 841 = .ok (.aload_n 1, 1) := by decide +kernel
theorem dL_law_842 : decode cL_law 842 = .ok (.invokevirtual 107, 3) := by decide +kernel
theorem dL_law_845 : decode cL_law 845 = .ok (.aload_n 2, 1) := by decide +kernel
theorem dL_law_846 : decode cL_law 846 = .ok (.invokevirtual 110, 3) := by decide +kernel
theorem dL_law_849 : decode cL_law 849 = .ok (.if_icmp .eq 846, 3) := by decide +kernel
theorem dL_law_852 : decode cL_law 852 = .ok (.iconst 0, 1) := by decide +kernel
theorem dL_law_853 : decode cL_law 853 = .ok (.ireturn, 1) := by decide +kernel
theorem dL_law_854 : decode cL_law 854 = .ok (.aload_n 1, 1) := by decide +kernel
theorem dL_law_855 : decode cL_law 855 = .ok (.invokevirtual 111, 3) := by decide +kernel
theorem dL_law_858 : decode cL_law 858 = .ok (.aload_n 2, 1) := by decide +kernel
theorem dL_law_859 : decode cL_law 859 = .ok (.invokevirtual 114, 3) := by decide +kernel
theorem dL_law_862 : decode cL_law 862 = .ok (.if_icmp .eq 833, 3) := by decide +kernel
theorem dL_law_865 : decode cL_law 865 = .ok (.iconst 0, 1) := by decide +kernel
theorem dL_law_866 : decode cL_law 866 = .ok (.ireturn, 1) := by decide +kernel
theorem dL_law_867 : decode cL_law 867 = .ok (.aload_n 1, 1) := by decide +kernel
theorem dL_law_880 : decode cL_law 880 = .ok (.invokevirtual 115, 3) := by decide +kernel
theorem dL_law_883 : decode cL_law 883 = .ok (.aload_n 2, 1) := by decide +kernel
theorem dL_law_896 : decode cL_law 896 = .ok (.invokevirtual 118, 3) := by decide +kernel
theorem dL_law_899 : decode cL_law 899 = .ok (.if_icmp .eq 796, 3) := by decide +kernel
theorem dL_law_902 : decode cL_law 902 = .ok (.iconst 0, 1) := by decide +kernel
theorem dL_law_903 : decode cL_law 903 = .ok (.ireturn, 1) := by decide +kernel
theorem dL_law_904 : decode cL_law 904 = .ok (.aload_n 1, 1) := by decide +kernel
theorem dL_law_911 : decode cL_law 911 = .ok (.invokevirtual 119, 3) := by decide +kernel
theorem dL_law_914 : decode cL_law 914 = .ok (.aload_n 2, 1) := by decide +kernel
theorem dL_law_921 : decode cL_law 921 = .ok (.invokevirtual 122, 3) := by decide +kernel
theorem dL_law_924 : decode cL_law 924 = .ok (.if_icmp .eq 771, 3) := by decide +kernel
theorem dL_law_927 : decode cL_law 927 = .ok (.iconst 0, 1) := by decide +kernel
theorem dL_law_928 : decode cL_law 928 = .ok (.ireturn, 1) := by decide +kernel
theorem dL_law_929 : decode cL_law 929 = .ok (.aload_n 1, 1) := by decide +kernel
theorem dL_law_930 : decode cL_law 930 = .ok (.invokevirtual 123, 3) := by decide +kernel
theorem dL_law_933 : decode cL_law 933 = .ok (.aload_n 2, 1) := by decide +kernel
theorem dL_law_934 : decode cL_law 934 = .ok (.invokevirtual 126, 3) := by decide +kernel
theorem dL_law_937 : decode cL_law 937 = .ok (.if_icmp .eq 758, 3) := by decide +kernel
theorem dL_law_940 : decode cL_law 940 = .ok (.iconst 0, 1) := by decide +kernel
theorem dL_law_941 : decode cL_law 941 = .ok (.ireturn, 1) := by decide +kernel
theorem dL_law_942 : decode cL_law 942 = .ok (.aload_n 1, 1) := by decide +kernel
theorem dL_law_949 : decode cL_law 949 = .ok (.invokevirtual 127, 3) := by decide +kernel
theorem dL_law_952 : decode cL_law 952 = .ok (.aload_n 2, 1) := by decide +kernel
theorem dL_law_959 : decode cL_law 959 = .ok (.invokevirtual 130, 3) := by decide +kernel
theorem dL_law_962 : decode cL_law 962 = .ok (.if_icmp .eq 733, 3) := by decide +kernel
theorem dL_law_965 : decode cL_law 965 = .ok (.iconst 0, 1) := by decide +kernel
theorem dL_law_966 : decode cL_law 966 = .ok (.ireturn, 1) := by decide +kernel
theorem dL_law_967 : decode cL_law 967 = .ok (.aload_n 1, 1) := by decide +kernel
theorem dL_law_974 : decode cL_law 974 = .ok (.invokevirtual 131, 3) := by decide +kernel
theorem dL_law_977 : decode cL_law 977 = .ok (.aload_n 2, 1) := by decide +kernel
theorem dL_law_984 : decode cL_law 984 = .ok (.invokevirtual 134, 3) := by decide +kernel
theorem dL_law_987 : decode cL_law 987 = .ok (.if_icmp .eq 708, 3) := by decide +kernel
theorem dL_law_990 : decode cL_law 990 = .ok (.iconst 0, 1) := by decide +kernel
theorem dL_law_991 : decode cL_law 991 = .ok (.ireturn, 1) := by decide +kernel
theorem dL_law_992 : decode cL_law 992 = .ok (.aload_n 1, 1) := by decide +kernel
theorem dL_law_993 : decode cL_law 993 = .ok (.invokevirtual 135, 3) := by decide +kernel
theorem dL_law_996 : decode cL_law 996 = .ok (.aload_n 2, 1) := by decide +kernel
theorem dL_law_997 : decode cL_law 997 = .ok (.invokevirtual 138, 3) := by decide +kernel
theorem dL_law_1000 : decode cL_law 1000 = .ok (.if_icmp .eq 695, 3) := by decide +kernel
theorem dL_law_1003 : decode cL_law 1003 = .ok (.iconst 0, 1) := by decide +kernel
theorem dL_law_1004 : decode cL_law 1004 = .ok (.ireturn, 1) := by decide +kernel
theorem dL_law_1005 : decode cL_law 1005 = .ok (.aload_n 1, 1) := by decide +kernel
theorem dL_law_1006 : decode cL_law 1006 = .ok (.invokevirtual 139, 3) := by decide +kernel
theorem dL_law_1009 : decode cL_law 1009 = .ok (.aload_n 2, 1) := by decide +kernel
theorem dL_law_1010 : decode cL_law 1010 = .ok (.invokevirtual 142, 3) := by decide +kernel
theorem dL_law_1013 : decode cL_law 1013 = .ok (.if_icmp .eq 682, 3) := by decide +kernel
theorem dL_law_1016 : decode cL_law 1016 = .ok (.iconst 0, 1) := by decide +kernel
theorem dL_law_1017 : decode cL_law 1017 = .ok (.ireturn, 1) := by decide +kernel
theorem dL_law_1018 : decode cL_law 1018 = .ok (.aload_n 1, 1) := by decide +kernel
theorem dL_law_1025 : decode cL_law 1025 = .ok (.invokevirtual 143, 3) := by decide +kernel
theorem dL_law_1028 : decode cL_law 1028 = .ok (.aload_n 2, 1) := by decide +kernel
theorem dL_law_1035 : decode cL_law 1035 = .ok (.invokevirtual 146, 3) := by decide +kernel
theorem dL_law_1038 : decode cL_law 1038 = .ok (.if_icmp .eq 657, 3) := by decide +kernel
theorem dL_law_1041 : decode cL_law 1041 = .ok (.iconst 0, 1) := by decide +kernel
theorem dL_law_1042 : decode cL_law 1042 = .ok (.ireturn, 1) := by decide +kernel
theorem dL_law_1043 : decode cL_law 1043 = .ok (.aload_n 1, 1) := by decide +kernel
theorem dL_law_1044 : decode cL_law 1044 = .ok (.invokevirtual 147, 3) := by decide +kernel
theorem dL_law_1047 : decode cL_law 1047 = .ok (.aload_n 2, 1) := by decide +kernel
theorem dL_law_1048 : decode cL_law 1048 = .ok (.invokevirtual 150, 3) := by decide +kernel
theorem dL_law_1051 : decode cL_law 1051 = .ok (.if_icmp .eq 644, 3) := by decide +kernel
theorem dL_law_1054 : decode cL_law 1054 = .ok (.iconst 0, 1) := by decide +kernel
theorem dL_law_1055 : decode cL_law 1055 = .ok (.ireturn, 1) := by decide +kernel
theorem dL_law_1056 : decode cL_law 1056 = .ok (.aload_n 1, 1) := by decide +kernel
theorem dL_law_1089 : decode cL_law 1089 = .ok (.invokevirtual 151, 3) := by decide +kernel
theorem dL_law_1092 : decode cL_law 1092 = .ok (.aload_n 2, 1) := by decide +kernel
theorem dL_law_1125 : decode cL_law 1125 = .ok (.invokevirtual 155, 3) := by decide +kernel
theorem dL_law_1128 : decode cL_law 1128 = .ok (.if_icmp .eq 567, 3) := by decide +kernel
theorem dL_law_1131 : decode cL_law 1131 = .ok (.iconst 0, 1) := by decide +kernel
theorem dL_law_1132 : decode cL_law 1132 = .ok (.ireturn, 1) := by decide +kernel
theorem dL_law_1133 : decode cL_law 1133 = .ok (.aload_n 1, 1) := by decide +kernel
theorem dL_law_1140 : decode cL_law 1140 = .ok (.invokevirtual 156, 3) := by decide +kernel
theorem dL_law_1143 : decode cL_law 1143 = .ok (.aload_n 2, 1) := by decide +kernel
theorem dL_law_1150 : decode cL_law 1150 = .ok (.invokevirtual 159, 3) := by decide +kernel
theorem dL_law_1153 : decode cL_law 1153 = .ok (.if_icmp .eq 542, 3) := by decide +kernel
theorem dL_law_1156 : decode cL_law 1156 = .ok (.iconst 0, 1) := by decide +kernel
theorem dL_law_1157 : decode cL_law 1157 = .ok (.ireturn, 1) := by decide +kernel
theorem dL_law_1158 : decode cL_law 1158 = .ok (.aload_n 1, 1) := by decide +kernel
theorem dL_law_1165 : decode cL_law 1165 = .ok (.invokevirtual 160, 3) := by decide +kernel
theorem dL_law_1168 : decode cL_law 1168 = .ok (.aload_n 2, 1) := by decide +kernel
theorem dL_law_1175 : decode cL_law 1175 = .ok (.invokevirtual 163, 3) := by decide +kernel
theorem dL_law_1178 : decode cL_law 1178 = .ok (.if_icmp .eq 517, 3) := by decide +kernel
theorem dL_law_1181 : decode cL_law 1181 = .ok (.iconst 0, 1) := by decide +kernel
theorem dL_law_1182 : decode cL_law 1182 = .ok (.ireturn, 1) := by decide +kernel
theorem dL_law_1183 : decode cL_law 1183 = .ok (.aload_n 1, 1) := by decide +kernel
theorem dL_law_1210 : decode cL_law 1210 = .ok (.invokevirtual 164, 3) := by decide +kernel
theorem dL_law_1213 : decode cL_law 1213 = .ok (.aload_n 2, 1) := by decide +kernel
theorem dL_law_1240 : decode cL_law 1240 = .ok (.invokevirtual 168, 3) := by decide +kernel
theorem dL_law_1243 : decode cL_law 1243 = .ok (.lcmp, 1) := by decide +kernel
theorem dL_law_1244 : decode cL_law 1244 = .ok (.ifCond .eq 451, 3) := by decide +kernel
theorem dL_law_1247 : decode cL_law 1247 = .ok (.iconst 0, 1) := by decide +kernel
theorem dL_law_1248 : decode cL_law 1248 = .ok (.ireturn, 1) := by decide +kernel
theorem dL_law_1249 : decode cL_law 1249 = .ok (.aload_n 1, 1) := by decide +kernel
theorem dL_law_1270 : decode cL_law 1270 = .ok (.invokevirtual 169, 3) := by decide +kernel
theorem dL_law_1273 : decode cL_law 1273 = .ok (.aload_n 2, 1) := by decide +kernel
theorem dL_law_1294 : decode cL_law 1294 = .ok (.invokevirtual 173, 3) := by decide +kernel
theorem dL_law_1297 : decode cL_law 1297 = .ok (.lcmp, 1) := by decide +kernel
theorem dL_law_1298 : decode cL_law 1298 = .ok (.ifCond .eq 397, 3) := by decide +kernel
theorem dL_law_1301 : decode cL_law 1301 = .ok (.iconst 0, 1) := by decide +kernel
theorem dL_law_1302 : decode cL_law 1302 = .ok (.ireturn, 1) := by decide +kernel
theorem dL_law_1303 : decode cL_law 1303 = .ok (.aload_n 1, 1) := by decide +kernel
theorem dL_law_1322 : decode cL_law 1322 = .ok (.invokevirtual 174, 3) := by decide +kernel
theorem dL_law_1325 : decode cL_law 1325 = .ok (.aload_n 2, 1) := by decide +kernel
theorem dL_law_1344 : decode cL_law 1344 = .ok (.invokevirtual 177, 3) := by decide +kernel
theorem dL_law_1347 : decode cL_law 1347 = .ok (.if_icmp .eq 348, 3) := by decide +kernel
theorem dL_law_1350 : decode cL_law 1350 = .ok (.iconst 0, 1) := by decide +kernel
theorem dL_law_1351 : decode cL_law 1351 = .ok (.ireturn, 1) := by decide +kernel
theorem dL_law_1352 : decode cL_law 1352 = .ok (.aload_n 1, 1) := by decide +kernel
theorem dL_law_1365 : decode cL_law 1365 = .ok (.invokevirtual 178, 3) := by decide +kernel
theorem dL_law_1368 : decode cL_law 1368 = .ok (.aload_n 2, 1) := by decide +kernel
theorem dL_law_1381 : decode cL_law 1381 = .ok (.invokevirtual 181, 3) := by decide +kernel
theorem dL_law_1384 : decode cL_law 1384 = .ok (.if_icmp .eq 311, 3) := by decide +kernel
theorem dL_law_1387 : decode cL_law 1387 = .ok (.iconst 0, 1) := by decide +kernel
theorem dL_law_1388 : decode cL_law 1388 = .ok (.ireturn, 1) := by decide +kernel
theorem dL_law_1389 : decode cL_law 1389 = .ok (.aload_n 1, 1) := by decide +kernel
theorem dL_law_1402 : decode cL_law 1402 = .ok (.invokevirtual 182, 3) := by decide +kernel
theorem dL_law_1405 : decode cL_law 1405 = .ok (.aload_n 2, 1) := by decide +kernel
theorem dL_law_1418 : decode cL_law 1418 = .ok (.invokevirtual 185, 3) := by decide +kernel
theorem dL_law_1421 : decode cL_law 1421 = .ok (.if_icmp .eq 274, 3) := by decide +kernel
theorem dL_law_1424 : decode cL_law 1424 = .ok (.iconst 0, 1) := by decide +kernel
theorem dL_law_1425 : decode cL_law 1425 = .ok (.ireturn, 1) := by decide +kernel
theorem dL_law_1426 : decode cL_law 1426 = .ok (.aload_n 1, 1) := by decide +kernel
theorem dL_law_1439 : decode cL_law 1439 = .ok (.invokevirtual 186, 3) := by decide +kernel
theorem dL_law_1442 : decode cL_law 1442 = .ok (.aload_n 2, 1) := by decide +kernel
theorem dL_law_1455 : decode cL_law 1455 = .ok (.invokevirtual 190, 3) := by decide +kernel
theorem dL_law_1458 : decode cL_law 1458 = .ok (.if_icmp .eq 237, 3) := by decide +kernel
theorem dL_law_1461 : decode cL_law 1461 = .ok (.iconst 0, 1) := by decide +kernel
theorem dL_law_1462 : decode cL_law 1462 = .ok (.ireturn, 1) := by decide +kernel
theorem dL_law_1463 : decode cL_law 1463 = .ok (.aload_n 1, 1) := by decide +kernel
theorem dL_law_1476 : decode cL_law 1476 = .ok (.invokevirtual 191, 3) := by decide +kernel
theorem dL_law_1479 : decode cL_law 1479 = .ok (.aload_n 2, 1) := by decide +kernel
theorem dL_law_1492 : decode cL_law 1492 = .ok (.invokevirtual 194, 3) := by decide +kernel
theorem dL_law_1495 : decode cL_law 1495 = .ok (.if_icmp .eq 200, 3) := by decide +kernel
theorem dL_law_1498 : decode cL_law 1498 = .ok (.iconst 0, 1) := by decide +kernel
theorem dL_law_1499 : decode cL_law 1499 = .ok (.ireturn, 1) := by decide +kernel
theorem dL_law_1500 : decode cL_law 1500 = .ok (.aload_n 1, 1) := by decide +kernel
theorem dL_law_1507 : decode cL_law 1507 = .ok (.invokevirtual 195, 3) := by decide +kernel
theorem dL_law_1510 : decode cL_law 1510 = .ok (.aload_n 2, 1) := by decide +kernel
theorem dL_law_1517 : decode cL_law 1517 = .ok (.invokevirtual 198, 3) := by decide +kernel
theorem dL_law_1520 : decode cL_law 1520 = .ok (.if_icmp .eq 175, 3) := by decide +kernel
theorem dL_law_1523 : decode cL_law 1523 = .ok (.iconst 0, 1) := by decide +kernel
theorem dL_law_1524 : decode cL_law 1524 = .ok (.ireturn, 1) := by decide +kernel
theorem dL_law_1525 : decode cL_law 1525 = .ok (.aload_n 1, 1) := by decide +kernel
theorem dL_law_1532 : decode cL_law 1532 = .ok (.invokevirtual 199, 3) := by decide +kernel
theorem dL_law_1535 : decode cL_law 1535 = .ok (.aload_n 2, 1) := by decide +kernel
theorem dL_law_1542 : decode cL_law 1542 = .ok (.invokevirtual 203, 3) := by decide +kernel
theorem dL_law_1545 : decode cL_law 1545 = .ok (.if_icmp .eq 150, 3) := by decide +kernel
theorem dL_law_1548 : decode cL_law 1548 = .ok (.iconst 0, 1) := by decide +kernel
theorem dL_law_1549 : decode cL_law 1549 = .ok (.ireturn, 1) := by decide +kernel
theorem dL_law_1550 : decode cL_law 1550 = .ok (.aload_n 1, 1) := by decide +kernel
theorem dL_law_1551 : decode cL_law 1551 = .ok (.invokevirtual 204, 3) := by decide +kernel
theorem dL_law_1554 : decode cL_law 1554 = .ok (.aload_n 2, 1) := by decide +kernel
theorem dL_law_1555 : decode cL_law 1555 = .ok (.invokevirtual 208, 3) := by decide +kernel
theorem dL_law_1558 : decode cL_law 1558 = .ok (.if_icmp .eq 137, 3) := by decide +kernel
theorem dL_law_1561 : decode cL_law 1561 = .ok (.iconst 0, 1) := by decide +kernel
theorem dL_law_1562 : decode cL_law 1562 = .ok (.ireturn, 1) := by decide +kernel
theorem dL_law_1563 : decode cL_law 1563 = .ok (.aload_n 1, 1) := by decide +kernel
theorem dL_law_1564 : decode cL_law 1564 = .ok (.invokevirtual 209, 3) := by decide +kernel
theorem dL_law_1567 : decode cL_law 1567 = .ok (.aload_n 2, 1) := by decide +kernel
theorem dL_law_1568 : decode cL_law 1568 = .ok (.invokevirtual 212, 3) := by decide +kernel
theorem dL_law_1571 : decode cL_law 1571 = .ok (.if_icmp .eq 124, 3) := by decide +kernel
theorem dL_law_1574 : decode cL_law 1574 = .ok (.iconst 0, 1) := by decide +kernel
theorem dL_law_1575 : decode cL_law 1575 = .ok (.ireturn, 1) := by decide +kernel
theorem dL_law_1576 : decode cL_law 1576 = .ok (.aload_n 1, 1) := by decide +kernel
theorem dL_law_1583 : decode cL_law 1583 = .ok (.invokevirtual 213, 3) := by decide +kernel
theorem dL_law_1586 : decode cL_law 1586 = .ok (.aload_n 2, 1) := by decide +kernel
theorem dL_law_1593 : decode cL_law 1593 = .ok (.invokevirtual 216, 3) := by decide +kernel
theorem dL_law_1596 : decode cL_law 1596 = .ok (.if_icmp .eq 99, 3) := by decide +kernel
theorem dL_law_1599 : decode cL_law 1599 = .ok (.iconst 0, 1) := by decide +kernel
theorem dL_law_1600 : decode cL_law 1600 = .ok (.ireturn, 1) := by decide +kernel
theorem dL_law_1601 : decode cL_law 1601 = .ok (.aload_n 1, 1) := by decide +kernel
theorem dL_law_1602 : decode cL_law 1602 = .ok (.aload_n 0, 1) := by decide +kernel
theorem dL_law_1603 : decode cL_law 1603 = .ok (.iload 4, 2) := by decide +kernel
theorem dL_law_1605 : decode cL_law 1605 = .ok (.iconst 1, 1) := by decide +kernel
theorem dL_law_1606 : decode cL_law 1606 = .ok (.iadd, 1) := by decide +kernel
theorem dL_law_1607 : decode cL_law 1607 = .ok (.iaload, 1) := by decide +kernel
theorem dL_law_1608 : decode cL_law 1608 = .ok (.aload_n 3, 1) := by decide +kernel
theorem dL_law_1609 : decode cL_law 1609 = .ok (.invokestatic 217, 3) := by decide +kernel
theorem dL_law_1612 : decode cL_law 1612 = .ok (.istore 5, 2) := by decide +kernel
theorem dL_law_1614 : decode cL_law 1614 = .ok (.aload_n 2, 1) := by decide +kernel
theorem dL_law_1615 : decode cL_law 1615 = .ok (.aload_n 0, 1) := by decide +kernel
theorem dL_law_1616 : decode cL_law 1616 = .ok (.iload 4, 2) := by decide +kernel
theorem dL_law_1618 : decode cL_law 1618 = .ok (.iconst 1, 1) := by decide +kernel
theorem dL_law_1619 : decode cL_law 1619 = .ok (.iadd, 1) := by decide +kernel
theorem dL_law_1620 : decode cL_law 1620 = .ok (.iaload, 1) := by decide +kernel
theorem dL_law_1621 : decode cL_law 1621 = .ok (.invokevirtual 222, 3) := by decide +kernel
theorem dL_law_1624 : decode cL_law 1624 = .ok (.istore 6, 2) := by decide +kernel
theorem dL_law_1626 : decode cL_law 1626 = .ok (.aload_n 2, 1) := by decide +kernel
theorem dL_law_1627 : decode cL_law 1627 = .ok (.invokevirtual 223, 3) := by decide +kernel
theorem dL_law_1630 : decode cL_law 1630 = .ok (.iload 5, 2) := by decide +kernel
theorem dL_law_1632 : decode cL_law 1632 = .ok (.if_icmp .eq 5, 3) := by decide +kernel
theorem dL_law_1635 : decode cL_law 1635 = .ok (.iconst 0, 1) := by decide +kernel
theorem dL_law_1636 : decode cL_law 1636 = .ok (.ireturn, 1) := by decide +kernel
theorem dL_law_1637 : decode cL_law 1637 = .ok (.iload 5, 2) := by decide +kernel
theorem dL_law_1639 : decode cL_law 1639 = .ok (.ifCond .ne 15, 3) := by decide +kernel
theorem dL_law_1642 : decode cL_law 1642 = .ok (.aload_n 3, 1) := by decide +kernel
theorem dL_law_1643 : decode cL_law 1643 = .ok (.iconst 0, 1) := by decide +kernel
theorem dL_law_1644 : decode cL_law 1644 = .ok (.laload, 1) := by decide +kernel
theorem dL_law_1645 : decode cL_law 1645 = .ok (.iload 6, 2) := by decide +kernel
theorem dL_law_1647 : decode cL_law 1647 = .ok (.i2l, 1) := by decide +kernel
theorem dL_law_1648 : decode cL_law 1648 = .ok (.lcmp, 1) := by decide +kernel
theorem dL_law_1649 : decode cL_law 1649 = .ok (.ifCond .eq 5, 3) := by decide +kernel
theorem dL_law_1652 : decode cL_law 1652 = .ok (.iconst 0, 1) := by decide +kernel
theorem dL_law_1653 : decode cL_law 1653 = .ok (.ireturn, 1) := by decide +kernel
theorem dL_law_1654 : decode cL_law 1654 = .ok (.goto 41, 3) := by decide +kernel
theorem dL_law_1657 : decode cL_law 1657 = .ok (.aload_n 1, 1) := by decide +kernel
theorem dL_law_1664 : decode cL_law 1664 = .ok (.invokevirtual 226, 3) := by decide +kernel
theorem dL_law_1667 : decode cL_law 1667 = .ok (.aload_n 2, 1) := by decide +kernel
theorem dL_law_1674 : decode cL_law 1674 = .ok (.invokevirtual 229, 3) := by decide +kernel
theorem dL_law_1677 : decode cL_law 1677 = .ok (.if_icmp .eq 18, 3) := by decide +kernel
theorem dL_law_1680 : decode cL_law 1680 = .ok (.iconst 0, 1) := by decide +kernel
theorem dL_law_1681 : decode cL_law 1681 = .ok (.ireturn, 1) := by decide +kernel
theorem dL_law_1682 : decode cL_law 1682 = .ok (.aload_n 1, 1) := by decide +kernel
theorem dL_law_1683 : decode cL_law 1683 = .ok (.invokevirtual 230, 3) := by decide +kernel
theorem dL_law_1686 : decode cL_law 1686 = .ok (.aload_n 2, 1) := by decide +kernel
theorem dL_law_1687 : decode cL_law 1687 = .ok (.invokevirtual 233, 3) := by decide +kernel
theorem dL_law_1690 : decode cL_law 1690 = .ok (.if_icmp .eq 5, 3) := by decide +kernel
theorem dL_law_1693 : decode cL_law 1693 = .ok (.iconst 0, 1) := by decide +kernel
theorem dL_law_1694 : decode cL_law 1694 = .ok (.ireturn, 1) := by decide +kernel
theorem dL_law_1695 : decode cL_law 1695 = .ok (.iinc 4 6, 3) := by decide +kernel
theorem dL_law_1698 : decode cL_law 1698 = .ok (.goto (-1675), 3) := by decide +kernel
theorem dL_law_1701 : decode cL_law 1701 = .ok (.iconst 1, 1) := by decide +kernel
theorem dL_law_1702 : decode cL_law 1702 = .ok (.ireturn, 1) := by decide +kernel
theorem ll_257 : l_ld 1 257 := ⟨by decide +kernel, by decide +kernel, by decide +kernel, by decide +kernel, by decide +kernel⟩
theorem ll_263 : l_ld 2 263 := ⟨by decide +kernel, by decide +kernel, by decide +kernel, by decide +kernel, by decide +kernel⟩
theorem ll_269 : l_ld 3 269 := ⟨by decide +kernel, by decide +kernel, by decide +kernel, by decide +kernel, by decide +kernel⟩
theorem ll_275 : l_ld 4 275 := ⟨by decide +kernel, by decide +kernel, by decide +kernel, by decide +kernel, by decide +kernel⟩
theorem ll_281 : l_ld 5 281 := ⟨by decide +kernel, by decide +kernel, by decide +kernel, by decide +kernel, by decide +kernel⟩
theorem ll_291 : l_ld 1 291 := ⟨by decide +kernel, by decide +kernel, by decide +kernel, by decide +kernel, by decide +kernel⟩
theorem ll_297 : l_ld 2 297 := ⟨by decide +kernel, by decide +kernel, by decide +kernel, by decide +kernel, by decide +kernel⟩
theorem ll_303 : l_ld 3 303 := ⟨by decide +kernel, by decide +kernel, by decide +kernel, by decide +kernel, by decide +kernel⟩
theorem ll_309 : l_ld 4 309 := ⟨by decide +kernel, by decide +kernel, by decide +kernel, by decide +kernel, by decide +kernel⟩
theorem ll_315 : l_ld 5 315 := ⟨by decide +kernel, by decide +kernel, by decide +kernel, by decide +kernel, by decide +kernel⟩
theorem ll_381 : l_ld 1 381 := ⟨by decide +kernel, by decide +kernel, by decide +kernel, by decide +kernel, by decide +kernel⟩
theorem ll_387 : l_ld 2 387 := ⟨by decide +kernel, by decide +kernel, by decide +kernel, by decide +kernel, by decide +kernel⟩
theorem ll_397 : l_ld 1 397 := ⟨by decide +kernel, by decide +kernel, by decide +kernel, by decide +kernel, by decide +kernel⟩
theorem ll_403 : l_ld 2 403 := ⟨by decide +kernel, by decide +kernel, by decide +kernel, by decide +kernel, by decide +kernel⟩
theorem ll_418 : l_ld 1 418 := ⟨by decide +kernel, by decide +kernel, by decide +kernel, by decide +kernel, by decide +kernel⟩
theorem ll_424 : l_ld 2 424 := ⟨by decide +kernel, by decide +kernel, by decide +kernel, by decide +kernel, by decide +kernel⟩
theorem ll_434 : l_ld 1 434 := ⟨by decide +kernel, by decide +kernel, by decide +kernel, by decide +kernel, by decide +kernel⟩
theorem ll_440 : l_ld 2 440 := ⟨by decide +kernel, by decide +kernel, by decide +kernel, by decide +kernel, by decide +kernel⟩
theorem ll_468 : l_ld 1 468 := ⟨by decide +kernel, by decide +kernel, by decide +kernel, by decide +kernel, by decide +kernel⟩
theorem ll_478 : l_ld 1 478 := ⟨by decide +kernel, by decide +kernel, by decide +kernel, by decide +kernel, by decide +kernel⟩
theorem ll_493 : l_ld 1 493 := ⟨by decide +kernel, by decide +kernel, by decide +kernel, by decide +kernel, by decide +kernel⟩
theorem ll_503 : l_ld 1 503 := ⟨by decide +kernel, by decide +kernel, by decide +kernel, by decide +kernel, by decide +kernel⟩
theorem ll_518 : l_ld 1 518 := ⟨by decide +kernel, by decide +kernel, by decide +kernel, by decide +kernel, by decide +kernel⟩
theorem ll_528 : l_ld 1 528 := ⟨by decide +kernel, by decide +kernel, by decide +kernel, by decide +kernel, by decide +kernel⟩
theorem ll_543 : l_ld 1 543 := ⟨by decide +kernel, by decide +kernel, by decide +kernel, by decide +kernel, by decide +kernel⟩
theorem ll_549 : l_ld 2 549 := ⟨by decide +kernel, by decide +kernel, by decide +kernel, by decide +kernel, by decide +kernel⟩
theorem ll_559 : l_ld 1 559 := ⟨by decide +kernel, by decide +kernel, by decide +kernel, by decide +kernel, by decide +kernel⟩
theorem ll_565 : l_ld 2 565 := ⟨by decide +kernel, by decide +kernel, by decide +kernel, by decide +kernel, by decide +kernel⟩
theorem ll_580 : l_ld 1 580 := ⟨by decide +kernel, by decide +kernel, by decide +kernel, by decide +kernel, by decide +kernel⟩
theorem ll_586 : l_ld 2 586 := ⟨by decide +kernel, by decide +kernel, by decide +kernel, by decide +kernel, by decide +kernel⟩
theorem ll_592 : l_ld 3 592 := ⟨by decide +kernel, by decide +kernel, by decide +kernel, by decide +kernel, by decide +kernel⟩
theorem ll_602 : l_ld 1 602 := ⟨by decide +kernel, by decide +kernel, by decide +kernel, by decide +kernel, by decide +kernel⟩
theorem ll_608 : l_ld 2 608 := ⟨by decide +kernel, by decide +kernel, by decide +kernel, by decide +kernel, by decide +kernel⟩
theorem ll_614 : l_ld 3 614 := ⟨by decide +kernel, by decide +kernel, by decide +kernel, by decide +kernel, by decide +kernel⟩
theorem ll_629 : l_ld 1 629 := ⟨by decide +kernel, by decide +kernel, by decide +kernel, by decide +kernel, by decide +kernel⟩
theorem ll_639 : l_ld 1 639 := ⟨by decide +kernel, by decide +kernel, by decide +kernel, by decide +kernel, by decide +kernel⟩
theorem ll_654 : l_ld 1 654 := ⟨by decide +kernel, by decide +kernel, by decide +kernel, by decide +kernel, by decide +kernel⟩
theorem ll_664 : l_ld 1 664 := ⟨by decide +kernel, by decide +kernel, by decide +kernel, by decide +kernel, by decide +kernel⟩
theorem ll_679 : l_ld 1 679 := ⟨by decide +kernel, by decide +kernel, by decide +kernel, by decide +kernel, by decide +kernel⟩
theorem ll_689 : l_ld 1 689 := ⟨by decide +kernel, by decide +kernel, by decide +kernel, by decide +kernel, by decide +kernel⟩
theorem ll_704 : l_ld 1 704 := ⟨by decide +kernel, by decide +kernel, by decide +kernel, by decide +kernel, by decide +kernel⟩
theorem ll_714 : l_ld 1 714 := ⟨by decide +kernel, by decide +kernel, by decide +kernel, by decide +kernel, by decide +kernel⟩
theorem ll_729 : l_ld 1 729 := ⟨by decide +kernel, by decide +kernel, by decide +kernel, by decide +kernel, by decide +kernel⟩
theorem ll_739 : l_ld 1 739 := ⟨by decide +kernel, by decide +kernel, by decide +kernel, by decide +kernel, by decide +kernel⟩
theorem ll_754 : l_ld 1 754 := ⟨by decide +kernel, by decide +kernel, by decide +kernel, by decide +kernel, by decide +kernel⟩
theorem ll_764 : l_ld 1 764 := ⟨by decide +kernel, by decide +kernel, by decide +kernel, by decide +kernel, by decide +kernel⟩
theorem ll_779 : l_ld 1 779 := ⟨by decide +kernel, by decide +kernel, by decide +kernel, by decide +kernel, by decide +kernel⟩
theorem ll_789 : l_ld 1 789 := ⟨by decide +kernel, by decide +kernel, by decide +kernel, by decide +kernel, by decide +kernel⟩
theorem ll_804 : l_ld 1 804 := ⟨by decide +kernel, by decide +kernel, by decide +kernel, by decide +kernel, by decide +kernel⟩
theorem ll_814 : l_ld 1 814 := ⟨by decide +kernel, by decide +kernel, by decide +kernel, by decide +kernel, by decide +kernel⟩
theorem ll_868 : l_ld 1 868 := ⟨by decide +kernel, by decide +kernel, by decide +kernel, by decide +kernel, by decide +kernel⟩
theorem ll_874 : l_ld 2 874 := ⟨by decide +kernel, by decide +kernel, by decide +kernel, by decide +kernel, by decide +kernel⟩
theorem ll_884 : l_ld 1 884 := ⟨by decide +kernel, by decide +kernel, by decide +kernel, by decide +kernel, by decide +kernel⟩
theorem ll_890 : l_ld 2 890 := ⟨by decide +kernel, by decide +kernel, by decide +kernel, by decide +kernel, by decide +kernel⟩
theorem ll_905 : l_ld 1 905 := ⟨by decide +kernel, by decide +kernel, by decide +kernel, by decide +kernel, by decide +kernel⟩
theorem ll_915 : l_ld 1 915 := ⟨by decide +kernel, by decide +kernel, by decide +kernel, by decide +kernel, by decide +kernel⟩
theorem ll_943 : l_ld 1 943 := ⟨by decide +kernel, by decide +kernel, by decide +kernel, by decide +kernel, by decide +kernel⟩
theorem ll_953 : l_ld 1 953 := ⟨by decide +kernel, by decide +kernel, by decide +kernel, by decide +kernel, by decide +kernel⟩
theorem ll_968 : l_ld 1 968 := ⟨by decide +kernel, by decide +kernel, by decide +kernel, by decide +kernel, by decide +kernel⟩
theorem ll_978 : l_ld 1 978 := ⟨by decide +kernel, by decide +kernel, by decide +kernel, by decide +kernel, by decide +kernel⟩
theorem ll_1019 : l_ld 1 1019 := ⟨by decide +kernel, by decide +kernel, by decide +kernel, by decide +kernel, by decide +kernel⟩
theorem ll_1029 : l_ld 1 1029 := ⟨by decide +kernel, by decide +kernel, by decide +kernel, by decide +kernel, by decide +kernel⟩
theorem ll_1057 : l_ld 1 1057 := ⟨by decide +kernel, by decide +kernel, by decide +kernel, by decide +kernel, by decide +kernel⟩
theorem ll_1063 : l_ld 2 1063 := ⟨by decide +kernel, by decide +kernel, by decide +kernel, by decide +kernel, by decide +kernel⟩
theorem ll_1069 : l_ld 3 1069 := ⟨by decide +kernel, by decide +kernel, by decide +kernel, by decide +kernel, by decide +kernel⟩
theorem ll_1075 : l_ldz 4 1075 := ⟨⟨by decide +kernel, by decide +kernel, by decide +kernel, by decide +kernel, by decide +kernel⟩, by decide +kernel, by decide +kernel, by decide +kernel, by decide +kernel⟩
theorem ll_1093 : l_ld 1 1093 := ⟨by decide +kernel, by decide +kernel, by decide +kernel, by decide +kernel, by decide +kernel⟩
theorem ll_1099 : l_ld 2 1099 := ⟨by decide +kernel, by decide +kernel, by decide +kernel, by decide +kernel, by decide +kernel⟩
theorem ll_1105 : l_ld 3 1105 := ⟨by decide +kernel, by decide +kernel, by decide +kernel, by decide +kernel, by decide +kernel⟩
theorem ll_1111 : l_ldz 4 1111 := ⟨⟨by decide +kernel, by decide +kernel, by decide +kernel, by decide +kernel, by decide +kernel⟩, by decide +kernel, by decide +kernel, by decide +kernel, by decide +kernel⟩
theorem ll_1134 : l_ld 1 1134 := ⟨by decide +kernel, by decide +kernel, by decide +kernel, by decide +kernel, by decide +kernel⟩
theorem ll_1144 : l_ld 1 1144 := ⟨by decide +kernel, by decide +kernel, by decide +kernel, by decide +kernel, by decide +kernel⟩
theorem ll_1159 : l_ld 1 1159 := ⟨by decide +kernel, by decide +kernel, by decide +kernel, by decide +kernel, by decide +kernel⟩
theorem ll_1169 : l_ld 1 1169 := ⟨by decide +kernel, by decide +kernel, by decide +kernel, by decide +kernel, by decide +kernel⟩
theorem ll_1184 : l_ld 1 1184 := ⟨by decide +kernel, by decide +kernel, by decide +kernel, by decide +kernel, by decide +kernel⟩
theorem ll_1190 : l_ld 2 1190 := ⟨by decide +kernel, by decide +kernel, by decide +kernel, by decide +kernel, by decide +kernel⟩
theorem ll_1196 : l_ldz 3 1196 := ⟨⟨by decide +kernel, by decide +kernel, by decide +kernel, by decide +kernel, by decide +kernel⟩, by decide +kernel, by decide +kernel, by decide +kernel, by decide +kernel⟩
theorem ll_1214 : l_ld 1 1214 := ⟨by decide +kernel, by decide +kernel, by decide +kernel, by decide +kernel, by decide +kernel⟩
theorem ll_1220 : l_ld 2 1220 := ⟨by decide +kernel, by decide +kernel, by decide +kernel, by decide +kernel, by decide +kernel⟩
theorem ll_1226 : l_ldz 3 1226 := ⟨⟨by decide +kernel, by decide +kernel, by decide +kernel, by decide +kernel, by decide +kernel⟩, by decide +kernel, by decide +kernel, by decide +kernel, by decide +kernel⟩
theorem ll_1250 : l_ld 1 1250 := ⟨by decide +kernel, by decide +kernel, by decide +kernel, by decide +kernel, by decide +kernel⟩
theorem ll_1256 : l_ldz 2 1256 := ⟨⟨by decide +kernel, by decide +kernel, by decide +kernel, by decide +kernel, by decide +kernel⟩, by decide +kernel, by decide +kernel, by decide +kernel, by decide +kernel⟩
theorem ll_1274 : l_ld 1 1274 := ⟨by decide +kernel, by decide +kernel, by decide +kernel, by decide +kernel, by decide +kernel⟩
theorem ll_1280 : l_ldz 2 1280 := ⟨⟨by decide +kernel, by decide +kernel, by decide +kernel, by decide +kernel, by decide +kernel⟩, by decide +kernel, by decide +kernel, by decide +kernel, by decide +kernel⟩
theorem ll_1304 : l_ld 1 1304 := ⟨by decide +kernel, by decide +kernel, by decide +kernel, by decide +kernel, by decide +kernel⟩
theorem ll_1310 : l_ld 2 1310 := ⟨by decide +kernel, by decide +kernel, by decide +kernel, by decide +kernel, by decide +kernel⟩
theorem ll_1316 : l_ld 3 1316 := ⟨by decide +kernel, by decide +kernel, by decide +kernel, by decide +kernel, by decide +kernel⟩
theorem ll_1326 : l_ld 1 1326 := ⟨by decide +kernel, by decide +kernel, by decide +kernel, by decide +kernel, by decide +kernel⟩
theorem ll_1332 : l_ld 2 1332 := ⟨by decide +kernel, by decide +kernel, by decide +kernel, by decide +kernel, by decide +kernel⟩
theorem ll_1338 : l_ld 3 1338 := ⟨by decide +kernel, by decide +kernel, by decide +kernel, by decide +kernel, by decide +kernel⟩
theorem ll_1353 : l_ld 1 1353 := ⟨by decide +kernel, by decide +kernel, by decide +kernel, by decide +kernel, by decide +kernel⟩
theorem ll_1359 : l_ld 2 1359 := ⟨by decide +kernel, by decide +kernel, by decide +kernel, by decide +kernel, by decide +kernel⟩
theorem ll_1369 : l_ld 1 1369 := ⟨by decide +kernel, by decide +kernel, by decide +kernel, by decide +kernel, by decide +kernel⟩
theorem ll_1375 : l_ld 2 1375 := ⟨by decide +kernel, by decide +kernel, by decide +kernel, by decide +kernel, by decide +kernel⟩
theorem ll_1390 : l_ld 1 1390 := ⟨by decide +kernel, by decide +kernel, by decide +kernel, by decide +kernel, by decide +kernel⟩
theorem ll_1396 : l_ld 2 1396 := ⟨by decide +kernel, by decide +kernel, by decide +kernel, by decide +kernel, by decide +kernel⟩
theorem ll_1406 : l_ld 1 1406 := ⟨by decide +kernel, by decide +kernel, by decide +kernel, by decide +kernel, by decide +kernel⟩
theorem ll_1412 : l_ld 2 1412 := ⟨by decide +kernel, by decide +kernel, by decide +kernel, by decide +kernel, by decide +kernel⟩
theorem ll_1427 : l_ld 1 1427 := ⟨by decide +kernel, by decide +kernel, by decide +kernel, by decide +kernel, by decide +kernel⟩
theorem ll_1433 : l_ld 2 1433 := ⟨by decide +kernel, by decide +kernel, by decide +kernel, by decide +kernel, by decide +kernel⟩
theorem ll_1443 : l_ld 1 1443 := ⟨by decide +kernel, by decide +kernel, by decide +kernel, by decide +kernel, by decide +kernel⟩
theorem ll_1449 : l_ld 2 1449 := ⟨by decide +kernel, by decide +kernel, by decide +kernel, by decide +kernel, by decide +kernel⟩
theorem ll_1464 : l_ld 1 1464 := ⟨by decide +kernel, by decide +kernel, by decide +kernel, by decide +kernel, by decide +kernel⟩
theorem ll_1470 : l_ld 2 1470 := ⟨by decide +kernel, by decide +kernel, by decide +kernel, by decide +kernel, by decide +kernel⟩
theorem ll_1480 : l_ld 1 1480 := ⟨by decide +kernel, by decide +kernel, by decide +kernel, by decide +kernel, by decide +kernel⟩
theorem ll_1486 : l_ld 2 1486 := ⟨by decide +kernel, by decide +kernel, by decide +kernel, by decide +kernel, by decide +kernel⟩
theorem ll_1501 : l_ld 1 1501 := ⟨by decide +kernel, by decide +kernel, by decide +kernel, by decide +kernel, by decide +kernel⟩
theorem ll_1511 : l_ld 1 1511 := ⟨by decide +kernel, by decide +kernel, by decide +kernel, by decide +kernel, by decide +kernel⟩
theorem ll_1526 : l_ld 1 1526 := ⟨by decide +kernel, by decide +kernel, by decide +kernel, by decide +kernel, by decide +kernel⟩
theorem ll_1536 : l_ld 1 1536 := ⟨by decide +kernel, by decide +kernel, by decide +kernel, by decide +kernel, by decide +kernel⟩
theorem ll_1577 : l_ld 1 1577 := ⟨by decide +kernel, by decide +kernel, by decide +kernel, by decide +kernel, by decide +kernel⟩
theorem ll_1587 : l_ld 1 1587 := ⟨by decide +kernel, by decide +kernel, by decide +kernel, by decide +kernel, by decide +kernel⟩
theorem ll_1658 : l_ld 1 1658 := ⟨by decide +kernel, by decide +kernel, by decide +kernel, by decide +kernel, by decide +kernel⟩
theorem ll_1668 : l_ld 1 1668 := ⟨by decide +kernel, by decide +kernel, by decide +kernel, by decide +kernel, by decide +kernel⟩
theorem ll_330 : l_ld 1 330 := ⟨by decide +kernel, by decide +kernel, by decide +kernel, by decide +kernel, by decide +kernel⟩
theorem ll_340 : l_ld 1 340 := ⟨by decide +kernel, by decide +kernel, by decide +kernel, by decide +kernel, by decide +kernel⟩
theorem ll_1602 : l_ld 1 1602 := ⟨by decide +kernel, by decide +kernel, by decide +kernel, by decide +kernel, by decide +kernel⟩
theorem ll_1615 : l_ld 1 1615 := ⟨by decide +kernel, by decide +kernel, by decide +kernel, by decide +kernel, by decide +kernel⟩
theorem wd_468 : Cond.methodLink "TaleSharesLaw" 19 yX10_feed ∈ k_TB := k_tb 468 (by decide +kernel) rfl
theorem wd_1382 : Cond.methodLink "TaleSharesLaw" 23 yX12_feed ∈ k_TB := k_tb 1382 (by decide +kernel) rfl
theorem wd_736 : Cond.methodLink "TaleSharesLaw" 28 yX10_fault ∈ k_TB := k_tb 736 (by decide +kernel) rfl
theorem wd_1605 : Cond.methodLink "TaleSharesLaw" 32 yX12_fault ∈ k_TB := k_tb 1605 (by decide +kernel) rfl
theorem wd_740 : Cond.methodLink "TaleSharesLaw" 33 yX10_where ∈ k_TB := k_tb 740 (by decide +kernel) rfl
theorem wd_1609 : Cond.methodLink "TaleSharesLaw" 36 yX12_where ∈ k_TB := k_tb 1609 (by decide +kernel) rfl
theorem wd_744 : Cond.methodLink "TaleSharesLaw" 37 yX10_piece ∈ k_TB := k_tb 744 (by decide +kernel) rfl
theorem wd_1613 : Cond.methodLink "TaleSharesLaw" 41 yX12_piece ∈ k_TB := k_tb 1613 (by decide +kernel) rfl
theorem wd_772 : Cond.methodLink "TaleSharesLaw" 42 yX10_house ∈ k_TB := k_tb 772 (by decide +kernel) rfl
theorem wd_1621 : Cond.methodLink "TaleSharesLaw" 45 yX12_house ∈ k_TB := k_tb 1621 (by decide +kernel) rfl
theorem wd_797 : Cond.methodLink "TaleSharesLaw" 46 yX10_known ∈ k_TB := k_tb 797 (by decide +kernel) rfl
theorem wd_1653 : Cond.methodLink "TaleSharesLaw" 49 yX12_known ∈ k_TB := k_tb 1653 (by decide +kernel) rfl
theorem wd_805 : Cond.methodLink "TaleSharesLaw" 50 yX10_alone ∈ k_TB := k_tb 805 (by decide +kernel) rfl
theorem wd_1661 : Cond.methodLink "TaleSharesLaw" 53 yX12_alone ∈ k_TB := k_tb 1661 (by decide +kernel) rfl
theorem wd_811 : Cond.methodLink "TaleSharesLaw" 54 yX10_tales ∈ k_TB := k_tb 811 (by decide +kernel) rfl
theorem wd_1665 : Cond.methodLink "TaleSharesLaw" 57 yX12_tales ∈ k_TB := k_tb 1665 (by decide +kernel) rfl
theorem wd_827 : Cond.methodLink "TaleSharesLaw" 58 yX10_longest ∈ k_TB := k_tb 827 (by decide +kernel) rfl
theorem wd_1681 : Cond.methodLink "TaleSharesLaw" 61 yX12_longest ∈ k_TB := k_tb 1681 (by decide +kernel) rfl
theorem wd_836 : Cond.methodLink "TaleSharesLaw" 62 yX10_longestAt ∈ k_TB := k_tb 836 (by decide +kernel) rfl
theorem wd_1689 : Cond.methodLink "TaleSharesLaw" 65 yX12_longestAt ∈ k_TB := k_tb 1689 (by decide +kernel) rfl
theorem wd_845 : Cond.methodLink "TaleSharesLaw" 66 yX10_taleAt ∈ k_TB := k_tb 845 (by decide +kernel) rfl
theorem wd_1693 : Cond.methodLink "TaleSharesLaw" 70 yX12_taleAt ∈ k_TB := k_tb 1693 (by decide +kernel) rfl
theorem wd_850 : Cond.methodLink "TaleSharesLaw" 71 yX10_used ∈ k_TB := k_tb 850 (by decide +kernel) rfl
theorem wd_1697 : Cond.methodLink "TaleSharesLaw" 74 yX12_used ∈ k_TB := k_tb 1697 (by decide +kernel) rfl
theorem wd_858 : Cond.methodLink "TaleSharesLaw" 75 yX10_needed ∈ k_TB := k_tb 858 (by decide +kernel) rfl
theorem wd_1701 : Cond.methodLink "TaleSharesLaw" 78 yX12_needed ∈ k_TB := k_tb 1701 (by decide +kernel) rfl
theorem wd_867 : Cond.methodLink "TaleSharesLaw" 79 yX10_leftOver ∈ k_TB := k_tb 867 (by decide +kernel) rfl
theorem wd_1705 : Cond.methodLink "TaleSharesLaw" 82 yX12_leftOver ∈ k_TB := k_tb 1705 (by decide +kernel) rfl
theorem wd_872 : Cond.methodLink "TaleSharesLaw" 83 yX10_isTale ∈ k_TB := k_tb 872 (by decide +kernel) rfl
theorem wd_1712 : Cond.methodLink "TaleSharesLaw" 86 yX12_isTale ∈ k_TB := k_tb 1712 (by decide +kernel) rfl
theorem wd_880 : Cond.methodLink "TaleSharesLaw" 87 yX10_talesOf ∈ k_TB := k_tb 880 (by decide +kernel) rfl
theorem wd_1720 : Cond.methodLink "TaleSharesLaw" 90 yX12_talesOf ∈ k_TB := k_tb 1720 (by decide +kernel) rfl
theorem wd_884 : Cond.methodLink "TaleSharesLaw" 91 yX10_wanted ∈ k_TB := k_tb 884 (by decide +kernel) rfl
theorem wd_1724 : Cond.methodLink "TaleSharesLaw" 94 yX12_wanted ∈ k_TB := k_tb 1724 (by decide +kernel) rfl
theorem wd_888 : Cond.methodLink "TaleSharesLaw" 95 yX10_ask ∈ k_TB := k_tb 888 (by decide +kernel) rfl
theorem wd_1728 : Cond.methodLink "TaleSharesLaw" 98 yX12_ask ∈ k_TB := k_tb 1728 (by decide +kernel) rfl
theorem wd_893 : Cond.methodLink "TaleSharesLaw" 99 yX10_askAll ∈ k_TB := k_tb 893 (by decide +kernel) rfl
theorem wd_1736 : Cond.methodLink "TaleSharesLaw" 102 yX12_askAll ∈ k_TB := k_tb 1736 (by decide +kernel) rfl
theorem wd_901 : Cond.methodLink "TaleSharesLaw" 103 yX10_sense ∈ k_TB := k_tb 901 (by decide +kernel) rfl
theorem wd_1740 : Cond.methodLink "TaleSharesLaw" 106 yX12_sense ∈ k_TB := k_tb 1740 (by decide +kernel) rfl
theorem wd_905 : Cond.methodLink "TaleSharesLaw" 107 yX10_wisest ∈ k_TB := k_tb 905 (by decide +kernel) rfl
theorem wd_1748 : Cond.methodLink "TaleSharesLaw" 110 yX12_wisest ∈ k_TB := k_tb 1748 (by decide +kernel) rfl
theorem wd_909 : Cond.methodLink "TaleSharesLaw" 111 yX10_soonest ∈ k_TB := k_tb 909 (by decide +kernel) rfl
theorem wd_1752 : Cond.methodLink "TaleSharesLaw" 114 yX12_soonest ∈ k_TB := k_tb 1752 (by decide +kernel) rfl
theorem wd_940 : Cond.methodLink "TaleSharesLaw" 115 yX10_meets ∈ k_TB := k_tb 940 (by decide +kernel) rfl
theorem wd_1784 : Cond.methodLink "TaleSharesLaw" 118 yX12_meets ∈ k_TB := k_tb 1784 (by decide +kernel) rfl
theorem wd_948 : Cond.methodLink "TaleSharesLaw" 119 yX10_mostBehind ∈ k_TB := k_tb 948 (by decide +kernel) rfl
theorem wd_1788 : Cond.methodLink "TaleSharesLaw" 122 yX12_mostBehind ∈ k_TB := k_tb 1788 (by decide +kernel) rfl
theorem wd_961 : Cond.methodLink "TaleSharesLaw" 123 yX10_walks ∈ k_TB := k_tb 961 (by decide +kernel) rfl
theorem wd_1792 : Cond.methodLink "TaleSharesLaw" 126 yX12_walks ∈ k_TB := k_tb 1792 (by decide +kernel) rfl
theorem wd_965 : Cond.methodLink "TaleSharesLaw" 127 yX10_visit ∈ k_TB := k_tb 965 (by decide +kernel) rfl
theorem wd_1816 : Cond.methodLink "TaleSharesLaw" 130 yX12_visit ∈ k_TB := k_tb 1816 (by decide +kernel) rfl
theorem wd_969 : Cond.methodLink "TaleSharesLaw" 131 yX10_hourOf ∈ k_TB := k_tb 969 (by decide +kernel) rfl
theorem wd_1820 : Cond.methodLink "TaleSharesLaw" 134 yX12_hourOf ∈ k_TB := k_tb 1820 (by decide +kernel) rfl
theorem wd_973 : Cond.methodLink "TaleSharesLaw" 135 yX10_orders ∈ k_TB := k_tb 973 (by decide +kernel) rfl
theorem wd_1824 : Cond.methodLink "TaleSharesLaw" 138 yX12_orders ∈ k_TB := k_tb 1824 (by decide +kernel) rfl
theorem wd_977 : Cond.methodLink "TaleSharesLaw" 139 yX10_slips ∈ k_TB := k_tb 977 (by decide +kernel) rfl
theorem wd_1828 : Cond.methodLink "TaleSharesLaw" 142 yX12_slips ∈ k_TB := k_tb 1828 (by decide +kernel) rfl
theorem wd_989 : Cond.methodLink "TaleSharesLaw" 143 yX10_meant ∈ k_TB := k_tb 989 (by decide +kernel) rfl
theorem wd_1850 : Cond.methodLink "TaleSharesLaw" 146 yX12_meant ∈ k_TB := k_tb 1850 (by decide +kernel) rfl
theorem wd_993 : Cond.methodLink "TaleSharesLaw" 147 yX10_meanings ∈ k_TB := k_tb 993 (by decide +kernel) rfl
theorem wd_1854 : Cond.methodLink "TaleSharesLaw" 150 yX12_meanings ∈ k_TB := k_tb 1854 (by decide +kernel) rfl
theorem wd_997 : Cond.methodLink "TaleSharesLaw" 151 yX10_father ∈ k_TB := k_tb 997 (by decide +kernel) rfl
theorem wd_1858 : Cond.methodLink "TaleSharesLaw" 155 yX12_father ∈ k_TB := k_tb 1858 (by decide +kernel) rfl
theorem wd_1011 : Cond.methodLink "TaleSharesLaw" 156 yX10_rests ∈ k_TB := k_tb 1011 (by decide +kernel) rfl
theorem wd_1873 : Cond.methodLink "TaleSharesLaw" 159 yX12_rests ∈ k_TB := k_tb 1873 (by decide +kernel) rfl
theorem wd_1025 : Cond.methodLink "TaleSharesLaw" 160 yX10_rest ∈ k_TB := k_tb 1025 (by decide +kernel) rfl
theorem wd_1880 : Cond.methodLink "TaleSharesLaw" 163 yX12_rest ∈ k_TB := k_tb 1880 (by decide +kernel) rfl
theorem wd_1032 : Cond.methodLink "TaleSharesLaw" 164 yX10_tells ∈ k_TB := k_tb 1032 (by decide +kernel) rfl
theorem wd_1884 : Cond.methodLink "TaleSharesLaw" 168 yX12_tells ∈ k_TB := k_tb 1884 (by decide +kernel) rfl
theorem wd_1056 : Cond.methodLink "TaleSharesLaw" 169 yX10_mean ∈ k_TB := k_tb 1056 (by decide +kernel) rfl
theorem wd_1907 : Cond.methodLink "TaleSharesLaw" 173 yX12_mean ∈ k_TB := k_tb 1907 (by decide +kernel) rfl
theorem wd_1063 : Cond.methodLink "TaleSharesLaw" 174 yX10_evenings ∈ k_TB := k_tb 1063 (by decide +kernel) rfl
theorem wd_1911 : Cond.methodLink "TaleSharesLaw" 177 yX12_evenings ∈ k_TB := k_tb 1911 (by decide +kernel) rfl
theorem wd_1088 : Cond.methodLink "TaleSharesLaw" 178 yX10_allSense ∈ k_TB := k_tb 1088 (by decide +kernel) rfl
theorem wd_1931 : Cond.methodLink "TaleSharesLaw" 181 yX12_allSense ∈ k_TB := k_tb 1931 (by decide +kernel) rfl
theorem wd_1096 : Cond.methodLink "TaleSharesLaw" 182 yX10_tell ∈ k_TB := k_tb 1096 (by decide +kernel) rfl
theorem wd_1935 : Cond.methodLink "TaleSharesLaw" 185 yX12_tell ∈ k_TB := k_tb 1935 (by decide +kernel) rfl
theorem wd_1111 : Cond.methodLink "TaleSharesLaw" 186 yX10_learn ∈ k_TB := k_tb 1111 (by decide +kernel) rfl
theorem wd_1943 : Cond.methodLink "TaleSharesLaw" 190 yX12_learn ∈ k_TB := k_tb 1943 (by decide +kernel) rfl
theorem wd_1124 : Cond.methodLink "TaleSharesLaw" 191 yX10_forget ∈ k_TB := k_tb 1124 (by decide +kernel) rfl
theorem wd_1955 : Cond.methodLink "TaleSharesLaw" 194 yX12_forget ∈ k_TB := k_tb 1955 (by decide +kernel) rfl
theorem wd_1128 : Cond.methodLink "TaleSharesLaw" 195 yX10_evening ∈ k_TB := k_tb 1128 (by decide +kernel) rfl
theorem wd_1959 : Cond.methodLink "TaleSharesLaw" 198 yX12_evening ∈ k_TB := k_tb 1959 (by decide +kernel) rfl
theorem wd_1132 : Cond.methodLink "TaleSharesLaw" 199 yX10_seed ∈ k_TB := k_tb 1132 (by decide +kernel) rfl
theorem wd_1963 : Cond.methodLink "TaleSharesLaw" 203 yX12_seed ∈ k_TB := k_tb 1963 (by decide +kernel) rfl
theorem wd_1136 : Cond.methodLink "TaleSharesLaw" 204 yX10_undo ∈ k_TB := k_tb 1136 (by decide +kernel) rfl
theorem wd_1967 : Cond.methodLink "TaleSharesLaw" 208 yX12_undo ∈ k_TB := k_tb 1967 (by decide +kernel) rfl
theorem wd_1149 : Cond.methodLink "TaleSharesLaw" 209 yX10_image ∈ k_TB := k_tb 1149 (by decide +kernel) rfl
theorem wd_1971 : Cond.methodLink "TaleSharesLaw" 212 yX12_image ∈ k_TB := k_tb 1971 (by decide +kernel) rfl
theorem wd_1157 : Cond.methodLink "TaleSharesLaw" 213 yX10_back ∈ k_TB := k_tb 1157 (by decide +kernel) rfl
theorem wd_1975 : Cond.methodLink "TaleSharesLaw" 216 yX12_back ∈ k_TB := k_tb 1975 (by decide +kernel) rfl
theorem wd_1165 : Cond.methodLink "TaleSharesLaw" 226 yX10_size ∈ k_TB := k_tb 1165 (by decide +kernel) rfl
theorem wd_1983 : Cond.methodLink "TaleSharesLaw" 229 yX12_size ∈ k_TB := k_tb 1983 (by decide +kernel) rfl
theorem wd_1169 : Cond.methodLink "TaleSharesLaw" 230 yX10_trouble ∈ k_TB := k_tb 1169 (by decide +kernel) rfl
theorem wd_1987 : Cond.methodLink "TaleSharesLaw" 233 yX12_trouble ∈ k_TB := k_tb 1987 (by decide +kernel) rfl
theorem cd_X10_feed : k_cardV yX10_feed cX10_feed 6 (some .int) 5 := ⟨k_tb 471 (by decide +kernel) rfl, k_tb 469 (by decide +kernel) rfl, k_tb 470 (by decide +kernel) rfl, k_tb 119 (by decide +kernel) rfl, by decide +kernel, by decide +kernel, by decide +kernel, Nat.le_of_ble_eq_true rfl⟩
theorem cd_X12_feed : k_cardV yX12_feed cX12_feed 8 (some .int) 5 := ⟨k_tb 1385 (by decide +kernel) rfl, k_tb 1383 (by decide +kernel) rfl, k_tb 1384 (by decide +kernel) rfl, k_tb 128 (by decide +kernel) rfl, by decide +kernel, by decide +kernel, by decide +kernel, Nat.le_of_ble_eq_true rfl⟩
theorem cd_X10_fault : k_cardV yX10_fault cX10_fault 1 (some .int) 0 := ⟨k_tb 739 (by decide +kernel) rfl, k_tb 737 (by decide +kernel) rfl, k_tb 738 (by decide +kernel) rfl, k_tb 119 (by decide +kernel) rfl, by decide +kernel, by decide +kernel, by decide +kernel, Nat.le_of_ble_eq_true rfl⟩
theorem cd_X12_fault : k_cardV yX12_fault cX12_fault 1 (some .int) 0 := ⟨k_tb 1608 (by decide +kernel) rfl, k_tb 1606 (by decide +kernel) rfl, k_tb 1607 (by decide +kernel) rfl, k_tb 128 (by decide +kernel) rfl, by decide +kernel, by decide +kernel, by decide +kernel, Nat.le_of_ble_eq_true rfl⟩
theorem cd_X10_where : k_cardV yX10_where cX10_where 1 (some .int) 0 := ⟨k_tb 743 (by decide +kernel) rfl, k_tb 741 (by decide +kernel) rfl, k_tb 742 (by decide +kernel) rfl, k_tb 119 (by decide +kernel) rfl, by decide +kernel, by decide +kernel, by decide +kernel, Nat.le_of_ble_eq_true rfl⟩
theorem cd_X12_where : k_cardV yX12_where cX12_where 1 (some .int) 0 := ⟨k_tb 1612 (by decide +kernel) rfl, k_tb 1610 (by decide +kernel) rfl, k_tb 1611 (by decide +kernel) rfl, k_tb 128 (by decide +kernel) rfl, by decide +kernel, by decide +kernel, by decide +kernel, Nat.le_of_ble_eq_true rfl⟩
theorem cd_X10_piece : k_cardV yX10_piece cX10_piece 3 (some .int) 2 := ⟨k_tb 747 (by decide +kernel) rfl, k_tb 745 (by decide +kernel) rfl, k_tb 746 (by decide +kernel) rfl, k_tb 119 (by decide +kernel) rfl, by decide +kernel, by decide +kernel, by decide +kernel, Nat.le_of_ble_eq_true rfl⟩
theorem cd_X12_piece : k_cardV yX12_piece cX12_piece 5 (some .int) 2 := ⟨k_tb 1616 (by decide +kernel) rfl, k_tb 1614 (by decide +kernel) rfl, k_tb 1615 (by decide +kernel) rfl, k_tb 128 (by decide +kernel) rfl, by decide +kernel, by decide +kernel, by decide +kernel, Nat.le_of_ble_eq_true rfl⟩
theorem cd_X10_house : k_cardV yX10_house cX10_house 3 (some .int) 2 := ⟨k_tb 775 (by decide +kernel) rfl, k_tb 773 (by decide +kernel) rfl, k_tb 774 (by decide +kernel) rfl, k_tb 119 (by decide +kernel) rfl, by decide +kernel, by decide +kernel, by decide +kernel, Nat.le_of_ble_eq_true rfl⟩
theorem cd_X12_house : k_cardV yX12_house cX12_house 3 (some .int) 2 := ⟨k_tb 1624 (by decide +kernel) rfl, k_tb 1622 (by decide +kernel) rfl, k_tb 1623 (by decide +kernel) rfl, k_tb 128 (by decide +kernel) rfl, by decide +kernel, by decide +kernel, by decide +kernel, Nat.le_of_ble_eq_true rfl⟩
theorem cd_X10_known : k_cardV yX10_known cX10_known 1 (some .int) 0 := ⟨k_tb 800 (by decide +kernel) rfl, k_tb 798 (by decide +kernel) rfl, k_tb 799 (by decide +kernel) rfl, k_tb 119 (by decide +kernel) rfl, by decide +kernel, by decide +kernel, by decide +kernel, Nat.le_of_ble_eq_true rfl⟩
theorem cd_X12_known : k_cardV yX12_known cX12_known 1 (some .int) 0 := ⟨k_tb 1656 (by decide +kernel) rfl, k_tb 1654 (by decide +kernel) rfl, k_tb 1655 (by decide +kernel) rfl, k_tb 128 (by decide +kernel) rfl, by decide +kernel, by decide +kernel, by decide +kernel, Nat.le_of_ble_eq_true rfl⟩
theorem cd_X10_alone : k_cardV yX10_alone cX10_alone 3 (some .int) 1 := ⟨k_tb 808 (by decide +kernel) rfl, k_tb 806 (by decide +kernel) rfl, k_tb 807 (by decide +kernel) rfl, k_tb 119 (by decide +kernel) rfl, by decide +kernel, by decide +kernel, by decide +kernel, Nat.le_of_ble_eq_true rfl⟩
theorem cd_X12_alone : k_cardV yX12_alone cX12_alone 2 (some .int) 1 := ⟨k_tb 1664 (by decide +kernel) rfl, k_tb 1662 (by decide +kernel) rfl, k_tb 1663 (by decide +kernel) rfl, k_tb 128 (by decide +kernel) rfl, by decide +kernel, by decide +kernel, by decide +kernel, Nat.le_of_ble_eq_true rfl⟩
theorem cd_X10_tales : k_cardV yX10_tales cX10_tales 2 (some .int) 1 := ⟨k_tb 814 (by decide +kernel) rfl, k_tb 812 (by decide +kernel) rfl, k_tb 813 (by decide +kernel) rfl, k_tb 119 (by decide +kernel) rfl, by decide +kernel, by decide +kernel, by decide +kernel, Nat.le_of_ble_eq_true rfl⟩
theorem cd_X12_tales : k_cardV yX12_tales cX12_tales 2 (some .int) 1 := ⟨k_tb 1668 (by decide +kernel) rfl, k_tb 1666 (by decide +kernel) rfl, k_tb 1667 (by decide +kernel) rfl, k_tb 128 (by decide +kernel) rfl, by decide +kernel, by decide +kernel, by decide +kernel, Nat.le_of_ble_eq_true rfl⟩
theorem cd_X10_longest : k_cardV yX10_longest cX10_longest 3 (some .int) 1 := ⟨k_tb 830 (by decide +kernel) rfl, k_tb 828 (by decide +kernel) rfl, k_tb 829 (by decide +kernel) rfl, k_tb 119 (by decide +kernel) rfl, by decide +kernel, by decide +kernel, by decide +kernel, Nat.le_of_ble_eq_true rfl⟩
theorem cd_X12_longest : k_cardV yX12_longest cX12_longest 3 (some .int) 1 := ⟨k_tb 1684 (by decide +kernel) rfl, k_tb 1682 (by decide +kernel) rfl, k_tb 1683 (by decide +kernel) rfl, k_tb 128 (by decide +kernel) rfl, by decide +kernel, by decide +kernel, by decide +kernel, Nat.le_of_ble_eq_true rfl⟩
theorem cd_X10_longestAt : k_cardV yX10_longestAt cX10_longestAt 3 (some .int) 2 := ⟨k_tb 839 (by decide +kernel) rfl, k_tb 837 (by decide +kernel) rfl, k_tb 838 (by decide +kernel) rfl, k_tb 119 (by decide +kernel) rfl, by decide +kernel, by decide +kernel, by decide +kernel, Nat.le_of_ble_eq_true rfl⟩
theorem cd_X12_longestAt : k_cardV yX12_longestAt cX12_longestAt 3 (some .int) 2 := ⟨k_tb 1692 (by decide +kernel) rfl, k_tb 1690 (by decide +kernel) rfl, k_tb 1691 (by decide +kernel) rfl, k_tb 128 (by decide +kernel) rfl, by decide +kernel, by decide +kernel, by decide +kernel, Nat.le_of_ble_eq_true rfl⟩
theorem cd_X10_taleAt : k_cardV yX10_taleAt cX10_taleAt 4 (some .int) 3 := ⟨k_tb 848 (by decide +kernel) rfl, k_tb 846 (by decide +kernel) rfl, k_tb 847 (by decide +kernel) rfl, k_tb 119 (by decide +kernel) rfl, by decide +kernel, by decide +kernel, by decide +kernel, Nat.le_of_ble_eq_true rfl⟩
theorem cd_X12_taleAt : k_cardV yX12_taleAt cX12_taleAt 5 (some .int) 3 := ⟨k_tb 1696 (by decide +kernel) rfl, k_tb 1694 (by decide +kernel) rfl, k_tb 1695 (by decide +kernel) rfl, k_tb 128 (by decide +kernel) rfl, by decide +kernel, by decide +kernel, by decide +kernel, Nat.le_of_ble_eq_true rfl⟩
theorem cd_X10_used : k_cardV yX10_used cX10_used 2 (some .int) 1 := ⟨k_tb 853 (by decide +kernel) rfl, k_tb 851 (by decide +kernel) rfl, k_tb 852 (by decide +kernel) rfl, k_tb 119 (by decide +kernel) rfl, by decide +kernel, by decide +kernel, by decide +kernel, Nat.le_of_ble_eq_true rfl⟩
theorem cd_X12_used : k_cardV yX12_used cX12_used 3 (some .int) 1 := ⟨k_tb 1700 (by decide +kernel) rfl, k_tb 1698 (by decide +kernel) rfl, k_tb 1699 (by decide +kernel) rfl, k_tb 128 (by decide +kernel) rfl, by decide +kernel, by decide +kernel, by decide +kernel, Nat.le_of_ble_eq_true rfl⟩
theorem cd_X10_needed : k_cardV yX10_needed cX10_needed 2 (some .int) 1 := ⟨k_tb 861 (by decide +kernel) rfl, k_tb 859 (by decide +kernel) rfl, k_tb 860 (by decide +kernel) rfl, k_tb 119 (by decide +kernel) rfl, by decide +kernel, by decide +kernel, by decide +kernel, Nat.le_of_ble_eq_true rfl⟩
theorem cd_X12_needed : k_cardV yX12_needed cX12_needed 3 (some .int) 1 := ⟨k_tb 1704 (by decide +kernel) rfl, k_tb 1702 (by decide +kernel) rfl, k_tb 1703 (by decide +kernel) rfl, k_tb 128 (by decide +kernel) rfl, by decide +kernel, by decide +kernel, by decide +kernel, Nat.le_of_ble_eq_true rfl⟩
theorem cd_X10_leftOver : k_cardV yX10_leftOver cX10_leftOver 3 (some .int) 1 := ⟨k_tb 870 (by decide +kernel) rfl, k_tb 868 (by decide +kernel) rfl, k_tb 869 (by decide +kernel) rfl, k_tb 119 (by decide +kernel) rfl, by decide +kernel, by decide +kernel, by decide +kernel, Nat.le_of_ble_eq_true rfl⟩
theorem cd_X12_leftOver : k_cardV yX12_leftOver cX12_leftOver 2 (some .int) 1 := ⟨k_tb 1708 (by decide +kernel) rfl, k_tb 1706 (by decide +kernel) rfl, k_tb 1707 (by decide +kernel) rfl, k_tb 128 (by decide +kernel) rfl, by decide +kernel, by decide +kernel, by decide +kernel, Nat.le_of_ble_eq_true rfl⟩
theorem cd_X10_isTale : k_cardV yX10_isTale cX10_isTale 3 (some .int) 1 := ⟨k_tb 875 (by decide +kernel) rfl, k_tb 873 (by decide +kernel) rfl, k_tb 874 (by decide +kernel) rfl, k_tb 119 (by decide +kernel) rfl, by decide +kernel, by decide +kernel, by decide +kernel, Nat.le_of_ble_eq_true rfl⟩
theorem cd_X12_isTale : k_cardV yX12_isTale cX12_isTale 3 (some .int) 1 := ⟨k_tb 1715 (by decide +kernel) rfl, k_tb 1713 (by decide +kernel) rfl, k_tb 1714 (by decide +kernel) rfl, k_tb 128 (by decide +kernel) rfl, by decide +kernel, by decide +kernel, by decide +kernel, Nat.le_of_ble_eq_true rfl⟩
theorem cd_X10_talesOf : k_cardV yX10_talesOf cX10_talesOf 2 (some .int) 1 := ⟨k_tb 883 (by decide +kernel) rfl, k_tb 881 (by decide +kernel) rfl, k_tb 882 (by decide +kernel) rfl, k_tb 119 (by decide +kernel) rfl, by decide +kernel, by decide +kernel, by decide +kernel, Nat.le_of_ble_eq_true rfl⟩
theorem cd_X12_talesOf : k_cardV yX12_talesOf cX12_talesOf 2 (some .int) 1 := ⟨k_tb 1723 (by decide +kernel) rfl, k_tb 1721 (by decide +kernel) rfl, k_tb 1722 (by decide +kernel) rfl, k_tb 128 (by decide +kernel) rfl, by decide +kernel, by decide +kernel, by decide +kernel, Nat.le_of_ble_eq_true rfl⟩
theorem cd_X10_wanted : k_cardV yX10_wanted cX10_wanted 6 (some .int) 1 := ⟨k_tb 887 (by decide +kernel) rfl, k_tb 885 (by decide +kernel) rfl, k_tb 886 (by decide +kernel) rfl, k_tb 119 (by decide +kernel) rfl, by decide +kernel, by decide +kernel, by decide +kernel, Nat.le_of_ble_eq_true rfl⟩
theorem cd_X12_wanted : k_cardV yX12_wanted cX12_wanted 6 (some .int) 1 := ⟨k_tb 1727 (by decide +kernel) rfl, k_tb 1725 (by decide +kernel) rfl, k_tb 1726 (by decide +kernel) rfl, k_tb 128 (by decide +kernel) rfl, by decide +kernel, by decide +kernel, by decide +kernel, Nat.le_of_ble_eq_true rfl⟩
theorem cd_X10_ask : k_cardV yX10_ask cX10_ask 6 (some .int) 1 := ⟨k_tb 891 (by decide +kernel) rfl, k_tb 889 (by decide +kernel) rfl, k_tb 890 (by decide +kernel) rfl, k_tb 119 (by decide +kernel) rfl, by decide +kernel, by decide +kernel, by decide +kernel, Nat.le_of_ble_eq_true rfl⟩
theorem cd_X12_ask : k_cardV yX12_ask cX12_ask 6 (some .int) 1 := ⟨k_tb 1731 (by decide +kernel) rfl, k_tb 1729 (by decide +kernel) rfl, k_tb 1730 (by decide +kernel) rfl, k_tb 128 (by decide +kernel) rfl, by decide +kernel, by decide +kernel, by decide +kernel, Nat.le_of_ble_eq_true rfl⟩
theorem cd_X10_askAll : k_cardV yX10_askAll cX10_askAll 6 (some .int) 1 := ⟨k_tb 896 (by decide +kernel) rfl, k_tb 894 (by decide +kernel) rfl, k_tb 895 (by decide +kernel) rfl, k_tb 119 (by decide +kernel) rfl, by decide +kernel, by decide +kernel, by decide +kernel, Nat.le_of_ble_eq_true rfl⟩
theorem cd_X12_askAll : k_cardV yX12_askAll cX12_askAll 6 (some .int) 1 := ⟨k_tb 1739 (by decide +kernel) rfl, k_tb 1737 (by decide +kernel) rfl, k_tb 1738 (by decide +kernel) rfl, k_tb 128 (by decide +kernel) rfl, by decide +kernel, by decide +kernel, by decide +kernel, Nat.le_of_ble_eq_true rfl⟩
theorem cd_X10_sense : k_cardV yX10_sense cX10_sense 3 (some .int) 0 := ⟨k_tb 904 (by decide +kernel) rfl, k_tb 902 (by decide +kernel) rfl, k_tb 903 (by decide +kernel) rfl, k_tb 119 (by decide +kernel) rfl, by decide +kernel, by decide +kernel, by decide +kernel, Nat.le_of_ble_eq_true rfl⟩
theorem cd_X12_sense : k_cardV yX12_sense cX12_sense 1 (some .int) 0 := ⟨k_tb 1743 (by decide +kernel) rfl, k_tb 1741 (by decide +kernel) rfl, k_tb 1742 (by decide +kernel) rfl, k_tb 128 (by decide +kernel) rfl, by decide +kernel, by decide +kernel, by decide +kernel, Nat.le_of_ble_eq_true rfl⟩
theorem cd_X10_wisest : k_cardV yX10_wisest cX10_wisest 5 (some .int) 0 := ⟨k_tb 908 (by decide +kernel) rfl, k_tb 906 (by decide +kernel) rfl, k_tb 907 (by decide +kernel) rfl, k_tb 119 (by decide +kernel) rfl, by decide +kernel, by decide +kernel, by decide +kernel, Nat.le_of_ble_eq_true rfl⟩
theorem cd_X12_wisest : k_cardV yX12_wisest cX12_wisest 3 (some .int) 0 := ⟨k_tb 1751 (by decide +kernel) rfl, k_tb 1749 (by decide +kernel) rfl, k_tb 1750 (by decide +kernel) rfl, k_tb 128 (by decide +kernel) rfl, by decide +kernel, by decide +kernel, by decide +kernel, Nat.le_of_ble_eq_true rfl⟩
theorem cd_X10_soonest : k_cardV yX10_soonest cX10_soonest 1 (some .int) 0 := ⟨k_tb 912 (by decide +kernel) rfl, k_tb 910 (by decide +kernel) rfl, k_tb 911 (by decide +kernel) rfl, k_tb 119 (by decide +kernel) rfl, by decide +kernel, by decide +kernel, by decide +kernel, Nat.le_of_ble_eq_true rfl⟩
theorem cd_X12_soonest : k_cardV yX12_soonest cX12_soonest 1 (some .int) 0 := ⟨k_tb 1755 (by decide +kernel) rfl, k_tb 1753 (by decide +kernel) rfl, k_tb 1754 (by decide +kernel) rfl, k_tb 128 (by decide +kernel) rfl, by decide +kernel, by decide +kernel, by decide +kernel, Nat.le_of_ble_eq_true rfl⟩
theorem cd_X10_meets : k_cardV yX10_meets cX10_meets 3 (some .int) 2 := ⟨k_tb 943 (by decide +kernel) rfl, k_tb 941 (by decide +kernel) rfl, k_tb 942 (by decide +kernel) rfl, k_tb 119 (by decide +kernel) rfl, by decide +kernel, by decide +kernel, by decide +kernel, Nat.le_of_ble_eq_true rfl⟩
theorem cd_X12_meets : k_cardV yX12_meets cX12_meets 5 (some .int) 2 := ⟨k_tb 1787 (by decide +kernel) rfl, k_tb 1785 (by decide +kernel) rfl, k_tb 1786 (by decide +kernel) rfl, k_tb 128 (by decide +kernel) rfl, by decide +kernel, by decide +kernel, by decide +kernel, Nat.le_of_ble_eq_true rfl⟩
theorem cd_X10_mostBehind : k_cardV yX10_mostBehind cX10_mostBehind 2 (some .int) 1 := ⟨k_tb 951 (by decide +kernel) rfl, k_tb 949 (by decide +kernel) rfl, k_tb 950 (by decide +kernel) rfl, k_tb 119 (by decide +kernel) rfl, by decide +kernel, by decide +kernel, by decide +kernel, Nat.le_of_ble_eq_true rfl⟩
theorem cd_X12_mostBehind : k_cardV yX12_mostBehind cX12_mostBehind 4 (some .int) 1 := ⟨k_tb 1791 (by decide +kernel) rfl, k_tb 1789 (by decide +kernel) rfl, k_tb 1790 (by decide +kernel) rfl, k_tb 128 (by decide +kernel) rfl, by decide +kernel, by decide +kernel, by decide +kernel, Nat.le_of_ble_eq_true rfl⟩
theorem cd_X10_walks : k_cardV yX10_walks cX10_walks 1 (some .int) 0 := ⟨k_tb 964 (by decide +kernel) rfl, k_tb 962 (by decide +kernel) rfl, k_tb 963 (by decide +kernel) rfl, k_tb 119 (by decide +kernel) rfl, by decide +kernel, by decide +kernel, by decide +kernel, Nat.le_of_ble_eq_true rfl⟩
theorem cd_X12_walks : k_cardV yX12_walks cX12_walks 3 (some .int) 0 := ⟨k_tb 1795 (by decide +kernel) rfl, k_tb 1793 (by decide +kernel) rfl, k_tb 1794 (by decide +kernel) rfl, k_tb 128 (by decide +kernel) rfl, by decide +kernel, by decide +kernel, by decide +kernel, Nat.le_of_ble_eq_true rfl⟩
theorem cd_X10_visit : k_cardV yX10_visit cX10_visit 2 (some .int) 1 := ⟨k_tb 968 (by decide +kernel) rfl, k_tb 966 (by decide +kernel) rfl, k_tb 967 (by decide +kernel) rfl, k_tb 119 (by decide +kernel) rfl, by decide +kernel, by decide +kernel, by decide +kernel, Nat.le_of_ble_eq_true rfl⟩
theorem cd_X12_visit : k_cardV yX12_visit cX12_visit 2 (some .int) 1 := ⟨k_tb 1819 (by decide +kernel) rfl, k_tb 1817 (by decide +kernel) rfl, k_tb 1818 (by decide +kernel) rfl, k_tb 128 (by decide +kernel) rfl, by decide +kernel, by decide +kernel, by decide +kernel, Nat.le_of_ble_eq_true rfl⟩
theorem cd_X10_hourOf : k_cardV yX10_hourOf cX10_hourOf 2 (some .int) 1 := ⟨k_tb 972 (by decide +kernel) rfl, k_tb 970 (by decide +kernel) rfl, k_tb 971 (by decide +kernel) rfl, k_tb 119 (by decide +kernel) rfl, by decide +kernel, by decide +kernel, by decide +kernel, Nat.le_of_ble_eq_true rfl⟩
theorem cd_X12_hourOf : k_cardV yX12_hourOf cX12_hourOf 2 (some .int) 1 := ⟨k_tb 1823 (by decide +kernel) rfl, k_tb 1821 (by decide +kernel) rfl, k_tb 1822 (by decide +kernel) rfl, k_tb 128 (by decide +kernel) rfl, by decide +kernel, by decide +kernel, by decide +kernel, Nat.le_of_ble_eq_true rfl⟩
theorem cd_X10_orders : k_cardV yX10_orders cX10_orders 1 (some .int) 0 := ⟨k_tb 976 (by decide +kernel) rfl, k_tb 974 (by decide +kernel) rfl, k_tb 975 (by decide +kernel) rfl, k_tb 119 (by decide +kernel) rfl, by decide +kernel, by decide +kernel, by decide +kernel, Nat.le_of_ble_eq_true rfl⟩
theorem cd_X12_orders : k_cardV yX12_orders cX12_orders 2 (some .int) 0 := ⟨k_tb 1827 (by decide +kernel) rfl, k_tb 1825 (by decide +kernel) rfl, k_tb 1826 (by decide +kernel) rfl, k_tb 128 (by decide +kernel) rfl, by decide +kernel, by decide +kernel, by decide +kernel, Nat.le_of_ble_eq_true rfl⟩
theorem cd_X10_slips : k_cardV yX10_slips cX10_slips 1 (some .int) 0 := ⟨k_tb 980 (by decide +kernel) rfl, k_tb 978 (by decide +kernel) rfl, k_tb 979 (by decide +kernel) rfl, k_tb 119 (by decide +kernel) rfl, by decide +kernel, by decide +kernel, by decide +kernel, Nat.le_of_ble_eq_true rfl⟩
theorem cd_X12_slips : k_cardV yX12_slips cX12_slips 2 (some .int) 0 := ⟨k_tb 1831 (by decide +kernel) rfl, k_tb 1829 (by decide +kernel) rfl, k_tb 1830 (by decide +kernel) rfl, k_tb 128 (by decide +kernel) rfl, by decide +kernel, by decide +kernel, by decide +kernel, Nat.le_of_ble_eq_true rfl⟩
theorem cd_X10_meant : k_cardV yX10_meant cX10_meant 2 (some .int) 1 := ⟨k_tb 992 (by decide +kernel) rfl, k_tb 990 (by decide +kernel) rfl, k_tb 991 (by decide +kernel) rfl, k_tb 119 (by decide +kernel) rfl, by decide +kernel, by decide +kernel, by decide +kernel, Nat.le_of_ble_eq_true rfl⟩
theorem cd_X12_meant : k_cardV yX12_meant cX12_meant 3 (some .int) 1 := ⟨k_tb 1853 (by decide +kernel) rfl, k_tb 1851 (by decide +kernel) rfl, k_tb 1852 (by decide +kernel) rfl, k_tb 128 (by decide +kernel) rfl, by decide +kernel, by decide +kernel, by decide +kernel, Nat.le_of_ble_eq_true rfl⟩
theorem cd_X10_meanings : k_cardV yX10_meanings cX10_meanings 1 (some .int) 0 := ⟨k_tb 996 (by decide +kernel) rfl, k_tb 994 (by decide +kernel) rfl, k_tb 995 (by decide +kernel) rfl, k_tb 119 (by decide +kernel) rfl, by decide +kernel, by decide +kernel, by decide +kernel, Nat.le_of_ble_eq_true rfl⟩
theorem cd_X12_meanings : k_cardV yX12_meanings cX12_meanings 2 (some .int) 0 := ⟨k_tb 1857 (by decide +kernel) rfl, k_tb 1855 (by decide +kernel) rfl, k_tb 1856 (by decide +kernel) rfl, k_tb 128 (by decide +kernel) rfl, by decide +kernel, by decide +kernel, by decide +kernel, Nat.le_of_ble_eq_true rfl⟩
theorem cd_X10_father : k_cardV yX10_father cX10_father 6 (some .int) 4 := ⟨k_tb 1000 (by decide +kernel) rfl, k_tb 998 (by decide +kernel) rfl, k_tb 999 (by decide +kernel) rfl, k_tb 119 (by decide +kernel) rfl, by decide +kernel, by decide +kernel, by decide +kernel, Nat.le_of_ble_eq_true rfl⟩
theorem cd_X12_father : k_cardV yX12_father cX12_father 6 (some .int) 4 := ⟨k_tb 1861 (by decide +kernel) rfl, k_tb 1859 (by decide +kernel) rfl, k_tb 1860 (by decide +kernel) rfl, k_tb 128 (by decide +kernel) rfl, by decide +kernel, by decide +kernel, by decide +kernel, Nat.le_of_ble_eq_true rfl⟩
theorem cd_X10_rests : k_cardV yX10_rests cX10_rests 3 (some .int) 1 := ⟨k_tb 1014 (by decide +kernel) rfl, k_tb 1012 (by decide +kernel) rfl, k_tb 1013 (by decide +kernel) rfl, k_tb 119 (by decide +kernel) rfl, by decide +kernel, by decide +kernel, by decide +kernel, Nat.le_of_ble_eq_true rfl⟩
theorem cd_X12_rests : k_cardV yX12_rests cX12_rests 5 (some .int) 1 := ⟨k_tb 1876 (by decide +kernel) rfl, k_tb 1874 (by decide +kernel) rfl, k_tb 1875 (by decide +kernel) rfl, k_tb 128 (by decide +kernel) rfl, by decide +kernel, by decide +kernel, by decide +kernel, Nat.le_of_ble_eq_true rfl⟩
theorem cd_X10_rest : k_cardV yX10_rest cX10_rest 3 (some .int) 1 := ⟨k_tb 1028 (by decide +kernel) rfl, k_tb 1026 (by decide +kernel) rfl, k_tb 1027 (by decide +kernel) rfl, k_tb 119 (by decide +kernel) rfl, by decide +kernel, by decide +kernel, by decide +kernel, Nat.le_of_ble_eq_true rfl⟩
theorem cd_X12_rest : k_cardV yX12_rest cX12_rest 4 (some .int) 1 := ⟨k_tb 1883 (by decide +kernel) rfl, k_tb 1881 (by decide +kernel) rfl, k_tb 1882 (by decide +kernel) rfl, k_tb 128 (by decide +kernel) rfl, by decide +kernel, by decide +kernel, by decide +kernel, Nat.le_of_ble_eq_true rfl⟩
theorem cd_X10_tells : k_cardV yX10_tells cX10_tells 5 (some .long) 3 := ⟨k_tb 1035 (by decide +kernel) rfl, k_tb 1033 (by decide +kernel) rfl, k_tb 1034 (by decide +kernel) rfl, k_tb 119 (by decide +kernel) rfl, by decide +kernel, by decide +kernel, by decide +kernel, Nat.le_of_ble_eq_true rfl⟩
theorem cd_X12_tells : k_cardV yX12_tells cX12_tells 5 (some .long) 3 := ⟨k_tb 1887 (by decide +kernel) rfl, k_tb 1885 (by decide +kernel) rfl, k_tb 1886 (by decide +kernel) rfl, k_tb 128 (by decide +kernel) rfl, by decide +kernel, by decide +kernel, by decide +kernel, Nat.le_of_ble_eq_true rfl⟩
theorem cd_X10_mean : k_cardV yX10_mean cX10_mean 4 (some .long) 2 := ⟨k_tb 1059 (by decide +kernel) rfl, k_tb 1057 (by decide +kernel) rfl, k_tb 1058 (by decide +kernel) rfl, k_tb 119 (by decide +kernel) rfl, by decide +kernel, by decide +kernel, by decide +kernel, Nat.le_of_ble_eq_true rfl⟩
theorem cd_X12_mean : k_cardV yX12_mean cX12_mean 7 (some .long) 2 := ⟨k_tb 1910 (by decide +kernel) rfl, k_tb 1908 (by decide +kernel) rfl, k_tb 1909 (by decide +kernel) rfl, k_tb 128 (by decide +kernel) rfl, by decide +kernel, by decide +kernel, by decide +kernel, Nat.le_of_ble_eq_true rfl⟩
theorem cd_X10_evenings : k_cardV yX10_evenings cX10_evenings 7 (some .int) 3 := ⟨k_tb 1066 (by decide +kernel) rfl, k_tb 1064 (by decide +kernel) rfl, k_tb 1065 (by decide +kernel) rfl, k_tb 119 (by decide +kernel) rfl, by decide +kernel, by decide +kernel, by decide +kernel, Nat.le_of_ble_eq_true rfl⟩
theorem cd_X12_evenings : k_cardV yX12_evenings cX12_evenings 5 (some .int) 3 := ⟨k_tb 1914 (by decide +kernel) rfl, k_tb 1912 (by decide +kernel) rfl, k_tb 1913 (by decide +kernel) rfl, k_tb 128 (by decide +kernel) rfl, by decide +kernel, by decide +kernel, by decide +kernel, Nat.le_of_ble_eq_true rfl⟩
theorem cd_X10_allSense : k_cardV yX10_allSense cX10_allSense 6 (some .int) 2 := ⟨k_tb 1091 (by decide +kernel) rfl, k_tb 1089 (by decide +kernel) rfl, k_tb 1090 (by decide +kernel) rfl, k_tb 119 (by decide +kernel) rfl, by decide +kernel, by decide +kernel, by decide +kernel, Nat.le_of_ble_eq_true rfl⟩
theorem cd_X12_allSense : k_cardV yX12_allSense cX12_allSense 4 (some .int) 2 := ⟨k_tb 1934 (by decide +kernel) rfl, k_tb 1932 (by decide +kernel) rfl, k_tb 1933 (by decide +kernel) rfl, k_tb 128 (by decide +kernel) rfl, by decide +kernel, by decide +kernel, by decide +kernel, Nat.le_of_ble_eq_true rfl⟩
theorem cd_X10_tell : k_cardV yX10_tell cX10_tell 4 (some .int) 2 := ⟨k_tb 1099 (by decide +kernel) rfl, k_tb 1097 (by decide +kernel) rfl, k_tb 1098 (by decide +kernel) rfl, k_tb 119 (by decide +kernel) rfl, by decide +kernel, by decide +kernel, by decide +kernel, Nat.le_of_ble_eq_true rfl⟩
theorem cd_X12_tell : k_cardV yX12_tell cX12_tell 4 (some .int) 2 := ⟨k_tb 1938 (by decide +kernel) rfl, k_tb 1936 (by decide +kernel) rfl, k_tb 1937 (by decide +kernel) rfl, k_tb 128 (by decide +kernel) rfl, by decide +kernel, by decide +kernel, by decide +kernel, Nat.le_of_ble_eq_true rfl⟩
theorem cd_X10_learn : k_cardV yX10_learn cX10_learn 3 (some .boolean) 2 := ⟨k_tb 1114 (by decide +kernel) rfl, k_tb 1112 (by decide +kernel) rfl, k_tb 1113 (by decide +kernel) rfl, k_tb 119 (by decide +kernel) rfl, by decide +kernel, by decide +kernel, by decide +kernel, Nat.le_of_ble_eq_true rfl⟩
theorem cd_X12_learn : k_cardV yX12_learn cX12_learn 3 (some .boolean) 2 := ⟨k_tb 1946 (by decide +kernel) rfl, k_tb 1944 (by decide +kernel) rfl, k_tb 1945 (by decide +kernel) rfl, k_tb 128 (by decide +kernel) rfl, by decide +kernel, by decide +kernel, by decide +kernel, Nat.le_of_ble_eq_true rfl⟩
theorem cd_X10_forget : k_cardV yX10_forget cX10_forget 3 (some .boolean) 2 := ⟨k_tb 1127 (by decide +kernel) rfl, k_tb 1125 (by decide +kernel) rfl, k_tb 1126 (by decide +kernel) rfl, k_tb 119 (by decide +kernel) rfl, by decide +kernel, by decide +kernel, by decide +kernel, Nat.le_of_ble_eq_true rfl⟩
theorem cd_X12_forget : k_cardV yX12_forget cX12_forget 3 (some .boolean) 2 := ⟨k_tb 1958 (by decide +kernel) rfl, k_tb 1956 (by decide +kernel) rfl, k_tb 1957 (by decide +kernel) rfl, k_tb 128 (by decide +kernel) rfl, by decide +kernel, by decide +kernel, by decide +kernel, Nat.le_of_ble_eq_true rfl⟩
theorem cd_X10_evening : k_cardV yX10_evening cX10_evening 2 (some .int) 1 := ⟨k_tb 1131 (by decide +kernel) rfl, k_tb 1129 (by decide +kernel) rfl, k_tb 1130 (by decide +kernel) rfl, k_tb 119 (by decide +kernel) rfl, by decide +kernel, by decide +kernel, by decide +kernel, Nat.le_of_ble_eq_true rfl⟩
theorem cd_X12_evening : k_cardV yX12_evening cX12_evening 3 (some .int) 1 := ⟨k_tb 1962 (by decide +kernel) rfl, k_tb 1960 (by decide +kernel) rfl, k_tb 1961 (by decide +kernel) rfl, k_tb 128 (by decide +kernel) rfl, by decide +kernel, by decide +kernel, by decide +kernel, Nat.le_of_ble_eq_true rfl⟩
theorem cd_X10_seed : k_cardV yX10_seed cX10_seed 2 (some .boolean) 1 := ⟨k_tb 1135 (by decide +kernel) rfl, k_tb 1133 (by decide +kernel) rfl, k_tb 1134 (by decide +kernel) rfl, k_tb 119 (by decide +kernel) rfl, by decide +kernel, by decide +kernel, by decide +kernel, Nat.le_of_ble_eq_true rfl⟩
theorem cd_X12_seed : k_cardV yX12_seed cX12_seed 2 (some .boolean) 1 := ⟨k_tb 1966 (by decide +kernel) rfl, k_tb 1964 (by decide +kernel) rfl, k_tb 1965 (by decide +kernel) rfl, k_tb 128 (by decide +kernel) rfl, by decide +kernel, by decide +kernel, by decide +kernel, Nat.le_of_ble_eq_true rfl⟩
theorem cd_X10_undo : k_cardV yX10_undo cX10_undo 1 (some .boolean) 0 := ⟨k_tb 1139 (by decide +kernel) rfl, k_tb 1137 (by decide +kernel) rfl, k_tb 1138 (by decide +kernel) rfl, k_tb 119 (by decide +kernel) rfl, by decide +kernel, by decide +kernel, by decide +kernel, Nat.le_of_ble_eq_true rfl⟩
theorem cd_X12_undo : k_cardV yX12_undo cX12_undo 2 (some .boolean) 0 := ⟨k_tb 1970 (by decide +kernel) rfl, k_tb 1968 (by decide +kernel) rfl, k_tb 1969 (by decide +kernel) rfl, k_tb 128 (by decide +kernel) rfl, by decide +kernel, by decide +kernel, by decide +kernel, Nat.le_of_ble_eq_true rfl⟩
theorem cd_X10_image : k_cardV yX10_image cX10_image 2 (some .int) 0 := ⟨k_tb 1152 (by decide +kernel) rfl, k_tb 1150 (by decide +kernel) rfl, k_tb 1151 (by decide +kernel) rfl, k_tb 119 (by decide +kernel) rfl, by decide +kernel, by decide +kernel, by decide +kernel, Nat.le_of_ble_eq_true rfl⟩
theorem cd_X12_image : k_cardV yX12_image cX12_image 2 (some .int) 0 := ⟨k_tb 1974 (by decide +kernel) rfl, k_tb 1972 (by decide +kernel) rfl, k_tb 1973 (by decide +kernel) rfl, k_tb 128 (by decide +kernel) rfl, by decide +kernel, by decide +kernel, by decide +kernel, Nat.le_of_ble_eq_true rfl⟩
theorem cd_X10_back : k_cardV yX10_back cX10_back 2 (some .boolean) 1 := ⟨k_tb 1160 (by decide +kernel) rfl, k_tb 1158 (by decide +kernel) rfl, k_tb 1159 (by decide +kernel) rfl, k_tb 119 (by decide +kernel) rfl, by decide +kernel, by decide +kernel, by decide +kernel, Nat.le_of_ble_eq_true rfl⟩
theorem cd_X12_back : k_cardV yX12_back cX12_back 3 (some .boolean) 1 := ⟨k_tb 1978 (by decide +kernel) rfl, k_tb 1976 (by decide +kernel) rfl, k_tb 1977 (by decide +kernel) rfl, k_tb 128 (by decide +kernel) rfl, by decide +kernel, by decide +kernel, by decide +kernel, Nat.le_of_ble_eq_true rfl⟩
theorem cd_X10_size : k_cardV yX10_size cX10_size 2 (some .int) 1 := ⟨k_tb 1168 (by decide +kernel) rfl, k_tb 1166 (by decide +kernel) rfl, k_tb 1167 (by decide +kernel) rfl, k_tb 119 (by decide +kernel) rfl, by decide +kernel, by decide +kernel, by decide +kernel, Nat.le_of_ble_eq_true rfl⟩
theorem cd_X12_size : k_cardV yX12_size cX12_size 2 (some .int) 1 := ⟨k_tb 1986 (by decide +kernel) rfl, k_tb 1984 (by decide +kernel) rfl, k_tb 1985 (by decide +kernel) rfl, k_tb 128 (by decide +kernel) rfl, by decide +kernel, by decide +kernel, by decide +kernel, Nat.le_of_ble_eq_true rfl⟩
theorem cd_X10_trouble : k_cardV yX10_trouble cX10_trouble 1 (some .int) 0 := ⟨k_tb 1172 (by decide +kernel) rfl, k_tb 1170 (by decide +kernel) rfl, k_tb 1171 (by decide +kernel) rfl, k_tb 119 (by decide +kernel) rfl, by decide +kernel, by decide +kernel, by decide +kernel, Nat.le_of_ble_eq_true rfl⟩
theorem cd_X12_trouble : k_cardV yX12_trouble cX12_trouble 1 (some .int) 0 := ⟨k_tb 1990 (by decide +kernel) rfl, k_tb 1988 (by decide +kernel) rfl, k_tb 1989 (by decide +kernel) rfl, k_tb 128 (by decide +kernel) rfl, by decide +kernel, by decide +kernel, by decide +kernel, Nat.le_of_ble_eq_true rfl⟩
