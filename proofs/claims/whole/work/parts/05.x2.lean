/-! BasketRound.changeOrder(III)I -/
def fX7_changeOrder_J23 (μ : Mem) : Option (Int32 × Mem) := some ((-1 : Int32), μ)
set_option maxHeartbeats 4000000 in
set_option maxRecDepth 100000 in
theorem wX7_changeOrder_J23 {p : Program} {l : Launch} {e : Env} {s : State} {m : MethodId} {args : Array Value} {below : List Frame} {meth : Method} {c : Code} {A : Nat → Prop} {D : va_G} {ad : Nat → Nat} {cA : Nat → ClassId} (C : Cx p s m args meth c cX7_changeOrder RX7 5 A dsX D ad cA (EX A ad)) (hr : meth.sig.returnType = some .int) (μ : Mem) : T p l e (rmD 2) s m args below meth c 5 A dsX D ad cA enI (fX7_changeOrder_J23 μ) 23 [] [] μ := by
  unfold fX7_changeOrder_J23
  refine tt_iconst (v := (-1 : Int32)) C dX7_changeOrder_23 (by decide) ?_
  exact tt_iret rfl C hr dX7_changeOrder_24

def fX7_changeOrder (x1 : Int32) (x2 : Int32) (x3 : Int32) (μ : Mem) : Option (Int32 × Mem) := bi (fX7_isOrder x1 μ) fun v2 m1 => if v2 = (0 : Int32) then (fX7_changeOrder_J23 m1) else (bi (fX7_leastOf x2 m1) fun v4 m3 => bi (fX7_mostOf x2 m3) fun v6 m5 => bi (fX7_within x3 v4 v6 m5) fun v8 m7 => if v8 = (0 : Int32) then (fX7_changeOrder_J23 m7) else (bi (fX4_ofOrder 3 x1 x2 m7) fun v10 m9 => gr ((x1 * (5 : Int32)) + x2) 25 <| lb (wr m9 5 ((x1 * (5 : Int32)) + x2).toNatClampNeg x3) fun m11 => some (v10, m11)))
set_option maxHeartbeats 4000000 in
set_option maxRecDepth 100000 in
theorem wX7_changeOrder {p : Program} {l : Launch} {e : Env} {s : State} {m : MethodId} {args : Array Value} {below : List Frame} {meth : Method} {c : Code} {A : Nat → Prop} {D : va_G} {ad : Nat → Nat} {cA : Nat → ClassId} (C : Cx p s m args meth c cX7_changeOrder RX7 5 A dsX D ad cA (EX A ad)) (hr : meth.sig.returnType = some .int) (x1 : Int32) (x2 : Int32) (x3 : Int32) (μ : Mem) : T p l e (rmD 2) s m args below meth c 5 A dsX D ad cA enI (fX7_changeOrder x1 x2 x3 μ) 0 [(0, .ref (ad 0)), (1, .int x1), (2, .int x2), (3, .int x3)] [] μ := by
  unfold fX7_changeOrder
  refine tt_aload_n C 0 dX7_changeOrder_0 rfl rfl ?_
  refine tt_iload_n C 1 dX7_changeOrder_1 rfl rfl ?_
  refine tt_bi (fun v2 m1 h1 => ?_)
  refine tt_callV (st := []) (As := [.int x1]) C (kX7_isOrder C.2.2.2.2.2.2.2.1 h1) mi_X7_isOrder ml_RX7_137 mv_X7_isOrder ms_X7_isOrder (q := (RX7, TX7, 11)) dX_0 rfl rfl (by decide) (by decide) (Nat.le_of_ble_eq_true rfl) dX7_changeOrder_2 ?_
  refine tt_if (fun h2 => ?_) (fun h2 => ?_)
  · refine tt_if_eqT (tgt := 23) C h2 dX7_changeOrder_5 (by decide) ?_
    refine tt_sub [] (L2 := []) rfl ?_
    exact wX7_changeOrder_J23 C hr m1
  · refine tt_if_eqF C 23 h2 dX7_changeOrder_5 (by decide) ?_
    refine tt_iload_n C 3 dX7_changeOrder_8 rfl rfl ?_
    refine tt_iload_n C 2 dX7_changeOrder_9 rfl rfl ?_
    refine tt_bi (fun v4 m3 h3 => ?_)
    refine tt_callS (st := [.int x3]) (As := [.int x2]) C (kX7_leastOf C.2.2.2.2.2.2.2.1 h3) mi_X7_leastOf ml_RX7_322 mt_X7_leastOf rfl (by decide) (by decide) (Nat.le_of_ble_eq_true rfl) dX7_changeOrder_10 ?_
    refine tt_iload_n C 2 dX7_changeOrder_13 rfl rfl ?_
    refine tt_bi (fun v6 m5 h4 => ?_)
    refine tt_callS (st := [.int v4, .int x3]) (As := [.int x2]) C (kX7_mostOf C.2.2.2.2.2.2.2.1 h4) mi_X7_mostOf ml_RX7_325 mt_X7_mostOf rfl (by decide) (by decide) (Nat.le_of_ble_eq_true rfl) dX7_changeOrder_14 ?_
    refine tt_bi (fun v8 m7 h5 => ?_)
    refine tt_callS (st := []) (As := [.int x3, .int v4, .int v6]) C (kX7_within C.2.2.2.2.2.2.2.1 h5) mi_X7_within ml_RX7_70 mt_X7_within rfl (by decide) (by decide) (Nat.le_of_ble_eq_true rfl) dX7_changeOrder_17 ?_
    refine tt_if (fun h6 => ?_) (fun h6 => ?_)
    · refine tt_if_neF C 25 h6 dX7_changeOrder_20 (by decide) ?_
      refine tt_sub [] (L2 := []) rfl ?_
      exact wX7_changeOrder_J23 C hr m7
    · refine tt_if_neT (tgt := 25) C h6 dX7_changeOrder_20 (by decide) ?_
      refine tt_aload_n C 0 dX7_changeOrder_25 rfl rfl ?_
      refine tt_getR C (j := 1) (r0 := 3) dX_0 rfl fl_RX7_19 dX7_changeOrder_26 ?_
      refine tt_iload_n C 1 dX7_changeOrder_29 rfl rfl ?_
      refine tt_iload_n C 2 dX7_changeOrder_30 rfl rfl ?_
      refine tt_bi (fun v10 m9 h7 => ?_)
      refine tt_callV (st := []) (As := [.int x1, .int x2]) C (kX4_ofOrder C.2.2.2.2.2.2.2.1 3 hSh_3 h7) mi_X4_ofOrder ml_RX7_141 mv_X4_ofOrder ms_X4_ofOrder (q := (RX4, TX4, 8)) dX_3 rfl rfl (by decide) (by decide) (Nat.le_of_ble_eq_true rfl) dX7_changeOrder_31 ?_
      refine tt_istore (L2 := [(4, .int v10), (0, .ref (ad 0)), (1, .int x1), (2, .int x2), (3, .int x3)]) C dX7_changeOrder_34 (by decide) rfl ?_
      refine tt_aload_n C 1 dX7_changeOrder_36 rfl rfl ?_
      refine tt_getR C (j := 1) (r0 := 3) dX_0 rfl fl_RX7_19 dX7_changeOrder_37 ?_
      refine tt_getR C (j := 1) (r0 := 5) dX_3 rfl fl_RX7_328 dX7_changeOrder_40 ?_
      refine tt_iload_n C 2 dX7_changeOrder_43 rfl rfl ?_
      refine tt_iconst (v := (5 : Int32)) C dX7_changeOrder_44 (by decide) ?_
      refine tt_imul C dX7_changeOrder_45 ?_
      refine tt_iload_n C 3 dX7_changeOrder_46 rfl rfl ?_
      refine tt_iadd C dX7_changeOrder_47 ?_
      refine tt_iload_n C 4 dX7_changeOrder_48 rfl rfl ?_
      refine tt_gr (fun h8 => ?_)
      refine tt_iast C dX_5 h8 dX7_changeOrder_49 ?_
      refine tt_lbm (fun m11 => ?_)
      refine tt_iload C 0 dX7_changeOrder_50 rfl ?_
      exact tt_iret rfl C hr dX7_changeOrder_52
theorem kX7_changeOrder {l : Launch} {A : Nat → Prop} {D : va_G} {ad : Nat → Nat} {cA : Nat → ClassId} (hPk : Pk A dsX ad cA (EX A ad)) {x1 : Int32} {x2 : Int32} {x3 : Int32} {μ : Mem} {v : Int32} {ν : Mem} (h : fX7_changeOrder x1 x2 x3 μ = some (v, ν)) : Ct l A dsX D ad cA (EX A ad) yX7_changeOrder cX7_changeOrder 5 (some .int) 2 [.ref (ad 0), .int x1, .int x2, .int x3] μ (enI (v, ν)) :=
  ct_of (by decide) (Nat.le_of_ble_eq_true rfl) hPk rfl (fun p e s m args below meth c C hr => wX7_changeOrder C hr x1 x2 x3 μ) h

/-! BasketRound.ask(III)I -/
def fX7_ask (x1 : Int32) (x2 : Int32) (x3 : Int32) (μ : Mem) : Option (Int32 × Mem) := bi (fX7_within x2 (3 : Int32) (4 : Int32) μ) fun v2 m1 => if v2 = (0 : Int32) then (some ((-1 : Int32), m1)) else (bi (fX7_changeOrder x1 x2 x3 m1) fun v4 m3 => some (v4, m3))
set_option maxHeartbeats 4000000 in
set_option maxRecDepth 100000 in
theorem wX7_ask {p : Program} {l : Launch} {e : Env} {s : State} {m : MethodId} {args : Array Value} {below : List Frame} {meth : Method} {c : Code} {A : Nat → Prop} {D : va_G} {ad : Nat → Nat} {cA : Nat → ClassId} (C : Cx p s m args meth c cX7_ask RX7 4 A dsX D ad cA (EX A ad)) (hr : meth.sig.returnType = some .int) (x1 : Int32) (x2 : Int32) (x3 : Int32) (μ : Mem) : T p l e (rmD 3) s m args below meth c 4 A dsX D ad cA enI (fX7_ask x1 x2 x3 μ) 0 [(0, .ref (ad 0)), (1, .int x1), (2, .int x2), (3, .int x3)] [] μ := by
  unfold fX7_ask
  refine tt_iload_n C 2 dX7_ask_0 rfl rfl ?_
  refine tt_iconst (v := (3 : Int32)) C dX7_ask_1 (by decide) ?_
  refine tt_iconst (v := (4 : Int32)) C dX7_ask_2 (by decide) ?_
  refine tt_bi (fun v2 m1 h1 => ?_)
  refine tt_callS (st := []) (As := [.int x2, .int (3 : Int32), .int (4 : Int32)]) C (kX7_within C.2.2.2.2.2.2.2.1 h1) mi_X7_within ml_RX7_70 mt_X7_within rfl (by decide) (by decide) (Nat.le_of_ble_eq_true rfl) dX7_ask_3 ?_
  refine tt_if (fun h2 => ?_) (fun h2 => ?_)
  · refine tt_if_neF C 11 h2 dX7_ask_6 (by decide) ?_
    refine tt_iconst (v := (-1 : Int32)) C dX7_ask_9 (by decide) ?_
    exact tt_iret rfl C hr dX7_ask_10
  · refine tt_if_neT (tgt := 11) C h2 dX7_ask_6 (by decide) ?_
    refine tt_aload_n C 0 dX7_ask_11 rfl rfl ?_
    refine tt_iload_n C 1 dX7_ask_12 rfl rfl ?_
    refine tt_iload_n C 2 dX7_ask_13 rfl rfl ?_
    refine tt_iload_n C 3 dX7_ask_14 rfl rfl ?_
    refine tt_bi (fun v4 m3 h3 => ?_)
    refine tt_callV (st := []) (As := [.int x1, .int x2, .int x3]) C (kX7_changeOrder C.2.2.2.2.2.2.2.1 h3) mi_X7_changeOrder ml_RX7_154 mv_X7_changeOrder ms_X7_changeOrder (q := (RX7, TX7, 11)) dX_0 rfl rfl (by decide) (by decide) (Nat.le_of_ble_eq_true rfl) dX7_ask_15 ?_
    exact tt_iret rfl C hr dX7_ask_18
theorem kX7_ask {l : Launch} {A : Nat → Prop} {D : va_G} {ad : Nat → Nat} {cA : Nat → ClassId} (hPk : Pk A dsX ad cA (EX A ad)) {x1 : Int32} {x2 : Int32} {x3 : Int32} {μ : Mem} {v : Int32} {ν : Mem} (h : fX7_ask x1 x2 x3 μ = some (v, ν)) : Ct l A dsX D ad cA (EX A ad) yX7_ask cX7_ask 4 (some .int) 3 [.ref (ad 0), .int x1, .int x2, .int x3] μ (enI (v, ν)) :=
  ct_of (by decide) (Nat.le_of_ble_eq_true rfl) hPk rfl (fun p e s m args below meth c C hr => wX7_ask C hr x1 x2 x3 μ) h

/-! BasketRound.goSome(II)I -/
def fX7_goSome (x1 : Int32) (x2 : Int32) (μ : Mem) : Option (Int32 × Mem) := bv (fX6_take x1 x2 μ) fun m1 => bv (fX6_ride m1) fun m2 => bv (fX6_stow m2) fun m3 => bv (fX6_finish m3) fun m4 => some ((m4 24 16), m4)
set_option maxHeartbeats 4000000 in
set_option maxRecDepth 100000 in
theorem wX7_goSome {p : Program} {l : Launch} {e : Env} {s : State} {m : MethodId} {args : Array Value} {below : List Frame} {meth : Method} {c : Code} {A : Nat → Prop} {D : va_G} {ad : Nat → Nat} {cA : Nat → ClassId} (C : Cx p s m args meth c cX7_goSome RX7 3 A dsX D ad cA (EX A ad)) (hr : meth.sig.returnType = some .int) (x1 : Int32) (x2 : Int32) (μ : Mem) : T p l e (rmD 3) s m args below meth c 3 A dsX D ad cA enI (fX7_goSome x1 x2 μ) 0 [(0, .ref (ad 0)), (1, .int x1), (2, .int x2)] [] μ := by
  unfold fX7_goSome
  refine tt_aload_n C 0 dX7_goSome_0 rfl rfl ?_
  refine tt_getR C (j := 3) (r0 := 24) dX_0 rfl fl_RX7_37 dX7_goSome_1 ?_
  refine tt_iload_n C 1 dX7_goSome_4 rfl rfl ?_
  refine tt_iload_n C 2 dX7_goSome_5 rfl rfl ?_
  refine tt_bv (fun m1 h1 => ?_)
  refine tt_callV (st := []) (As := [.int x1, .int x2]) C (kX6_take C.2.2.2.2.2.2.2.1 h1) mi_X6_take ml_RX7_208 mv_X6_take ms_X6_take (q := (RX6, TX6, 17)) dX_24 rfl rfl (by decide) (by decide) (Nat.le_of_ble_eq_true rfl) dX7_goSome_6 ?_
  refine tt_aload_n C 0 dX7_goSome_9 rfl rfl ?_
  refine tt_getR C (j := 3) (r0 := 24) dX_0 rfl fl_RX7_37 dX7_goSome_10 ?_
  refine tt_bv (fun m2 h2 => ?_)
  refine tt_callV (st := []) (As := []) C (kX6_ride C.2.2.2.2.2.2.2.1 h2) mi_X6_ride ml_RX7_212 mv_X6_ride ms_X6_ride (q := (RX6, TX6, 17)) dX_24 rfl rfl (by decide) (by decide) (Nat.le_of_ble_eq_true rfl) dX7_goSome_13 ?_
  refine tt_aload_n C 0 dX7_goSome_16 rfl rfl ?_
  refine tt_getR C (j := 3) (r0 := 24) dX_0 rfl fl_RX7_37 dX7_goSome_17 ?_
  refine tt_bv (fun m3 h3 => ?_)
  refine tt_callV (st := []) (As := []) C (kX6_stow C.2.2.2.2.2.2.2.1 h3) mi_X6_stow ml_RX7_244 mv_X6_stow ms_X6_stow (q := (RX6, TX6, 17)) dX_24 rfl rfl (by decide) (by decide) (Nat.le_of_ble_eq_true rfl) dX7_goSome_20 ?_
  refine tt_aload_n C 0 dX7_goSome_23 rfl rfl ?_
  refine tt_getR C (j := 3) (r0 := 24) dX_0 rfl fl_RX7_37 dX7_goSome_24 ?_
  refine tt_bv (fun m4 h4 => ?_)
  refine tt_callV (st := []) (As := []) C (kX6_finish C.2.2.2.2.2.2.2.1 h4) mi_X6_finish ml_RX7_224 mv_X6_finish ms_X6_finish (q := (RX6, TX6, 17)) dX_24 rfl rfl (by decide) (by decide) (Nat.le_of_ble_eq_true rfl) dX7_goSome_27 ?_
  refine tt_aload_n C 0 dX7_goSome_30 rfl rfl ?_
  refine tt_getR C (j := 3) (r0 := 24) dX_0 rfl fl_RX7_37 dX7_goSome_31 ?_
  refine tt_getI C (j := 16) dX_24 rfl fl_RX7_177 dX7_goSome_34 ?_
  exact tt_iret rfl C hr dX7_goSome_37
theorem kX7_goSome {l : Launch} {A : Nat → Prop} {D : va_G} {ad : Nat → Nat} {cA : Nat → ClassId} (hPk : Pk A dsX ad cA (EX A ad)) {x1 : Int32} {x2 : Int32} {μ : Mem} {v : Int32} {ν : Mem} (h : fX7_goSome x1 x2 μ = some (v, ν)) : Ct l A dsX D ad cA (EX A ad) yX7_goSome cX7_goSome 3 (some .int) 3 [.ref (ad 0), .int x1, .int x2] μ (enI (v, ν)) :=
  ct_of (by decide) (Nat.le_of_ble_eq_true rfl) hPk rfl (fun p e s m args below meth c C hr => wX7_goSome C hr x1 x2 μ) h

/-! BasketRound.goRound()V -/
def fX7_goRound (μ : Mem) : Option (Mem) := bi (fX7_allBits μ) fun v2 m1 => bi (fX7_goSome v2 (m1 3 7) m1) fun v4 m3 => some m3
set_option maxHeartbeats 4000000 in
set_option maxRecDepth 100000 in
theorem wX7_goRound {p : Program} {l : Launch} {e : Env} {s : State} {m : MethodId} {args : Array Value} {below : List Frame} {meth : Method} {c : Code} {A : Nat → Prop} {D : va_G} {ad : Nat → Nat} {cA : Nat → ClassId} (C : Cx p s m args meth c cX7_goRound RX7 1 A dsX D ad cA (EX A ad)) (hr : meth.sig.returnType = none) (μ : Mem) : T p l e (rmD 4) s m args below meth c 1 A dsX D ad cA enV (fX7_goRound μ) 0 [(0, .ref (ad 0))] [] μ := by
  unfold fX7_goRound
  refine tt_aload_n C 0 dX7_goRound_0 rfl rfl ?_
  refine tt_aload_n C 0 dX7_goRound_1 rfl rfl ?_
  refine tt_bi (fun v2 m1 h1 => ?_)
  refine tt_callV (st := [.ref (ad 0)]) (As := []) C (kX7_allBits C.2.2.2.2.2.2.2.1 h1) mi_X7_allBits ml_RX7_204 mv_X7_allBits ms_X7_allBits (q := (RX7, TX7, 11)) dX_0 rfl rfl (by decide) (by decide) (Nat.le_of_ble_eq_true rfl) dX7_goRound_2 ?_
  refine tt_aload_n C 0 dX7_goRound_5 rfl rfl ?_
  refine tt_getR C (j := 1) (r0 := 3) dX_0 rfl fl_RX7_19 dX7_goRound_6 ?_
  refine tt_getI C (j := 7) dX_3 rfl fl_RX7_115 dX7_goRound_9 ?_
  refine tt_bi (fun v4 m3 h2 => ?_)
  refine tt_callV (st := []) (As := [.int v2, .int (m1 3 7)]) C (kX7_goSome C.2.2.2.2.2.2.2.1 h2) mi_X7_goSome ml_RX7_252 mv_X7_goSome ms_X7_goSome (q := (RX7, TX7, 11)) dX_0 rfl rfl (by decide) (by decide) (Nat.le_of_ble_eq_true rfl) dX7_goRound_12 ?_
  refine tt_pop C dX7_goRound_15 rfl ?_
  exact tt_vret rfl C hr dX7_goRound_16
theorem kX7_goRound {l : Launch} {A : Nat → Prop} {D : va_G} {ad : Nat → Nat} {cA : Nat → ClassId} (hPk : Pk A dsX ad cA (EX A ad)) {μ : Mem} {ν : Mem} (h : fX7_goRound μ = some ν) : Ct l A dsX D ad cA (EX A ad) yX7_goRound cX7_goRound 1 none 4 [.ref (ad 0)] μ (enV ν) :=
  ct_of (by decide) (Nat.le_of_ble_eq_true rfl) hPk rfl (fun p e s m args below meth c C hr => wX7_goRound C hr μ) h

/-! BasketRound.back()I -/
def fX7_back (μ : Mem) : Option (Int32 × Mem) := bv (fX7_goRound μ) fun m1 => some ((m1 24 13), m1)
set_option maxHeartbeats 4000000 in
set_option maxRecDepth 100000 in
theorem wX7_back {p : Program} {l : Launch} {e : Env} {s : State} {m : MethodId} {args : Array Value} {below : List Frame} {meth : Method} {c : Code} {A : Nat → Prop} {D : va_G} {ad : Nat → Nat} {cA : Nat → ClassId} (C : Cx p s m args meth c cX7_back RX7 1 A dsX D ad cA (EX A ad)) (hr : meth.sig.returnType = some .int) (μ : Mem) : T p l e (rmD 5) s m args below meth c 1 A dsX D ad cA enI (fX7_back μ) 0 [(0, .ref (ad 0))] [] μ := by
  unfold fX7_back
  refine tt_aload_n C 0 dX7_back_0 rfl rfl ?_
  refine tt_bv (fun m1 h1 => ?_)
  refine tt_callV (st := []) (As := []) C (kX7_goRound C.2.2.2.2.2.2.2.1 h1) mi_X7_goRound ml_RX7_162 mv_X7_goRound ms_X7_goRound (q := (RX7, TX7, 11)) dX_0 rfl rfl (by decide) (by decide) (Nat.le_of_ble_eq_true rfl) dX7_back_1 ?_
  refine tt_aload_n C 0 dX7_back_4 rfl rfl ?_
  refine tt_getR C (j := 3) (r0 := 24) dX_0 rfl fl_RX7_37 dX7_back_5 ?_
  refine tt_getI C (j := 13) dX_24 rfl fl_RX7_168 dX7_back_8 ?_
  exact tt_iret rfl C hr dX7_back_11
theorem kX7_back {l : Launch} {A : Nat → Prop} {D : va_G} {ad : Nat → Nat} {cA : Nat → ClassId} (hPk : Pk A dsX ad cA (EX A ad)) {μ : Mem} {v : Int32} {ν : Mem} (h : fX7_back μ = some (v, ν)) : Ct l A dsX D ad cA (EX A ad) yX7_back cX7_back 1 (some .int) 5 [.ref (ad 0)] μ (enI (v, ν)) :=
  ct_of (by decide) (Nat.le_of_ble_eq_true rfl) hPk rfl (fun p e s m args below meth c C hr => wX7_back C hr μ) h

/-! BasketRound.layByOrder([II)V -/
def fX7_layByOrder_L2 (a1 : Nat) : Nat → Int32 → Int32 → Mem → Option (Mem)
  | 0, _, _, _ => none
  | fu + 1, x1, x2, μ => if x1 ≤ x2 then (some μ) else (gr x2 5 <| lb (wr μ a1 x2.toNatClampNeg x2) fun m1 => lb (x2 + (1 : Int32)) fun (y2 : Int32) => fX7_layByOrder_L2 a1 fu x1 y2 m1)
set_option maxHeartbeats 4000000 in
set_option maxRecDepth 100000 in
theorem wX7_layByOrder_L2 {p : Program} {l : Launch} {e : Env} {s : State} {m : MethodId} {args : Array Value} {below : List Frame} {meth : Method} {c : Code} {A : Nat → Prop} {D : va_G} {ad : Nat → Nat} {cA : Nat → ClassId} (C : Cx p s m args meth c cX7_layByOrder RX7 3 A dsX D ad cA (EX A ad)) (hr : meth.sig.returnType = none) (a1 : Nat) (ha1 : dsX[a1]? = some (0, 5, [])) : ∀ (fu : Nat) (x1 : Int32) (x2 : Int32) (μ : Mem), T p l e (rmD 0) s m args below meth c 3 A dsX D ad cA enV (fX7_layByOrder_L2 a1 fu x1 x2 μ) 2 [(0, .ref (ad a1)), (1, .int x1), (2, .int x2)] [] μ
  | 0, _, _, _ => tt_none
  | fu + 1, x1, x2, μ => by
    have ih := fun (x1 : Int32) (x2 : Int32) (μ : Mem) => wX7_layByOrder_L2 (l := l) (e := e) (below := below) C hr a1 ha1 fu x1 x2 μ
    show T p l e (rmD 0) s m args below meth c 3 A dsX D ad cA enV (if x1 ≤ x2 then (some μ) else (gr x2 5 <| lb (wr μ a1 x2.toNatClampNeg x2) fun m1 => lb (x2 + (1 : Int32)) fun (y2 : Int32) => fX7_layByOrder_L2 a1 fu x1 y2 m1)) 2 [(0, .ref (ad a1)), (1, .int x1), (2, .int x2)] [] μ
    refine tt_iload_n C 2 dX7_layByOrder_2 rfl rfl ?_
    refine tt_iload_n C 1 dX7_layByOrder_3 rfl rfl ?_
    refine tt_if (fun h1 => ?_) (fun h1 => ?_)
    · refine tt_icmp_geT (tgt := 17) C h1 dX7_layByOrder_4 (by decide) ?_
      exact tt_vret rfl C hr dX7_layByOrder_17
    · refine tt_icmp_geF C 17 h1 dX7_layByOrder_4 (by decide) ?_
      refine tt_aload_n C 0 dX7_layByOrder_7 rfl rfl ?_
      refine tt_iload_n C 2 dX7_layByOrder_8 rfl rfl ?_
      refine tt_iload_n C 2 dX7_layByOrder_9 rfl rfl ?_
      refine tt_gr (fun h2 => ?_)
      refine tt_iast C ha1 h2 dX7_layByOrder_10 ?_
      refine tt_lbm (fun m1 => ?_)
      refine tt_iincB (d := (1 : Int32)) C 2 (fun y2 => [(2, .int y2), (0, .ref (ad a1)), (1, .int x1)]) dX7_layByOrder_11 rfl (by decide) (by decide) (fun _ => rfl) (fun y2 => ?_)
      refine tt_goto (tgt := 2) C dX7_layByOrder_14 (by decide) ?_
      refine tt_sub [1, 2, 0] (L2 := [(0, .ref (ad a1)), (1, .int x1), (2, .int y2)]) rfl ?_
      exact ih x1 y2 m1

def fX7_layByOrder (a1 : Nat) (x1 : Int32) (μ : Mem) : Option (Mem) := lb (0 : Int32) fun (y1 : Int32) => fX7_layByOrder_L2 a1 FU x1 y1 μ
set_option maxHeartbeats 4000000 in
set_option maxRecDepth 100000 in
theorem wX7_layByOrder {p : Program} {l : Launch} {e : Env} {s : State} {m : MethodId} {args : Array Value} {below : List Frame} {meth : Method} {c : Code} {A : Nat → Prop} {D : va_G} {ad : Nat → Nat} {cA : Nat → ClassId} (C : Cx p s m args meth c cX7_layByOrder RX7 3 A dsX D ad cA (EX A ad)) (hr : meth.sig.returnType = none) (a1 : Nat) (ha1 : dsX[a1]? = some (0, 5, [])) (x1 : Int32) (μ : Mem) : T p l e (rmD 0) s m args below meth c 3 A dsX D ad cA enV (fX7_layByOrder a1 x1 μ) 0 [(0, .ref (ad a1)), (1, .int x1)] [] μ := by
  unfold fX7_layByOrder
  refine tt_iconst (v := (0 : Int32)) C dX7_layByOrder_0 (by decide) ?_
  refine tt_lbi (fun y1 => ?_)
  refine tt_istore_n (L2 := [(2, .int y1), (0, .ref (ad a1)), (1, .int x1)]) C dX7_layByOrder_1 rfl (by decide) rfl ?_
  refine tt_sub [1, 2, 0] (L2 := [(0, .ref (ad a1)), (1, .int x1), (2, .int y1)]) rfl ?_
  exact wX7_layByOrder_L2 C hr a1 ha1 FU x1 y1 μ
theorem kX7_layByOrder {l : Launch} {A : Nat → Prop} {D : va_G} {ad : Nat → Nat} {cA : Nat → ClassId} (hPk : Pk A dsX ad cA (EX A ad)) (a1 : Nat) (ha1 : dsX[a1]? = some (0, 5, [])) {x1 : Int32} {μ : Mem} {ν : Mem} (h : fX7_layByOrder a1 x1 μ = some ν) : Ct l A dsX D ad cA (EX A ad) yX7_layByOrder cX7_layByOrder 3 none 0 [.ref (ad a1), .int x1] μ (enV ν) :=
  ct_of (by decide) (Nat.le_of_ble_eq_true rfl) hPk rfl (fun p e s m args below meth c C hr => wX7_layByOrder C hr a1 ha1 x1 μ) h

/-! BasketRound.numberOf([II)I -/
def fX7_numberOf_L4 (a1 : Nat) : Nat → Int32 → Int32 → Int32 → Mem → Option (Int32 × Mem)
  | 0, _, _, _, _ => none
  | fu + 1, x1, x2, x3, μ => if x1 ≤ x3 then (some (x2, μ)) else (gr x3 5 <| lb ((x2 * (5 : Int32)) + (μ a1 x3.toNatClampNeg)) fun (y1 : Int32) => lb (x3 + (1 : Int32)) fun (y2 : Int32) => fX7_numberOf_L4 a1 fu x1 y1 y2 μ)
set_option maxHeartbeats 4000000 in
set_option maxRecDepth 100000 in
theorem wX7_numberOf_L4 {p : Program} {l : Launch} {e : Env} {s : State} {m : MethodId} {args : Array Value} {below : List Frame} {meth : Method} {c : Code} {A : Nat → Prop} {D : va_G} {ad : Nat → Nat} {cA : Nat → ClassId} (C : Cx p s m args meth c cX7_numberOf RX7 4 A dsX D ad cA (EX A ad)) (hr : meth.sig.returnType = some .int) (a1 : Nat) (ha1 : dsX[a1]? = some (0, 5, [])) : ∀ (fu : Nat) (x1 : Int32) (x2 : Int32) (x3 : Int32) (μ : Mem), T p l e (rmD 0) s m args below meth c 4 A dsX D ad cA enI (fX7_numberOf_L4 a1 fu x1 x2 x3 μ) 4 [(0, .ref (ad a1)), (1, .int x1), (2, .int x2), (3, .int x3)] [] μ
  | 0, _, _, _, _ => tt_none
  | fu + 1, x1, x2, x3, μ => by
    have ih := fun (x1 : Int32) (x2 : Int32) (x3 : Int32) (μ : Mem) => wX7_numberOf_L4 (l := l) (e := e) (below := below) C hr a1 ha1 fu x1 x2 x3 μ
    show T p l e (rmD 0) s m args below meth c 4 A dsX D ad cA enI (if x1 ≤ x3 then (some (x2, μ)) else (gr x3 5 <| lb ((x2 * (5 : Int32)) + (μ a1 x3.toNatClampNeg)) fun (y1 : Int32) => lb (x3 + (1 : Int32)) fun (y2 : Int32) => fX7_numberOf_L4 a1 fu x1 y1 y2 μ)) 4 [(0, .ref (ad a1)), (1, .int x1), (2, .int x2), (3, .int x3)] [] μ
    refine tt_iload_n C 3 dX7_numberOf_4 rfl rfl ?_
    refine tt_iload_n C 1 dX7_numberOf_5 rfl rfl ?_
    refine tt_if (fun h1 => ?_) (fun h1 => ?_)
    · refine tt_icmp_geT (tgt := 23) C h1 dX7_numberOf_6 (by decide) ?_
      refine tt_iload_n C 2 dX7_numberOf_23 rfl rfl ?_
      exact tt_iret rfl C hr dX7_numberOf_24
    · refine tt_icmp_geF C 23 h1 dX7_numberOf_6 (by decide) ?_
      refine tt_iload_n C 2 dX7_numberOf_9 rfl rfl ?_
      refine tt_iconst (v := (5 : Int32)) C dX7_numberOf_10 (by decide) ?_
      refine tt_imul C dX7_numberOf_11 ?_
      refine tt_aload_n C 0 dX7_numberOf_12 rfl rfl ?_
      refine tt_iload_n C 3 dX7_numberOf_13 rfl rfl ?_
      refine tt_gr (fun h2 => ?_)
      refine tt_iald C ha1 h2 dX7_numberOf_14 ?_
      refine tt_iadd C dX7_numberOf_15 ?_
      refine tt_lbi (fun y1 => ?_)
      refine tt_istore_n (L2 := [(2, .int y1), (0, .ref (ad a1)), (1, .int x1), (3, .int x3)]) C dX7_numberOf_16 rfl (by decide) rfl ?_
      refine tt_iincB (d := (1 : Int32)) C 3 (fun y2 => [(3, .int y2), (2, .int y1), (0, .ref (ad a1)), (1, .int x1)]) dX7_numberOf_17 rfl (by decide) (by decide) (fun _ => rfl) (fun y2 => ?_)
      refine tt_goto (tgt := 4) C dX7_numberOf_20 (by decide) ?_
      refine tt_sub [2, 3, 1, 0] (L2 := [(0, .ref (ad a1)), (1, .int x1), (2, .int y1), (3, .int y2)]) rfl ?_
      exact ih x1 y1 y2 μ

def fX7_numberOf (a1 : Nat) (x1 : Int32) (μ : Mem) : Option (Int32 × Mem) := lb (0 : Int32) fun (y1 : Int32) => lb (0 : Int32) fun (y2 : Int32) => fX7_numberOf_L4 a1 FU x1 y1 y2 μ
set_option maxHeartbeats 4000000 in
set_option maxRecDepth 100000 in
theorem wX7_numberOf {p : Program} {l : Launch} {e : Env} {s : State} {m : MethodId} {args : Array Value} {below : List Frame} {meth : Method} {c : Code} {A : Nat → Prop} {D : va_G} {ad : Nat → Nat} {cA : Nat → ClassId} (C : Cx p s m args meth c cX7_numberOf RX7 4 A dsX D ad cA (EX A ad)) (hr : meth.sig.returnType = some .int) (a1 : Nat) (ha1 : dsX[a1]? = some (0, 5, [])) (x1 : Int32) (μ : Mem) : T p l e (rmD 0) s m args below meth c 4 A dsX D ad cA enI (fX7_numberOf a1 x1 μ) 0 [(0, .ref (ad a1)), (1, .int x1)] [] μ := by
  unfold fX7_numberOf
  refine tt_iconst (v := (0 : Int32)) C dX7_numberOf_0 (by decide) ?_
  refine tt_lbi (fun y1 => ?_)
  refine tt_istore_n (L2 := [(2, .int y1), (0, .ref (ad a1)), (1, .int x1)]) C dX7_numberOf_1 rfl (by decide) rfl ?_
  refine tt_iconst (v := (0 : Int32)) C dX7_numberOf_2 (by decide) ?_
  refine tt_lbi (fun y2 => ?_)
  refine tt_istore_n (L2 := [(3, .int y2), (2, .int y1), (0, .ref (ad a1)), (1, .int x1)]) C dX7_numberOf_3 rfl (by decide) rfl ?_
  refine tt_sub [2, 3, 1, 0] (L2 := [(0, .ref (ad a1)), (1, .int x1), (2, .int y1), (3, .int y2)]) rfl ?_
  exact wX7_numberOf_L4 C hr a1 ha1 FU x1 y1 y2 μ
theorem kX7_numberOf {l : Launch} {A : Nat → Prop} {D : va_G} {ad : Nat → Nat} {cA : Nat → ClassId} (hPk : Pk A dsX ad cA (EX A ad)) (a1 : Nat) (ha1 : dsX[a1]? = some (0, 5, [])) {x1 : Int32} {μ : Mem} {v : Int32} {ν : Mem} (h : fX7_numberOf a1 x1 μ = some (v, ν)) : Ct l A dsX D ad cA (EX A ad) yX7_numberOf cX7_numberOf 4 (some .int) 0 [.ref (ad a1), .int x1] μ (enI (v, ν)) :=
  ct_of (by decide) (Nat.le_of_ble_eq_true rfl) hPk rfl (fun p e s m args below meth c C hr => wX7_numberOf C hr a1 ha1 x1 μ) h

/-! BasketRound.exchangePlaces([III)V -/
def fX7_exchangePlaces (a1 : Nat) (x1 : Int32) (x2 : Int32) (μ : Mem) : Option (Mem) := gr x1 5 <| lb (μ a1 x1.toNatClampNeg) fun (y1 : Int32) => gr x2 5 <| gr x1 5 <| lb (wr μ a1 x1.toNatClampNeg (μ a1 x2.toNatClampNeg)) fun m2 => gr x2 5 <| lb (wr m2 a1 x2.toNatClampNeg y1) fun m3 => some m3
set_option maxHeartbeats 4000000 in
set_option maxRecDepth 100000 in
theorem wX7_exchangePlaces {p : Program} {l : Launch} {e : Env} {s : State} {m : MethodId} {args : Array Value} {below : List Frame} {meth : Method} {c : Code} {A : Nat → Prop} {D : va_G} {ad : Nat → Nat} {cA : Nat → ClassId} (C : Cx p s m args meth c cX7_exchangePlaces RX7 4 A dsX D ad cA (EX A ad)) (hr : meth.sig.returnType = none) (a1 : Nat) (ha1 : dsX[a1]? = some (0, 5, [])) (x1 : Int32) (x2 : Int32) (μ : Mem) : T p l e (rmD 0) s m args below meth c 4 A dsX D ad cA enV (fX7_exchangePlaces a1 x1 x2 μ) 0 [(0, .ref (ad a1)), (1, .int x1), (2, .int x2)] [] μ := by
  unfold fX7_exchangePlaces
  refine tt_aload_n C 0 dX7_exchangePlaces_0 rfl rfl ?_
  refine tt_iload_n C 1 dX7_exchangePlaces_1 rfl rfl ?_
  refine tt_gr (fun h1 => ?_)
  refine tt_iald C ha1 h1 dX7_exchangePlaces_2 ?_
  refine tt_lbi (fun y1 => ?_)
  refine tt_istore_n (L2 := [(3, .int y1), (0, .ref (ad a1)), (1, .int x1), (2, .int x2)]) C dX7_exchangePlaces_3 rfl (by decide) rfl ?_
  refine tt_aload_n C 1 dX7_exchangePlaces_4 rfl rfl ?_
  refine tt_iload_n C 2 dX7_exchangePlaces_5 rfl rfl ?_
  refine tt_aload_n C 1 dX7_exchangePlaces_6 rfl rfl ?_
  refine tt_iload_n C 3 dX7_exchangePlaces_7 rfl rfl ?_
  refine tt_gr (fun h2 => ?_)
  refine tt_iald C ha1 h2 dX7_exchangePlaces_8 ?_
  refine tt_gr (fun h3 => ?_)
  refine tt_iast C ha1 h3 dX7_exchangePlaces_9 ?_
  refine tt_lbm (fun m2 => ?_)
  refine tt_aload_n C 1 dX7_exchangePlaces_10 rfl rfl ?_
  refine tt_iload_n C 3 dX7_exchangePlaces_11 rfl rfl ?_
  refine tt_iload_n C 0 dX7_exchangePlaces_12 rfl rfl ?_
  refine tt_gr (fun h4 => ?_)
  refine tt_iast C ha1 h4 dX7_exchangePlaces_13 ?_
  refine tt_lbm (fun m3 => ?_)
  exact tt_vret rfl C hr dX7_exchangePlaces_14
theorem kX7_exchangePlaces {l : Launch} {A : Nat → Prop} {D : va_G} {ad : Nat → Nat} {cA : Nat → ClassId} (hPk : Pk A dsX ad cA (EX A ad)) (a1 : Nat) (ha1 : dsX[a1]? = some (0, 5, [])) {x1 : Int32} {x2 : Int32} {μ : Mem} {ν : Mem} (h : fX7_exchangePlaces a1 x1 x2 μ = some ν) : Ct l A dsX D ad cA (EX A ad) yX7_exchangePlaces cX7_exchangePlaces 4 none 0 [.ref (ad a1), .int x1, .int x2] μ (enV ν) :=
  ct_of (by decide) (Nat.le_of_ble_eq_true rfl) hPk rfl (fun p e s m args below meth c C hr => wX7_exchangePlaces C hr a1 ha1 x1 x2 μ) h

/-! BasketRound.toNextArrangement([II)V -/
def fX7_toNextArrangement_L72 (a1 : Nat) : Nat → Int32 → Int32 → Mem → Option (Mem)
  | 0, _, _, _ => none
  | fu + 1, x4, x5, μ => if x5 ≤ x4 then (some μ) else (bv (fX7_exchangePlaces a1 x4 x5 μ) fun m1 => lb (x4 + (1 : Int32)) fun (y2 : Int32) => lb (x5 + (-1 : Int32)) fun (y3 : Int32) => fX7_toNextArrangement_L72 a1 fu y2 y3 m1)
set_option maxHeartbeats 4000000 in
set_option maxRecDepth 100000 in
theorem wX7_toNextArrangement_L72 {p : Program} {l : Launch} {e : Env} {s : State} {m : MethodId} {args : Array Value} {below : List Frame} {meth : Method} {c : Code} {A : Nat → Prop} {D : va_G} {ad : Nat → Nat} {cA : Nat → ClassId} (C : Cx p s m args meth c cX7_toNextArrangement RX7 6 A dsX D ad cA (EX A ad)) (hr : meth.sig.returnType = none) (a1 : Nat) (ha1 : dsX[a1]? = some (0, 5, [])) : ∀ (fu : Nat) (x4 : Int32) (x5 : Int32) (μ : Mem), T p l e (rmD 1) s m args below meth c 6 A dsX D ad cA enV (fX7_toNextArrangement_L72 a1 fu x4 x5 μ) 72 [(0, .ref (ad a1)), (4, .int x4), (5, .int x5)] [] μ
  | 0, _, _, _ => tt_none
  | fu + 1, x4, x5, μ => by
    have ih := fun (x4 : Int32) (x5 : Int32) (μ : Mem) => wX7_toNextArrangement_L72 (l := l) (e := e) (below := below) C hr a1 ha1 fu x4 x5 μ
    show T p l e (rmD 1) s m args below meth c 6 A dsX D ad cA enV (if x5 ≤ x4 then (some μ) else (bv (fX7_exchangePlaces a1 x4 x5 μ) fun m1 => lb (x4 + (1 : Int32)) fun (y2 : Int32) => lb (x5 + (-1 : Int32)) fun (y3 : Int32) => fX7_toNextArrangement_L72 a1 fu y2 y3 m1)) 72 [(0, .ref (ad a1)), (4, .int x4), (5, .int x5)] [] μ
    refine tt_iload C 1 dX7_toNextArrangement_72 rfl ?_
    refine tt_iload C 2 dX7_toNextArrangement_74 rfl ?_
    refine tt_if (fun h1 => ?_) (fun h1 => ?_)
    · refine tt_icmp_geT (tgt := 96) C h1 dX7_toNextArrangement_76 (by decide) ?_
      exact tt_vret rfl C hr dX7_toNextArrangement_96
    · refine tt_icmp_geF C 96 h1 dX7_toNextArrangement_76 (by decide) ?_
      refine tt_aload_n C 0 dX7_toNextArrangement_79 rfl rfl ?_
      refine tt_iload C 1 dX7_toNextArrangement_80 rfl ?_
      refine tt_iload C 2 dX7_toNextArrangement_82 rfl ?_
      refine tt_bv (fun m1 h2 => ?_)
      refine tt_callS (st := []) (As := [.ref (ad a1), .int x4, .int x5]) C (kX7_exchangePlaces C.2.2.2.2.2.2.2.1 a1 ha1 h2) mi_X7_exchangePlaces ml_RX7_340 mt_X7_exchangePlaces rfl (by decide) (by decide) (Nat.le_of_ble_eq_true rfl) dX7_toNextArrangement_84 ?_
      refine tt_iincB (d := (1 : Int32)) C 1 (fun y2 => [(4, .int y2), (0, .ref (ad a1)), (5, .int x5)]) dX7_toNextArrangement_87 rfl (by decide) (by decide) (fun _ => rfl) (fun y2 => ?_)
      refine tt_iincB (d := (-1 : Int32)) C 2 (fun y3 => [(5, .int y3), (4, .int y2), (0, .ref (ad a1))]) dX7_toNextArrangement_90 rfl (by decide) (by decide) (fun _ => rfl) (fun y3 => ?_)
      refine tt_goto (tgt := 72) C dX7_toNextArrangement_93 (by decide) ?_
      refine tt_sub [2, 1, 0] (L2 := [(0, .ref (ad a1)), (4, .int y2), (5, .int y3)]) rfl ?_
      exact ih y2 y3 m1

def fX7_toNextArrangement_J56 (a1 : Nat) (x1 : Int32) (x2 : Int32) (x3 : Int32) (μ : Mem) : Option (Mem) := bv (fX7_exchangePlaces a1 x2 x3 μ) fun m1 => lb (x2 + (1 : Int32)) fun (y2 : Int32) => lb (x1 - (1 : Int32)) fun (y3 : Int32) => fX7_toNextArrangement_L72 a1 FU y2 y3 m1
set_option maxHeartbeats 4000000 in
set_option maxRecDepth 100000 in
theorem wX7_toNextArrangement_J56 {p : Program} {l : Launch} {e : Env} {s : State} {m : MethodId} {args : Array Value} {below : List Frame} {meth : Method} {c : Code} {A : Nat → Prop} {D : va_G} {ad : Nat → Nat} {cA : Nat → ClassId} (C : Cx p s m args meth c cX7_toNextArrangement RX7 6 A dsX D ad cA (EX A ad)) (hr : meth.sig.returnType = none) (a1 : Nat) (ha1 : dsX[a1]? = some (0, 5, [])) (x1 : Int32) (x2 : Int32) (x3 : Int32) (μ : Mem) : T p l e (rmD 1) s m args below meth c 6 A dsX D ad cA enV (fX7_toNextArrangement_J56 a1 x1 x2 x3 μ) 56 [(0, .ref (ad a1)), (1, .int x1), (2, .int x2), (3, .int x3)] [] μ := by
  unfold fX7_toNextArrangement_J56
  refine tt_aload_n C 0 dX7_toNextArrangement_56 rfl rfl ?_
  refine tt_iload_n C 2 dX7_toNextArrangement_57 rfl rfl ?_
  refine tt_iload_n C 3 dX7_toNextArrangement_58 rfl rfl ?_
  refine tt_bv (fun m1 h1 => ?_)
  refine tt_callS (st := []) (As := [.ref (ad a1), .int x2, .int x3]) C (kX7_exchangePlaces C.2.2.2.2.2.2.2.1 a1 ha1 h1) mi_X7_exchangePlaces ml_RX7_340 mt_X7_exchangePlaces rfl (by decide) (by decide) (Nat.le_of_ble_eq_true rfl) dX7_toNextArrangement_59 ?_
  refine tt_iload_n C 2 dX7_toNextArrangement_62 rfl rfl ?_
  refine tt_iconst (v := (1 : Int32)) C dX7_toNextArrangement_63 (by decide) ?_
  refine tt_iadd C dX7_toNextArrangement_64 ?_
  refine tt_lbi (fun y2 => ?_)
  refine tt_istore (L2 := [(4, .int y2), (0, .ref (ad a1)), (1, .int x1), (2, .int x2), (3, .int x3)]) C dX7_toNextArrangement_65 (by decide) rfl ?_
  refine tt_iload_n C 2 dX7_toNextArrangement_67 rfl rfl ?_
  refine tt_iconst (v := (1 : Int32)) C dX7_toNextArrangement_68 (by decide) ?_
  refine tt_isub C dX7_toNextArrangement_69 ?_
  refine tt_lbi (fun y3 => ?_)
  refine tt_istore (L2 := [(5, .int y3), (4, .int y2), (0, .ref (ad a1)), (1, .int x1), (2, .int x2), (3, .int x3)]) C dX7_toNextArrangement_70 (by decide) rfl ?_
  refine tt_sub [2, 1, 0] (L2 := [(0, .ref (ad a1)), (4, .int y2), (5, .int y3)]) rfl ?_
  exact wX7_toNextArrangement_L72 C hr a1 ha1 FU y2 y3 m1

def fX7_toNextArrangement_L34 (a1 : Nat) : Nat → Int32 → Int32 → Int32 → Mem → Option (Mem)
  | 0, _, _, _, _ => none
  | fu + 1, x1, x2, x3, μ => if x3 ≤ (x2 + (1 : Int32)) then (fX7_toNextArrangement_J56 a1 x1 x2 x3 μ) else (gr x3 5 <| gr x2 5 <| if (μ a1 x2.toNatClampNeg) ≤ (μ a1 x3.toNatClampNeg) then (fX7_toNextArrangement_J56 a1 x1 x2 x3 μ) else (lb (x3 + (-1 : Int32)) fun (y1 : Int32) => fX7_toNextArrangement_L34 a1 fu x1 x2 y1 μ))
set_option maxHeartbeats 4000000 in
set_option maxRecDepth 100000 in
theorem wX7_toNextArrangement_L34 {p : Program} {l : Launch} {e : Env} {s : State} {m : MethodId} {args : Array Value} {below : List Frame} {meth : Method} {c : Code} {A : Nat → Prop} {D : va_G} {ad : Nat → Nat} {cA : Nat → ClassId} (C : Cx p s m args meth c cX7_toNextArrangement RX7 6 A dsX D ad cA (EX A ad)) (hr : meth.sig.returnType = none) (a1 : Nat) (ha1 : dsX[a1]? = some (0, 5, [])) : ∀ (fu : Nat) (x1 : Int32) (x2 : Int32) (x3 : Int32) (μ : Mem), T p l e (rmD 1) s m args below meth c 6 A dsX D ad cA enV (fX7_toNextArrangement_L34 a1 fu x1 x2 x3 μ) 34 [(0, .ref (ad a1)), (1, .int x1), (2, .int x2), (3, .int x3)] [] μ
  | 0, _, _, _, _ => tt_none
  | fu + 1, x1, x2, x3, μ => by
    have ih := fun (x1 : Int32) (x2 : Int32) (x3 : Int32) (μ : Mem) => wX7_toNextArrangement_L34 (l := l) (e := e) (below := below) C hr a1 ha1 fu x1 x2 x3 μ
    show T p l e (rmD 1) s m args below meth c 6 A dsX D ad cA enV (if x3 ≤ (x2 + (1 : Int32)) then (fX7_toNextArrangement_J56 a1 x1 x2 x3 μ) else (gr x3 5 <| gr x2 5 <| if (μ a1 x2.toNatClampNeg) ≤ (μ a1 x3.toNatClampNeg) then (fX7_toNextArrangement_J56 a1 x1 x2 x3 μ) else (lb (x3 + (-1 : Int32)) fun (y1 : Int32) => fX7_toNextArrangement_L34 a1 fu x1 x2 y1 μ))) 34 [(0, .ref (ad a1)), (1, .int x1), (2, .int x2), (3, .int x3)] [] μ
    refine tt_iload_n C 3 dX7_toNextArrangement_34 rfl rfl ?_
    refine tt_iload_n C 2 dX7_toNextArrangement_35 rfl rfl ?_
    refine tt_iconst (v := (1 : Int32)) C dX7_toNextArrangement_36 (by decide) ?_
    refine tt_iadd C dX7_toNextArrangement_37 ?_
    refine tt_if (fun h1 => ?_) (fun h1 => ?_)
    · refine tt_icmp_leT (tgt := 56) C h1 dX7_toNextArrangement_38 (by decide) ?_
      refine tt_sub [0, 1, 2, 3] (L2 := [(0, .ref (ad a1)), (1, .int x1), (2, .int x2), (3, .int x3)]) rfl ?_
      exact wX7_toNextArrangement_J56 C hr a1 ha1 x1 x2 x3 μ
    · refine tt_icmp_leF C 56 h1 dX7_toNextArrangement_38 (by decide) ?_
      refine tt_aload_n C 0 dX7_toNextArrangement_41 rfl rfl ?_
      refine tt_iload_n C 3 dX7_toNextArrangement_42 rfl rfl ?_
      refine tt_gr (fun h2 => ?_)
      refine tt_iald C ha1 h2 dX7_toNextArrangement_43 ?_
      refine tt_aload_n C 0 dX7_toNextArrangement_44 rfl rfl ?_
      refine tt_iload_n C 2 dX7_toNextArrangement_45 rfl rfl ?_
      refine tt_gr (fun h3 => ?_)
      refine tt_iald C ha1 h3 dX7_toNextArrangement_46 ?_
      refine tt_if (fun h4 => ?_) (fun h4 => ?_)
      · refine tt_icmp_geT (tgt := 56) C h4 dX7_toNextArrangement_47 (by decide) ?_
        refine tt_sub [0, 1, 2, 3] (L2 := [(0, .ref (ad a1)), (1, .int x1), (2, .int x2), (3, .int x3)]) rfl ?_
        exact wX7_toNextArrangement_J56 C hr a1 ha1 x1 x2 x3 μ
      · refine tt_icmp_geF C 56 h4 dX7_toNextArrangement_47 (by decide) ?_
        refine tt_iincB (d := (-1 : Int32)) C 3 (fun y1 => [(3, .int y1), (0, .ref (ad a1)), (1, .int x1), (2, .int x2)]) dX7_toNextArrangement_50 rfl (by decide) (by decide) (fun _ => rfl) (fun y1 => ?_)
        refine tt_goto (tgt := 34) C dX7_toNextArrangement_53 (by decide) ?_
        refine tt_sub [1, 2, 3, 0] (L2 := [(0, .ref (ad a1)), (1, .int x1), (2, .int x2), (3, .int y1)]) rfl ?_
        exact ih x1 x2 y1 μ

def fX7_toNextArrangement_J25 (a1 : Nat) (x1 : Int32) (x2 : Int32) (μ : Mem) : Option (Mem) := if (0 : Int32) ≤ x2 then (lb (x1 - (1 : Int32)) fun (y1 : Int32) => fX7_toNextArrangement_L34 a1 FU x1 x2 y1 μ) else (some μ)
set_option maxHeartbeats 4000000 in
set_option maxRecDepth 100000 in
theorem wX7_toNextArrangement_J25 {p : Program} {l : Launch} {e : Env} {s : State} {m : MethodId} {args : Array Value} {below : List Frame} {meth : Method} {c : Code} {A : Nat → Prop} {D : va_G} {ad : Nat → Nat} {cA : Nat → ClassId} (C : Cx p s m args meth c cX7_toNextArrangement RX7 6 A dsX D ad cA (EX A ad)) (hr : meth.sig.returnType = none) (a1 : Nat) (ha1 : dsX[a1]? = some (0, 5, [])) (x1 : Int32) (x2 : Int32) (μ : Mem) : T p l e (rmD 1) s m args below meth c 6 A dsX D ad cA enV (fX7_toNextArrangement_J25 a1 x1 x2 μ) 25 [(0, .ref (ad a1)), (1, .int x1), (2, .int x2)] [] μ := by
  unfold fX7_toNextArrangement_J25
  refine tt_iload_n C 2 dX7_toNextArrangement_25 rfl rfl ?_
  refine tt_if (fun h1 => ?_) (fun h1 => ?_)
  · refine tt_if_geT (tgt := 30) C h1 dX7_toNextArrangement_26 (by decide) ?_
    refine tt_iload_n C 1 dX7_toNextArrangement_30 rfl rfl ?_
    refine tt_iconst (v := (1 : Int32)) C dX7_toNextArrangement_31 (by decide) ?_
    refine tt_isub C dX7_toNextArrangement_32 ?_
    refine tt_lbi (fun y1 => ?_)
    refine tt_istore_n (L2 := [(3, .int y1), (0, .ref (ad a1)), (1, .int x1), (2, .int x2)]) C dX7_toNextArrangement_33 rfl (by decide) rfl ?_
    refine tt_sub [1, 2, 3, 0] (L2 := [(0, .ref (ad a1)), (1, .int x1), (2, .int x2), (3, .int y1)]) rfl ?_
    exact wX7_toNextArrangement_L34 C hr a1 ha1 FU x1 x2 y1 μ
  · refine tt_if_geF C 30 h1 dX7_toNextArrangement_26 (by decide) ?_
    exact tt_vret rfl C hr dX7_toNextArrangement_29

def fX7_toNextArrangement_L4 (a1 : Nat) : Nat → Int32 → Int32 → Mem → Option (Mem)
  | 0, _, _, _ => none
  | fu + 1, x1, x2, μ => if x2 < (0 : Int32) then (fX7_toNextArrangement_J25 a1 x1 x2 μ) else (gr x2 5 <| gr (x2 + (1 : Int32)) 5 <| if (μ a1 x2.toNatClampNeg) ≤ (μ a1 (x2 + (1 : Int32)).toNatClampNeg) then (fX7_toNextArrangement_J25 a1 x1 x2 μ) else (lb (x2 + (-1 : Int32)) fun (y1 : Int32) => fX7_toNextArrangement_L4 a1 fu x1 y1 μ))
set_option maxHeartbeats 4000000 in
set_option maxRecDepth 100000 in
theorem wX7_toNextArrangement_L4 {p : Program} {l : Launch} {e : Env} {s : State} {m : MethodId} {args : Array Value} {below : List Frame} {meth : Method} {c : Code} {A : Nat → Prop} {D : va_G} {ad : Nat → Nat} {cA : Nat → ClassId} (C : Cx p s m args meth c cX7_toNextArrangement RX7 6 A dsX D ad cA (EX A ad)) (hr : meth.sig.returnType = none) (a1 : Nat) (ha1 : dsX[a1]? = some (0, 5, [])) : ∀ (fu : Nat) (x1 : Int32) (x2 : Int32) (μ : Mem), T p l e (rmD 1) s m args below meth c 6 A dsX D ad cA enV (fX7_toNextArrangement_L4 a1 fu x1 x2 μ) 4 [(0, .ref (ad a1)), (1, .int x1), (2, .int x2)] [] μ
  | 0, _, _, _ => tt_none
  | fu + 1, x1, x2, μ => by
    have ih := fun (x1 : Int32) (x2 : Int32) (μ : Mem) => wX7_toNextArrangement_L4 (l := l) (e := e) (below := below) C hr a1 ha1 fu x1 x2 μ
    show T p l e (rmD 1) s m args below meth c 6 A dsX D ad cA enV (if x2 < (0 : Int32) then (fX7_toNextArrangement_J25 a1 x1 x2 μ) else (gr x2 5 <| gr (x2 + (1 : Int32)) 5 <| if (μ a1 x2.toNatClampNeg) ≤ (μ a1 (x2 + (1 : Int32)).toNatClampNeg) then (fX7_toNextArrangement_J25 a1 x1 x2 μ) else (lb (x2 + (-1 : Int32)) fun (y1 : Int32) => fX7_toNextArrangement_L4 a1 fu x1 y1 μ))) 4 [(0, .ref (ad a1)), (1, .int x1), (2, .int x2)] [] μ
    refine tt_iload_n C 2 dX7_toNextArrangement_4 rfl rfl ?_
    refine tt_if (fun h1 => ?_) (fun h1 => ?_)
    · refine tt_if_ltT (tgt := 25) C h1 dX7_toNextArrangement_5 (by decide) ?_
      refine tt_sub [0, 1, 2] (L2 := [(0, .ref (ad a1)), (1, .int x1), (2, .int x2)]) rfl ?_
      exact wX7_toNextArrangement_J25 C hr a1 ha1 x1 x2 μ
    · refine tt_if_ltF C 25 h1 dX7_toNextArrangement_5 (by decide) ?_
      refine tt_aload_n C 0 dX7_toNextArrangement_8 rfl rfl ?_
      refine tt_iload_n C 2 dX7_toNextArrangement_9 rfl rfl ?_
      refine tt_gr (fun h2 => ?_)
      refine tt_iald C ha1 h2 dX7_toNextArrangement_10 ?_
      refine tt_aload_n C 0 dX7_toNextArrangement_11 rfl rfl ?_
      refine tt_iload_n C 2 dX7_toNextArrangement_12 rfl rfl ?_
      refine tt_iconst (v := (1 : Int32)) C dX7_toNextArrangement_13 (by decide) ?_
      refine tt_iadd C dX7_toNextArrangement_14 ?_
      refine tt_gr (fun h3 => ?_)
      refine tt_iald C ha1 h3 dX7_toNextArrangement_15 ?_
      refine tt_if (fun h4 => ?_) (fun h4 => ?_)
      · refine tt_icmp_leT (tgt := 25) C h4 dX7_toNextArrangement_16 (by decide) ?_
        refine tt_sub [0, 1, 2] (L2 := [(0, .ref (ad a1)), (1, .int x1), (2, .int x2)]) rfl ?_
        exact wX7_toNextArrangement_J25 C hr a1 ha1 x1 x2 μ
      · refine tt_icmp_leF C 25 h4 dX7_toNextArrangement_16 (by decide) ?_
        refine tt_iincB (d := (-1 : Int32)) C 2 (fun y1 => [(2, .int y1), (0, .ref (ad a1)), (1, .int x1)]) dX7_toNextArrangement_19 rfl (by decide) (by decide) (fun _ => rfl) (fun y1 => ?_)
        refine tt_goto (tgt := 4) C dX7_toNextArrangement_22 (by decide) ?_
        refine tt_sub [1, 2, 0] (L2 := [(0, .ref (ad a1)), (1, .int x1), (2, .int y1)]) rfl ?_
        exact ih x1 y1 μ

def fX7_toNextArrangement (a1 : Nat) (x1 : Int32) (μ : Mem) : Option (Mem) := lb (x1 - (2 : Int32)) fun (y1 : Int32) => fX7_toNextArrangement_L4 a1 FU x1 y1 μ
set_option maxHeartbeats 4000000 in
set_option maxRecDepth 100000 in
theorem wX7_toNextArrangement {p : Program} {l : Launch} {e : Env} {s : State} {m : MethodId} {args : Array Value} {below : List Frame} {meth : Method} {c : Code} {A : Nat → Prop} {D : va_G} {ad : Nat → Nat} {cA : Nat → ClassId} (C : Cx p s m args meth c cX7_toNextArrangement RX7 6 A dsX D ad cA (EX A ad)) (hr : meth.sig.returnType = none) (a1 : Nat) (ha1 : dsX[a1]? = some (0, 5, [])) (x1 : Int32) (μ : Mem) : T p l e (rmD 1) s m args below meth c 6 A dsX D ad cA enV (fX7_toNextArrangement a1 x1 μ) 0 [(0, .ref (ad a1)), (1, .int x1)] [] μ := by
  unfold fX7_toNextArrangement
  refine tt_iload_n C 1 dX7_toNextArrangement_0 rfl rfl ?_
  refine tt_iconst (v := (2 : Int32)) C dX7_toNextArrangement_1 (by decide) ?_
  refine tt_isub C dX7_toNextArrangement_2 ?_
  refine tt_lbi (fun y1 => ?_)
  refine tt_istore_n (L2 := [(2, .int y1), (0, .ref (ad a1)), (1, .int x1)]) C dX7_toNextArrangement_3 rfl (by decide) rfl ?_
  refine tt_sub [1, 2, 0] (L2 := [(0, .ref (ad a1)), (1, .int x1), (2, .int y1)]) rfl ?_
  exact wX7_toNextArrangement_L4 C hr a1 ha1 FU x1 y1 μ
theorem kX7_toNextArrangement {l : Launch} {A : Nat → Prop} {D : va_G} {ad : Nat → Nat} {cA : Nat → ClassId} (hPk : Pk A dsX ad cA (EX A ad)) (a1 : Nat) (ha1 : dsX[a1]? = some (0, 5, [])) {x1 : Int32} {μ : Mem} {ν : Mem} (h : fX7_toNextArrangement a1 x1 μ = some ν) : Ct l A dsX D ad cA (EX A ad) yX7_toNextArrangement cX7_toNextArrangement 6 none 1 [.ref (ad a1), .int x1] μ (enV ν) :=
  ct_of (by decide) (Nat.le_of_ble_eq_true rfl) hPk rfl (fun p e s m args below meth c C hr => wX7_toNextArrangement C hr a1 ha1 x1 μ) h

/-! BasketRound.tryPackings()V -/
def fX7_tryPackings_J112 (k26 : Int32 → Int32 → Int32 → Mem → Option (Mem)) (x1 : Int32) (x2 : Int32) (x3 : Int32) (μ : Mem) : Option (Mem) := bv (fX7_toNextArrangement 26 x1 μ) fun m1 => lb (x3 + (1 : Int32)) fun (y2 : Int32) => k26 x1 x2 y2 m1
set_option maxHeartbeats 4000000 in
set_option maxRecDepth 100000 in
theorem wX7_tryPackings_J112 {p : Program} {l : Launch} {e : Env} {s : State} {m : MethodId} {args : Array Value} {below : List Frame} {meth : Method} {c : Code} {A : Nat → Prop} {D : va_G} {ad : Nat → Nat} {cA : Nat → ClassId} (C : Cx p s m args meth c cX7_tryPackings RX7 4 A dsX D ad cA (EX A ad)) (hr : meth.sig.returnType = none) (k26 : Int32 → Int32 → Int32 → Mem → Option (Mem)) (hk26 : ∀ (x1 : Int32) (x2 : Int32) (x3 : Int32) (μ : Mem), T p l e (rmD 3) s m args below meth c 4 A dsX D ad cA enV (k26 x1 x2 x3 μ) 26 [(0, .ref (ad 0)), (1, .int x1), (2, .int x2), (3, .int x3)] [] μ) (x1 : Int32) (x2 : Int32) (x3 : Int32) (μ : Mem) : T p l e (rmD 3) s m args below meth c 4 A dsX D ad cA enV (fX7_tryPackings_J112 k26 x1 x2 x3 μ) 112 [(0, .ref (ad 0)), (1, .int x1), (2, .int x2), (3, .int x3)] [] μ := by
  unfold fX7_tryPackings_J112
  refine tt_aload_n C 0 dX7_tryPackings_112 rfl rfl ?_
  refine tt_getR C (j := 3) (r0 := 24) dX_0 rfl fl_RX7_37 dX7_tryPackings_113 ?_
  refine tt_getR C (j := 2) (r0 := 26) dX_24 rfl fl_RX7_337 dX7_tryPackings_116 ?_
  refine tt_iload_n C 1 dX7_tryPackings_119 rfl rfl ?_
  refine tt_bv (fun m1 h1 => ?_)
  refine tt_callS (st := []) (As := [.ref (ad 26), .int x1]) C (kX7_toNextArrangement C.2.2.2.2.2.2.2.1 26 dX_26 h1) mi_X7_toNextArrangement ml_RX7_230 mt_X7_toNextArrangement rfl (by decide) (by decide) (Nat.le_of_ble_eq_true rfl) dX7_tryPackings_120 ?_
  refine tt_iincB (d := (1 : Int32)) C 3 (fun y2 => [(3, .int y2), (0, .ref (ad 0)), (1, .int x1), (2, .int x2)]) dX7_tryPackings_123 rfl (by decide) (by decide) (fun _ => rfl) (fun y2 => ?_)
  refine tt_goto (tgt := 26) C dX7_tryPackings_126 (by decide) ?_
  refine tt_sub [1, 2, 3, 0] (L2 := [(0, .ref (ad 0)), (1, .int x1), (2, .int x2), (3, .int y2)]) rfl ?_
  exact hk26 x1 x2 y2 m1

def fX7_tryPackings_L26 : Nat → Int32 → Int32 → Int32 → Mem → Option (Mem)
  | 0, _, _, _, _ => none
  | fu + 1, x1, x2, x3, μ => if x2 ≤ x3 then (some μ) else (bv (fX6_stow μ) fun m1 => bv (fX6_finish m1) fun m2 => bi (fX0_isBeatenBy (m2 24 16) (m2 24 13) m2) fun v4 m3 => if v4 = (0 : Int32) then (fX7_tryPackings_J112 (fun x1 x2 x3 μ => fX7_tryPackings_L26 fu x1 x2 x3 μ) x1 x2 x3 m3) else (bi (fX7_numberOf 25 x1 m3) fun v6 m5 => bi (fX7_numberOf 26 x1 m5) fun v8 m7 => bv (fX0_become (m3 24 16) (m3 24 13) v6 v8 m7) fun m9 => fX7_tryPackings_J112 (fun x1 x2 x3 μ => fX7_tryPackings_L26 fu x1 x2 x3 μ) x1 x2 x3 m9))
set_option maxHeartbeats 4000000 in
set_option maxRecDepth 100000 in
theorem wX7_tryPackings_L26 {p : Program} {l : Launch} {e : Env} {s : State} {m : MethodId} {args : Array Value} {below : List Frame} {meth : Method} {c : Code} {A : Nat → Prop} {D : va_G} {ad : Nat → Nat} {cA : Nat → ClassId} (C : Cx p s m args meth c cX7_tryPackings RX7 4 A dsX D ad cA (EX A ad)) (hr : meth.sig.returnType = none) : ∀ (fu : Nat) (x1 : Int32) (x2 : Int32) (x3 : Int32) (μ : Mem), T p l e (rmD 3) s m args below meth c 4 A dsX D ad cA enV (fX7_tryPackings_L26 fu x1 x2 x3 μ) 26 [(0, .ref (ad 0)), (1, .int x1), (2, .int x2), (3, .int x3)] [] μ
  | 0, _, _, _, _ => tt_none
  | fu + 1, x1, x2, x3, μ => by
    have ih := fun (x1 : Int32) (x2 : Int32) (x3 : Int32) (μ : Mem) => wX7_tryPackings_L26 (l := l) (e := e) (below := below) C hr fu x1 x2 x3 μ
    show T p l e (rmD 3) s m args below meth c 4 A dsX D ad cA enV (if x2 ≤ x3 then (some μ) else (bv (fX6_stow μ) fun m1 => bv (fX6_finish m1) fun m2 => bi (fX0_isBeatenBy (m2 24 16) (m2 24 13) m2) fun v4 m3 => if v4 = (0 : Int32) then (fX7_tryPackings_J112 (fun x1 x2 x3 μ => fX7_tryPackings_L26 fu x1 x2 x3 μ) x1 x2 x3 m3) else (bi (fX7_numberOf 25 x1 m3) fun v6 m5 => bi (fX7_numberOf 26 x1 m5) fun v8 m7 => bv (fX0_become (m3 24 16) (m3 24 13) v6 v8 m7) fun m9 => fX7_tryPackings_J112 (fun x1 x2 x3 μ => fX7_tryPackings_L26 fu x1 x2 x3 μ) x1 x2 x3 m9))) 26 [(0, .ref (ad 0)), (1, .int x1), (2, .int x2), (3, .int x3)] [] μ
    refine tt_iload_n C 3 dX7_tryPackings_26 rfl rfl ?_
    refine tt_iload_n C 2 dX7_tryPackings_27 rfl rfl ?_
    refine tt_if (fun h1 => ?_) (fun h1 => ?_)
    · refine tt_icmp_geT (tgt := 129) C h1 dX7_tryPackings_28 (by decide) ?_
      exact tt_vret rfl C hr dX7_tryPackings_129
    · refine tt_icmp_geF C 129 h1 dX7_tryPackings_28 (by decide) ?_
      refine tt_aload_n C 0 dX7_tryPackings_31 rfl rfl ?_
      refine tt_getR C (j := 3) (r0 := 24) dX_0 rfl fl_RX7_37 dX7_tryPackings_32 ?_
      refine tt_bv (fun m1 h2 => ?_)
      refine tt_callV (st := []) (As := []) C (kX6_stow C.2.2.2.2.2.2.2.1 h2) mi_X6_stow ml_RX7_244 mv_X6_stow ms_X6_stow (q := (RX6, TX6, 17)) dX_24 rfl rfl (by decide) (by decide) (Nat.le_of_ble_eq_true rfl) dX7_tryPackings_35 ?_
      refine tt_aload_n C 0 dX7_tryPackings_38 rfl rfl ?_
      refine tt_getR C (j := 3) (r0 := 24) dX_0 rfl fl_RX7_37 dX7_tryPackings_39 ?_
      refine tt_bv (fun m2 h3 => ?_)
      refine tt_callV (st := []) (As := []) C (kX6_finish C.2.2.2.2.2.2.2.1 h3) mi_X6_finish ml_RX7_224 mv_X6_finish ms_X6_finish (q := (RX6, TX6, 17)) dX_24 rfl rfl (by decide) (by decide) (Nat.le_of_ble_eq_true rfl) dX7_tryPackings_42 ?_
      refine tt_aload_n C 0 dX7_tryPackings_45 rfl rfl ?_
      refine tt_getR C (j := 4) (r0 := 30) dX_0 rfl fl_RX7_44 dX7_tryPackings_46 ?_
      refine tt_aload_n C 0 dX7_tryPackings_49 rfl rfl ?_
      refine tt_getR C (j := 3) (r0 := 24) dX_0 rfl fl_RX7_37 dX7_tryPackings_50 ?_
      refine tt_getI C (j := 16) dX_24 rfl fl_RX7_177 dX7_tryPackings_53 ?_
      refine tt_aload_n C 0 dX7_tryPackings_56 rfl rfl ?_
      refine tt_getR C (j := 3) (r0 := 24) dX_0 rfl fl_RX7_37 dX7_tryPackings_57 ?_
      refine tt_getI C (j := 13) dX_24 rfl fl_RX7_168 dX7_tryPackings_60 ?_
      refine tt_bi (fun v4 m3 h4 => ?_)
      refine tt_callV (st := []) (As := [.int (m2 24 16), .int (m2 24 13)]) C (kX0_isBeatenBy C.2.2.2.2.2.2.2.1 h4) mi_X0_isBeatenBy ml_RX7_237 mv_X0_isBeatenBy ms_X0_isBeatenBy (q := (RX0, TX0, 5)) dX_30 rfl rfl (by decide) (by decide) (Nat.le_of_ble_eq_true rfl) dX7_tryPackings_63 ?_
      refine tt_if (fun h5 => ?_) (fun h5 => ?_)
      · refine tt_if_eqT (tgt := 112) C h5 dX7_tryPackings_66 (by decide) ?_
        refine tt_sub [0, 1, 2, 3] (L2 := [(0, .ref (ad 0)), (1, .int x1), (2, .int x2), (3, .int x3)]) rfl ?_
        exact wX7_tryPackings_J112 C hr (fun x1 x2 x3 μ => fX7_tryPackings_L26 fu x1 x2 x3 μ) (fun x1 x2 x3 μ => ih x1 x2 x3 μ) x1 x2 x3 m3
      · refine tt_if_eqF C 112 h5 dX7_tryPackings_66 (by decide) ?_
        refine tt_aload_n C 0 dX7_tryPackings_69 rfl rfl ?_
        refine tt_getR C (j := 4) (r0 := 30) dX_0 rfl fl_RX7_44 dX7_tryPackings_70 ?_
        refine tt_aload_n C 0 dX7_tryPackings_73 rfl rfl ?_
        refine tt_getR C (j := 3) (r0 := 24) dX_0 rfl fl_RX7_37 dX7_tryPackings_74 ?_
        refine tt_getI C (j := 16) dX_24 rfl fl_RX7_177 dX7_tryPackings_77 ?_
        refine tt_aload_n C 0 dX7_tryPackings_80 rfl rfl ?_
        refine tt_getR C (j := 3) (r0 := 24) dX_0 rfl fl_RX7_37 dX7_tryPackings_81 ?_
        refine tt_getI C (j := 13) dX_24 rfl fl_RX7_168 dX7_tryPackings_84 ?_
        refine tt_aload_n C 0 dX7_tryPackings_87 rfl rfl ?_
        refine tt_getR C (j := 3) (r0 := 24) dX_0 rfl fl_RX7_37 dX7_tryPackings_88 ?_
        refine tt_getR C (j := 1) (r0 := 25) dX_24 rfl fl_RX7_227 dX7_tryPackings_91 ?_
        refine tt_iload_n C 1 dX7_tryPackings_94 rfl rfl ?_
        refine tt_bi (fun v6 m5 h6 => ?_)
        refine tt_callS (st := [.int (m3 24 13), .int (m3 24 16), .ref (ad 30)]) (As := [.ref (ad 25), .int x1]) C (kX7_numberOf C.2.2.2.2.2.2.2.1 25 dX_25 h6) mi_X7_numberOf ml_RX7_122 mt_X7_numberOf rfl (by decide) (by decide) (Nat.le_of_ble_eq_true rfl) dX7_tryPackings_95 ?_
        refine tt_aload_n C 0 dX7_tryPackings_98 rfl rfl ?_
        refine tt_getR C (j := 3) (r0 := 24) dX_0 rfl fl_RX7_37 dX7_tryPackings_99 ?_
        refine tt_getR C (j := 2) (r0 := 26) dX_24 rfl fl_RX7_337 dX7_tryPackings_102 ?_
        refine tt_iload_n C 1 dX7_tryPackings_105 rfl rfl ?_
        refine tt_bi (fun v8 m7 h7 => ?_)
        refine tt_callS (st := [.int v6, .int (m3 24 13), .int (m3 24 16), .ref (ad 30)]) (As := [.ref (ad 26), .int x1]) C (kX7_numberOf C.2.2.2.2.2.2.2.1 26 dX_26 h7) mi_X7_numberOf ml_RX7_122 mt_X7_numberOf rfl (by decide) (by decide) (Nat.le_of_ble_eq_true rfl) dX7_tryPackings_106 ?_
        refine tt_bv (fun m9 h8 => ?_)
        refine tt_callV (st := []) (As := [.int (m3 24 16), .int (m3 24 13), .int v6, .int v8]) C (kX0_become C.2.2.2.2.2.2.2.1 h8) mi_X0_become ml_RX7_241 mv_X0_become ms_X0_become (q := (RX0, TX0, 5)) dX_30 rfl rfl (by decide) (by decide) (Nat.le_of_ble_eq_true rfl) dX7_tryPackings_109 ?_
        refine tt_sub [0, 1, 2, 3] (L2 := [(0, .ref (ad 0)), (1, .int x1), (2, .int x2), (3, .int x3)]) rfl ?_
        exact wX7_tryPackings_J112 C hr (fun x1 x2 x3 μ => fX7_tryPackings_L26 fu x1 x2 x3 μ) (fun x1 x2 x3 μ => ih x1 x2 x3 μ) x1 x2 x3 m9

def fX7_tryPackings (μ : Mem) : Option (Mem) := lb (μ 3 5) fun (y1 : Int32) => bi (fX7_arrangements y1 μ) fun v3 m2 => bv (fX7_layByOrder 26 y1 m2) fun m4 => lb (0 : Int32) fun (y5 : Int32) => fX7_tryPackings_L26 FU y1 v3 y5 m4
set_option maxHeartbeats 4000000 in
set_option maxRecDepth 100000 in
theorem wX7_tryPackings {p : Program} {l : Launch} {e : Env} {s : State} {m : MethodId} {args : Array Value} {below : List Frame} {meth : Method} {c : Code} {A : Nat → Prop} {D : va_G} {ad : Nat → Nat} {cA : Nat → ClassId} (C : Cx p s m args meth c cX7_tryPackings RX7 4 A dsX D ad cA (EX A ad)) (hr : meth.sig.returnType = none) (μ : Mem) : T p l e (rmD 3) s m args below meth c 4 A dsX D ad cA enV (fX7_tryPackings μ) 0 [(0, .ref (ad 0))] [] μ := by
  unfold fX7_tryPackings
  refine tt_aload_n C 0 dX7_tryPackings_0 rfl rfl ?_
  refine tt_getR C (j := 1) (r0 := 3) dX_0 rfl fl_RX7_19 dX7_tryPackings_1 ?_
  refine tt_getI C (j := 5) dX_3 rfl fl_RX7_109 dX7_tryPackings_4 ?_
  refine tt_lbi (fun y1 => ?_)
  refine tt_istore_n (L2 := [(1, .int y1), (0, .ref (ad 0))]) C dX7_tryPackings_7 rfl (by decide) rfl ?_
  refine tt_iload_n C 0 dX7_tryPackings_8 rfl rfl ?_
  refine tt_bi (fun v3 m2 h1 => ?_)
  refine tt_callS (st := []) (As := [.int y1]) C (kX7_arrangements C.2.2.2.2.2.2.2.1 h1) mi_X7_arrangements ml_RX7_218 mt_X7_arrangements rfl (by decide) (by decide) (Nat.le_of_ble_eq_true rfl) dX7_tryPackings_9 ?_
  refine tt_istore_n (L2 := [(2, .int v3), (1, .int y1), (0, .ref (ad 0))]) C dX7_tryPackings_12 rfl (by decide) rfl ?_
  refine tt_aload_n C 2 dX7_tryPackings_13 rfl rfl ?_
  refine tt_getR C (j := 3) (r0 := 24) dX_0 rfl fl_RX7_37 dX7_tryPackings_14 ?_
  refine tt_getR C (j := 2) (r0 := 26) dX_24 rfl fl_RX7_337 dX7_tryPackings_17 ?_
  refine tt_iload_n C 1 dX7_tryPackings_20 rfl rfl ?_
  refine tt_bv (fun m4 h2 => ?_)
  refine tt_callS (st := []) (As := [.ref (ad 26), .int y1]) C (kX7_layByOrder C.2.2.2.2.2.2.2.1 26 dX_26 h2) mi_X7_layByOrder ml_RX7_331 mt_X7_layByOrder rfl (by decide) (by decide) (Nat.le_of_ble_eq_true rfl) dX7_tryPackings_21 ?_
  refine tt_iconst (v := (0 : Int32)) C dX7_tryPackings_24 (by decide) ?_
  refine tt_lbi (fun y5 => ?_)
  refine tt_istore_n (L2 := [(3, .int y5), (2, .int v3), (1, .int y1), (0, .ref (ad 0))]) C dX7_tryPackings_25 rfl (by decide) rfl ?_
  refine tt_sub [3, 2, 1, 0] (L2 := [(0, .ref (ad 0)), (1, .int y1), (2, .int v3), (3, .int y5)]) rfl ?_
  exact wX7_tryPackings_L26 C hr FU y1 v3 y5 m4
theorem kX7_tryPackings {l : Launch} {A : Nat → Prop} {D : va_G} {ad : Nat → Nat} {cA : Nat → ClassId} (hPk : Pk A dsX ad cA (EX A ad)) {μ : Mem} {ν : Mem} (h : fX7_tryPackings μ = some ν) : Ct l A dsX D ad cA (EX A ad) yX7_tryPackings cX7_tryPackings 4 none 3 [.ref (ad 0)] μ (enV ν) :=
  ct_of (by decide) (Nat.le_of_ble_eq_true rfl) hPk rfl (fun p e s m args below meth c C hr => wX7_tryPackings C hr μ) h

/-! BasketRound.findBest()V -/
def fX7_findBest_J105 (k51 : Int32 → Int32 → Int32 → Mem → Option (Mem)) (x1 : Int32) (x2 : Int32) (x3 : Int32) (μ : Mem) : Option (Mem) := bv (fX7_toNextArrangement 25 x1 μ) fun m1 => lb (x3 + (1 : Int32)) fun (y2 : Int32) => k51 x1 x2 y2 m1
set_option maxHeartbeats 4000000 in
set_option maxRecDepth 100000 in
theorem wX7_findBest_J105 {p : Program} {l : Launch} {e : Env} {s : State} {m : MethodId} {args : Array Value} {below : List Frame} {meth : Method} {c : Code} {A : Nat → Prop} {D : va_G} {ad : Nat → Nat} {cA : Nat → ClassId} (C : Cx p s m args meth c cX7_findBest RX7 4 A dsX D ad cA (EX A ad)) (hr : meth.sig.returnType = none) (k51 : Int32 → Int32 → Int32 → Mem → Option (Mem)) (hk51 : ∀ (x1 : Int32) (x2 : Int32) (x3 : Int32) (μ : Mem), T p l e (rmD 4) s m args below meth c 4 A dsX D ad cA enV (k51 x1 x2 x3 μ) 51 [(0, .ref (ad 0)), (1, .int x1), (2, .int x2), (3, .int x3)] [] μ) (x1 : Int32) (x2 : Int32) (x3 : Int32) (μ : Mem) : T p l e (rmD 4) s m args below meth c 4 A dsX D ad cA enV (fX7_findBest_J105 k51 x1 x2 x3 μ) 105 [(0, .ref (ad 0)), (1, .int x1), (2, .int x2), (3, .int x3)] [] μ := by
  unfold fX7_findBest_J105
  refine tt_aload_n C 0 dX7_findBest_105 rfl rfl ?_
  refine tt_getR C (j := 3) (r0 := 24) dX_0 rfl fl_RX7_37 dX7_findBest_106 ?_
  refine tt_getR C (j := 1) (r0 := 25) dX_24 rfl fl_RX7_227 dX7_findBest_109 ?_
  refine tt_iload_n C 1 dX7_findBest_112 rfl rfl ?_
  refine tt_bv (fun m1 h1 => ?_)
  refine tt_callS (st := []) (As := [.ref (ad 25), .int x1]) C (kX7_toNextArrangement C.2.2.2.2.2.2.2.1 25 dX_25 h1) mi_X7_toNextArrangement ml_RX7_230 mt_X7_toNextArrangement rfl (by decide) (by decide) (Nat.le_of_ble_eq_true rfl) dX7_findBest_113 ?_
  refine tt_iincB (d := (1 : Int32)) C 3 (fun y2 => [(3, .int y2), (0, .ref (ad 0)), (1, .int x1), (2, .int x2)]) dX7_findBest_116 rfl (by decide) (by decide) (fun _ => rfl) (fun y2 => ?_)
  refine tt_goto (tgt := 51) C dX7_findBest_119 (by decide) ?_
  refine tt_sub [1, 2, 3, 0] (L2 := [(0, .ref (ad 0)), (1, .int x1), (2, .int x2), (3, .int y2)]) rfl ?_
  exact hk51 x1 x2 y2 m1

def fX7_findBest_L51 : Nat → Int32 → Int32 → Int32 → Mem → Option (Mem)
  | 0, _, _, _, _ => none
  | fu + 1, x1, x2, x3, μ => if x2 ≤ x3 then (some μ) else (bv (fX6_ride μ) fun m1 => bv (fX6_stowLoose m1) fun m2 => bv (fX6_finish m2) fun m3 => bi (fX0_isBeatenBy (m3 24 16) (m3 24 13) m3) fun v5 m4 => if v5 = (0 : Int32) then (fX7_findBest_J105 (fun x1 x2 x3 μ => fX7_findBest_L51 fu x1 x2 x3 μ) x1 x2 x3 m4) else (bv (fX7_tryPackings m4) fun m6 => fX7_findBest_J105 (fun x1 x2 x3 μ => fX7_findBest_L51 fu x1 x2 x3 μ) x1 x2 x3 m6))
set_option maxHeartbeats 4000000 in
set_option maxRecDepth 100000 in
theorem wX7_findBest_L51 {p : Program} {l : Launch} {e : Env} {s : State} {m : MethodId} {args : Array Value} {below : List Frame} {meth : Method} {c : Code} {A : Nat → Prop} {D : va_G} {ad : Nat → Nat} {cA : Nat → ClassId} (C : Cx p s m args meth c cX7_findBest RX7 4 A dsX D ad cA (EX A ad)) (hr : meth.sig.returnType = none) : ∀ (fu : Nat) (x1 : Int32) (x2 : Int32) (x3 : Int32) (μ : Mem), T p l e (rmD 4) s m args below meth c 4 A dsX D ad cA enV (fX7_findBest_L51 fu x1 x2 x3 μ) 51 [(0, .ref (ad 0)), (1, .int x1), (2, .int x2), (3, .int x3)] [] μ
  | 0, _, _, _, _ => tt_none
  | fu + 1, x1, x2, x3, μ => by
    have ih := fun (x1 : Int32) (x2 : Int32) (x3 : Int32) (μ : Mem) => wX7_findBest_L51 (l := l) (e := e) (below := below) C hr fu x1 x2 x3 μ
    show T p l e (rmD 4) s m args below meth c 4 A dsX D ad cA enV (if x2 ≤ x3 then (some μ) else (bv (fX6_ride μ) fun m1 => bv (fX6_stowLoose m1) fun m2 => bv (fX6_finish m2) fun m3 => bi (fX0_isBeatenBy (m3 24 16) (m3 24 13) m3) fun v5 m4 => if v5 = (0 : Int32) then (fX7_findBest_J105 (fun x1 x2 x3 μ => fX7_findBest_L51 fu x1 x2 x3 μ) x1 x2 x3 m4) else (bv (fX7_tryPackings m4) fun m6 => fX7_findBest_J105 (fun x1 x2 x3 μ => fX7_findBest_L51 fu x1 x2 x3 μ) x1 x2 x3 m6))) 51 [(0, .ref (ad 0)), (1, .int x1), (2, .int x2), (3, .int x3)] [] μ
    refine tt_iload_n C 3 dX7_findBest_51 rfl rfl ?_
    refine tt_iload_n C 2 dX7_findBest_52 rfl rfl ?_
    refine tt_if (fun h1 => ?_) (fun h1 => ?_)
    · refine tt_icmp_geT (tgt := 122) C h1 dX7_findBest_53 (by decide) ?_
      exact tt_vret rfl C hr dX7_findBest_122
    · refine tt_icmp_geF C 122 h1 dX7_findBest_53 (by decide) ?_
      refine tt_aload_n C 0 dX7_findBest_56 rfl rfl ?_
      refine tt_getR C (j := 3) (r0 := 24) dX_0 rfl fl_RX7_37 dX7_findBest_57 ?_
      refine tt_bv (fun m1 h2 => ?_)
      refine tt_callV (st := []) (As := []) C (kX6_ride C.2.2.2.2.2.2.2.1 h2) mi_X6_ride ml_RX7_212 mv_X6_ride ms_X6_ride (q := (RX6, TX6, 17)) dX_24 rfl rfl (by decide) (by decide) (Nat.le_of_ble_eq_true rfl) dX7_findBest_60 ?_
      refine tt_aload_n C 0 dX7_findBest_63 rfl rfl ?_
      refine tt_getR C (j := 3) (r0 := 24) dX_0 rfl fl_RX7_37 dX7_findBest_64 ?_
      refine tt_bv (fun m2 h3 => ?_)
      refine tt_callV (st := []) (As := []) C (kX6_stowLoose C.2.2.2.2.2.2.2.1 h3) mi_X6_stowLoose ml_RX7_334 mv_X6_stowLoose ms_X6_stowLoose (q := (RX6, TX6, 17)) dX_24 rfl rfl (by decide) (by decide) (Nat.le_of_ble_eq_true rfl) dX7_findBest_67 ?_
      refine tt_aload_n C 0 dX7_findBest_70 rfl rfl ?_
      refine tt_getR C (j := 3) (r0 := 24) dX_0 rfl fl_RX7_37 dX7_findBest_71 ?_
      refine tt_bv (fun m3 h4 => ?_)
      refine tt_callV (st := []) (As := []) C (kX6_finish C.2.2.2.2.2.2.2.1 h4) mi_X6_finish ml_RX7_224 mv_X6_finish ms_X6_finish (q := (RX6, TX6, 17)) dX_24 rfl rfl (by decide) (by decide) (Nat.le_of_ble_eq_true rfl) dX7_findBest_74 ?_
      refine tt_aload_n C 0 dX7_findBest_77 rfl rfl ?_
      refine tt_getR C (j := 4) (r0 := 30) dX_0 rfl fl_RX7_44 dX7_findBest_78 ?_
      refine tt_aload_n C 0 dX7_findBest_81 rfl rfl ?_
      refine tt_getR C (j := 3) (r0 := 24) dX_0 rfl fl_RX7_37 dX7_findBest_82 ?_
      refine tt_getI C (j := 16) dX_24 rfl fl_RX7_177 dX7_findBest_85 ?_
      refine tt_aload_n C 0 dX7_findBest_88 rfl rfl ?_
      refine tt_getR C (j := 3) (r0 := 24) dX_0 rfl fl_RX7_37 dX7_findBest_89 ?_
      refine tt_getI C (j := 13) dX_24 rfl fl_RX7_168 dX7_findBest_92 ?_
      refine tt_bi (fun v5 m4 h5 => ?_)
      refine tt_callV (st := []) (As := [.int (m3 24 16), .int (m3 24 13)]) C (kX0_isBeatenBy C.2.2.2.2.2.2.2.1 h5) mi_X0_isBeatenBy ml_RX7_237 mv_X0_isBeatenBy ms_X0_isBeatenBy (q := (RX0, TX0, 5)) dX_30 rfl rfl (by decide) (by decide) (Nat.le_of_ble_eq_true rfl) dX7_findBest_95 ?_
      refine tt_if (fun h6 => ?_) (fun h6 => ?_)
      · refine tt_if_eqT (tgt := 105) C h6 dX7_findBest_98 (by decide) ?_
        refine tt_sub [0, 1, 2, 3] (L2 := [(0, .ref (ad 0)), (1, .int x1), (2, .int x2), (3, .int x3)]) rfl ?_
        exact wX7_findBest_J105 C hr (fun x1 x2 x3 μ => fX7_findBest_L51 fu x1 x2 x3 μ) (fun x1 x2 x3 μ => ih x1 x2 x3 μ) x1 x2 x3 m4
      · refine tt_if_eqF C 105 h6 dX7_findBest_98 (by decide) ?_
        refine tt_aload_n C 0 dX7_findBest_101 rfl rfl ?_
        refine tt_bv (fun m6 h7 => ?_)
        refine tt_callV (st := []) (As := []) C (kX7_tryPackings C.2.2.2.2.2.2.2.1 h7) mi_X7_tryPackings ml_RX7_215 mv_X7_tryPackings ms_X7_tryPackings (q := (RX7, TX7, 11)) dX_0 rfl rfl (by decide) (by decide) (Nat.le_of_ble_eq_true rfl) dX7_findBest_102 ?_
        refine tt_sub [0, 1, 2, 3] (L2 := [(0, .ref (ad 0)), (1, .int x1), (2, .int x2), (3, .int x3)]) rfl ?_
        exact wX7_findBest_J105 C hr (fun x1 x2 x3 μ => fX7_findBest_L51 fu x1 x2 x3 μ) (fun x1 x2 x3 μ => ih x1 x2 x3 μ) x1 x2 x3 m6

def fX7_findBest (μ : Mem) : Option (Mem) := lb (μ 3 5) fun (y1 : Int32) => bi (fX7_arrangements y1 μ) fun v3 m2 => bv (fX0_clear m2) fun m4 => bi (fX7_allBits m4) fun v6 m5 => bv (fX6_take v6 (m5 3 7) m5) fun m7 => bv (fX7_layByOrder 25 y1 m7) fun m8 => lb (0 : Int32) fun (y9 : Int32) => fX7_findBest_L51 FU y1 v3 y9 m8
set_option maxHeartbeats 4000000 in
set_option maxRecDepth 100000 in
theorem wX7_findBest {p : Program} {l : Launch} {e : Env} {s : State} {m : MethodId} {args : Array Value} {below : List Frame} {meth : Method} {c : Code} {A : Nat → Prop} {D : va_G} {ad : Nat → Nat} {cA : Nat → ClassId} (C : Cx p s m args meth c cX7_findBest RX7 4 A dsX D ad cA (EX A ad)) (hr : meth.sig.returnType = none) (μ : Mem) : T p l e (rmD 4) s m args below meth c 4 A dsX D ad cA enV (fX7_findBest μ) 0 [(0, .ref (ad 0))] [] μ := by
  unfold fX7_findBest
  refine tt_aload_n C 0 dX7_findBest_0 rfl rfl ?_
  refine tt_getR C (j := 1) (r0 := 3) dX_0 rfl fl_RX7_19 dX7_findBest_1 ?_
  refine tt_getI C (j := 5) dX_3 rfl fl_RX7_109 dX7_findBest_4 ?_
  refine tt_lbi (fun y1 => ?_)
  refine tt_istore_n (L2 := [(1, .int y1), (0, .ref (ad 0))]) C dX7_findBest_7 rfl (by decide) rfl ?_
  refine tt_iload_n C 0 dX7_findBest_8 rfl rfl ?_
  refine tt_bi (fun v3 m2 h1 => ?_)
  refine tt_callS (st := []) (As := [.int y1]) C (kX7_arrangements C.2.2.2.2.2.2.2.1 h1) mi_X7_arrangements ml_RX7_218 mt_X7_arrangements rfl (by decide) (by decide) (Nat.le_of_ble_eq_true rfl) dX7_findBest_9 ?_
  refine tt_istore_n (L2 := [(2, .int v3), (1, .int y1), (0, .ref (ad 0))]) C dX7_findBest_12 rfl (by decide) rfl ?_
  refine tt_aload_n C 2 dX7_findBest_13 rfl rfl ?_
  refine tt_getR C (j := 4) (r0 := 30) dX_0 rfl fl_RX7_44 dX7_findBest_14 ?_
  refine tt_bv (fun m4 h2 => ?_)
  refine tt_callV (st := []) (As := []) C (kX0_clear C.2.2.2.2.2.2.2.1 h2) mi_X0_clear ml_RX7_201 mv_X0_clear ms_X0_clear (q := (RX0, TX0, 5)) dX_30 rfl rfl (by decide) (by decide) (Nat.le_of_ble_eq_true rfl) dX7_findBest_17 ?_
  refine tt_aload_n C 2 dX7_findBest_20 rfl rfl ?_
  refine tt_getR C (j := 3) (r0 := 24) dX_0 rfl fl_RX7_37 dX7_findBest_21 ?_
  refine tt_aload_n C 2 dX7_findBest_24 rfl rfl ?_
  refine tt_bi (fun v6 m5 h3 => ?_)
  refine tt_callV (st := [.ref (ad 24)]) (As := []) C (kX7_allBits C.2.2.2.2.2.2.2.1 h3) mi_X7_allBits ml_RX7_204 mv_X7_allBits ms_X7_allBits (q := (RX7, TX7, 11)) dX_0 rfl rfl (by decide) (by decide) (Nat.le_of_ble_eq_true rfl) dX7_findBest_25 ?_
  refine tt_aload_n C 2 dX7_findBest_28 rfl rfl ?_
  refine tt_getR C (j := 1) (r0 := 3) dX_0 rfl fl_RX7_19 dX7_findBest_29 ?_
  refine tt_getI C (j := 7) dX_3 rfl fl_RX7_115 dX7_findBest_32 ?_
  refine tt_bv (fun m7 h4 => ?_)
  refine tt_callV (st := []) (As := [.int v6, .int (m5 3 7)]) C (kX6_take C.2.2.2.2.2.2.2.1 h4) mi_X6_take ml_RX7_208 mv_X6_take ms_X6_take (q := (RX6, TX6, 17)) dX_24 rfl rfl (by decide) (by decide) (Nat.le_of_ble_eq_true rfl) dX7_findBest_35 ?_
  refine tt_aload_n C 2 dX7_findBest_38 rfl rfl ?_
  refine tt_getR C (j := 3) (r0 := 24) dX_0 rfl fl_RX7_37 dX7_findBest_39 ?_
  refine tt_getR C (j := 1) (r0 := 25) dX_24 rfl fl_RX7_227 dX7_findBest_42 ?_
  refine tt_iload_n C 1 dX7_findBest_45 rfl rfl ?_
  refine tt_bv (fun m8 h5 => ?_)
  refine tt_callS (st := []) (As := [.ref (ad 25), .int y1]) C (kX7_layByOrder C.2.2.2.2.2.2.2.1 25 dX_25 h5) mi_X7_layByOrder ml_RX7_331 mt_X7_layByOrder rfl (by decide) (by decide) (Nat.le_of_ble_eq_true rfl) dX7_findBest_46 ?_
  refine tt_iconst (v := (0 : Int32)) C dX7_findBest_49 (by decide) ?_
  refine tt_lbi (fun y9 => ?_)
  refine tt_istore_n (L2 := [(3, .int y9), (2, .int v3), (1, .int y1), (0, .ref (ad 0))]) C dX7_findBest_50 rfl (by decide) rfl ?_
  refine tt_sub [3, 2, 1, 0] (L2 := [(0, .ref (ad 0)), (1, .int y1), (2, .int v3), (3, .int y9)]) rfl ?_
  exact wX7_findBest_L51 C hr FU y1 v3 y9 m8
theorem kX7_findBest {l : Launch} {A : Nat → Prop} {D : va_G} {ad : Nat → Nat} {cA : Nat → ClassId} (hPk : Pk A dsX ad cA (EX A ad)) {μ : Mem} {ν : Mem} (h : fX7_findBest μ = some ν) : Ct l A dsX D ad cA (EX A ad) yX7_findBest cX7_findBest 4 none 4 [.ref (ad 0)] μ (enV ν) :=
  ct_of (by decide) (Nat.le_of_ble_eq_true rfl) hPk rfl (fun p e s m args below meth c C hr => wX7_findBest C hr μ) h

/-! BasketRound.best(I)I -/
def fX7_best (x1 : Int32) (μ : Mem) : Option (Int32 × Mem) := bi (fX7_within x1 (0 : Int32) (3 : Int32) μ) fun v2 m1 => if v2 = (0 : Int32) then (some ((-1 : Int32), m1)) else (bv (fX7_findBest m1) fun m3 => if x1 = (0 : Int32) then (some ((m3 30 1), m3)) else (if x1 = (1 : Int32) then (some ((m3 30 2), m3)) else (if x1 = (2 : Int32) then (some ((m3 30 3), m3)) else (some ((m3 30 4), m3)))))
set_option maxHeartbeats 4000000 in
set_option maxRecDepth 100000 in
theorem wX7_best {p : Program} {l : Launch} {e : Env} {s : State} {m : MethodId} {args : Array Value} {below : List Frame} {meth : Method} {c : Code} {A : Nat → Prop} {D : va_G} {ad : Nat → Nat} {cA : Nat → ClassId} (C : Cx p s m args meth c cX7_best RX7 2 A dsX D ad cA (EX A ad)) (hr : meth.sig.returnType = some .int) (x1 : Int32) (μ : Mem) : T p l e (rmD 5) s m args below meth c 2 A dsX D ad cA enI (fX7_best x1 μ) 0 [(0, .ref (ad 0)), (1, .int x1)] [] μ := by
  unfold fX7_best
  refine tt_iload_n C 1 dX7_best_0 rfl rfl ?_
  refine tt_iconst (v := (0 : Int32)) C dX7_best_1 (by decide) ?_
  refine tt_iconst (v := (3 : Int32)) C dX7_best_2 (by decide) ?_
  refine tt_bi (fun v2 m1 h1 => ?_)
  refine tt_callS (st := []) (As := [.int x1, .int (0 : Int32), .int (3 : Int32)]) C (kX7_within C.2.2.2.2.2.2.2.1 h1) mi_X7_within ml_RX7_70 mt_X7_within rfl (by decide) (by decide) (Nat.le_of_ble_eq_true rfl) dX7_best_3 ?_
  refine tt_if (fun h2 => ?_) (fun h2 => ?_)
  · refine tt_if_neF C 11 h2 dX7_best_6 (by decide) ?_
    refine tt_iconst (v := (-1 : Int32)) C dX7_best_9 (by decide) ?_
    exact tt_iret rfl C hr dX7_best_10
  · refine tt_if_neT (tgt := 11) C h2 dX7_best_6 (by decide) ?_
    refine tt_aload_n C 0 dX7_best_11 rfl rfl ?_
    refine tt_bv (fun m3 h3 => ?_)
    refine tt_callV (st := []) (As := []) C (kX7_findBest C.2.2.2.2.2.2.2.1 h3) mi_X7_findBest ml_RX7_189 mv_X7_findBest ms_X7_findBest (q := (RX7, TX7, 11)) dX_0 rfl rfl (by decide) (by decide) (Nat.le_of_ble_eq_true rfl) dX7_best_12 ?_
    refine tt_iload_n C 1 dX7_best_15 rfl rfl ?_
    refine tt_if (fun h4 => ?_) (fun h4 => ?_)
    · refine tt_tabIn (y1 := (0 : Int32)) (a := 0) (off := 28) (tgt := 44) C h4 (by decide) (by decide) (by decide) dX7_best_16 (by decide) (by decide) ?_
      refine tt_aload_n C 0 dX7_best_44 rfl rfl ?_
      refine tt_getR C (j := 4) (r0 := 30) dX_0 rfl fl_RX7_44 dX7_best_45 ?_
      refine tt_getI C (j := 1) dX_30 rfl fl_RX7_192 dX7_best_48 ?_
      exact tt_iret rfl C hr dX7_best_51
    · skip
      refine tt_if (fun h5 => ?_) (fun h5 => ?_)
      · refine tt_tabIn (y1 := (1 : Int32)) (a := 1) (off := 36) (tgt := 52) C h5 (by decide) (by decide) (by decide) dX7_best_16 (by decide) (by decide) ?_
        refine tt_aload_n C 0 dX7_best_52 rfl rfl ?_
        refine tt_getR C (j := 4) (r0 := 30) dX_0 rfl fl_RX7_44 dX7_best_53 ?_
        refine tt_getI C (j := 2) dX_30 rfl fl_RX7_195 dX7_best_56 ?_
        exact tt_iret rfl C hr dX7_best_59
      · skip
        refine tt_if (fun h6 => ?_) (fun h6 => ?_)
        · refine tt_tabIn (y1 := (2 : Int32)) (a := 2) (off := 44) (tgt := 60) C h6 (by decide) (by decide) (by decide) dX7_best_16 (by decide) (by decide) ?_
          refine tt_aload_n C 0 dX7_best_60 rfl rfl ?_
          refine tt_getR C (j := 4) (r0 := 30) dX_0 rfl fl_RX7_44 dX7_best_61 ?_
          refine tt_getI C (j := 3) dX_30 rfl fl_RX7_196 dX7_best_64 ?_
          exact tt_iret rfl C hr dX7_best_67
        · skip
          have nh4 := lv_neT h4 (show (0 : Int32).toInt = 0 by decide)
          have nh5 := lv_neT h5 (show (1 : Int32).toInt = 1 by decide)
          have nh6 := lv_neT h6 (show (2 : Int32).toInt = 2 by decide)
          refine tt_tabOut (tgt := 68) C (by omega) dX7_best_16 (by decide) ?_
          refine tt_aload_n C 0 dX7_best_68 rfl rfl ?_
          refine tt_getR C (j := 4) (r0 := 30) dX_0 rfl fl_RX7_44 dX7_best_69 ?_
          refine tt_getI C (j := 4) dX_30 rfl fl_RX7_198 dX7_best_72 ?_
          exact tt_iret rfl C hr dX7_best_75
theorem kX7_best {l : Launch} {A : Nat → Prop} {D : va_G} {ad : Nat → Nat} {cA : Nat → ClassId} (hPk : Pk A dsX ad cA (EX A ad)) {x1 : Int32} {μ : Mem} {v : Int32} {ν : Mem} (h : fX7_best x1 μ = some (v, ν)) : Ct l A dsX D ad cA (EX A ad) yX7_best cX7_best 2 (some .int) 5 [.ref (ad 0), .int x1] μ (enI (v, ν)) :=
  ct_of (by decide) (Nat.le_of_ble_eq_true rfl) hPk rfl (fun p e s m args below meth c C hr => wX7_best C hr x1 μ) h

/-! BasketRound.placeOf([III)I -/
def fX7_placeOf_J22 (a1 : Nat) (k5 : Int32 → Int32 → Int32 → Int32 → Mem → Option (Int32 × Mem)) (x1 : Int32) (x2 : Int32) (x3 : Int32) (x4 : Int32) (μ : Mem) : Option (Int32 × Mem) := lb (x4 + (1 : Int32)) fun (y1 : Int32) => k5 x1 x2 x3 y1 μ
set_option maxHeartbeats 4000000 in
set_option maxRecDepth 100000 in
theorem wX7_placeOf_J22 {p : Program} {l : Launch} {e : Env} {s : State} {m : MethodId} {args : Array Value} {below : List Frame} {meth : Method} {c : Code} {A : Nat → Prop} {D : va_G} {ad : Nat → Nat} {cA : Nat → ClassId} (C : Cx p s m args meth c cX7_placeOf RX7 5 A dsX D ad cA (EX A ad)) (hr : meth.sig.returnType = some .int) (a1 : Nat) (ha1 : dsX[a1]? = some (0, 5, [])) (k5 : Int32 → Int32 → Int32 → Int32 → Mem → Option (Int32 × Mem)) (hk5 : ∀ (x1 : Int32) (x2 : Int32) (x3 : Int32) (x4 : Int32) (μ : Mem), T p l e (rmD 0) s m args below meth c 5 A dsX D ad cA enI (k5 x1 x2 x3 x4 μ) 5 [(0, .ref (ad a1)), (1, .int x1), (2, .int x2), (3, .int x3), (4, .int x4)] [] μ) (x1 : Int32) (x2 : Int32) (x3 : Int32) (x4 : Int32) (μ : Mem) : T p l e (rmD 0) s m args below meth c 5 A dsX D ad cA enI (fX7_placeOf_J22 a1 k5 x1 x2 x3 x4 μ) 22 [(0, .ref (ad a1)), (1, .int x1), (2, .int x2), (3, .int x3), (4, .int x4)] [] μ := by
  unfold fX7_placeOf_J22
  refine tt_iincB (d := (1 : Int32)) C 4 (fun y1 => [(4, .int y1), (0, .ref (ad a1)), (1, .int x1), (2, .int x2), (3, .int x3)]) dX7_placeOf_22 rfl (by decide) (by decide) (fun _ => rfl) (fun y1 => ?_)
  refine tt_goto (tgt := 5) C dX7_placeOf_25 (by decide) ?_
  refine tt_sub [1, 2, 3, 4, 0] (L2 := [(0, .ref (ad a1)), (1, .int x1), (2, .int x2), (3, .int x3), (4, .int y1)]) rfl ?_
  exact hk5 x1 x2 x3 y1 μ

def fX7_placeOf_L5 (a1 : Nat) : Nat → Int32 → Int32 → Int32 → Int32 → Mem → Option (Int32 × Mem)
  | 0, _, _, _, _, _ => none
  | fu + 1, x1, x2, x3, x4, μ => if x1 ≤ x4 then (some (x3, μ)) else (gr x4 5 <| if (μ a1 x4.toNatClampNeg) = x2 then (fX7_placeOf_J22 a1 (fun x1 x2 x3 x4 μ => fX7_placeOf_L5 a1 fu x1 x2 x3 x4 μ) x1 x2 x4 x4 μ) else (fX7_placeOf_J22 a1 (fun x1 x2 x3 x4 μ => fX7_placeOf_L5 a1 fu x1 x2 x3 x4 μ) x1 x2 x3 x4 μ))
set_option maxHeartbeats 4000000 in
set_option maxRecDepth 100000 in
theorem wX7_placeOf_L5 {p : Program} {l : Launch} {e : Env} {s : State} {m : MethodId} {args : Array Value} {below : List Frame} {meth : Method} {c : Code} {A : Nat → Prop} {D : va_G} {ad : Nat → Nat} {cA : Nat → ClassId} (C : Cx p s m args meth c cX7_placeOf RX7 5 A dsX D ad cA (EX A ad)) (hr : meth.sig.returnType = some .int) (a1 : Nat) (ha1 : dsX[a1]? = some (0, 5, [])) : ∀ (fu : Nat) (x1 : Int32) (x2 : Int32) (x3 : Int32) (x4 : Int32) (μ : Mem), T p l e (rmD 0) s m args below meth c 5 A dsX D ad cA enI (fX7_placeOf_L5 a1 fu x1 x2 x3 x4 μ) 5 [(0, .ref (ad a1)), (1, .int x1), (2, .int x2), (3, .int x3), (4, .int x4)] [] μ
  | 0, _, _, _, _, _ => tt_none
  | fu + 1, x1, x2, x3, x4, μ => by
    have ih := fun (x1 : Int32) (x2 : Int32) (x3 : Int32) (x4 : Int32) (μ : Mem) => wX7_placeOf_L5 (l := l) (e := e) (below := below) C hr a1 ha1 fu x1 x2 x3 x4 μ
    show T p l e (rmD 0) s m args below meth c 5 A dsX D ad cA enI (if x1 ≤ x4 then (some (x3, μ)) else (gr x4 5 <| if (μ a1 x4.toNatClampNeg) = x2 then (fX7_placeOf_J22 a1 (fun x1 x2 x3 x4 μ => fX7_placeOf_L5 a1 fu x1 x2 x3 x4 μ) x1 x2 x4 x4 μ) else (fX7_placeOf_J22 a1 (fun x1 x2 x3 x4 μ => fX7_placeOf_L5 a1 fu x1 x2 x3 x4 μ) x1 x2 x3 x4 μ))) 5 [(0, .ref (ad a1)), (1, .int x1), (2, .int x2), (3, .int x3), (4, .int x4)] [] μ
    refine tt_iload C 4 dX7_placeOf_5 rfl ?_
    refine tt_iload_n C 1 dX7_placeOf_7 rfl rfl ?_
    refine tt_if (fun h1 => ?_) (fun h1 => ?_)
    · refine tt_icmp_geT (tgt := 28) C h1 dX7_placeOf_8 (by decide) ?_
      refine tt_iload_n C 3 dX7_placeOf_28 rfl rfl ?_
      exact tt_iret rfl C hr dX7_placeOf_29
    · refine tt_icmp_geF C 28 h1 dX7_placeOf_8 (by decide) ?_
      refine tt_aload_n C 0 dX7_placeOf_11 rfl rfl ?_
      refine tt_iload C 4 dX7_placeOf_12 rfl ?_
      refine tt_gr (fun h2 => ?_)
      refine tt_iald C ha1 h2 dX7_placeOf_14 ?_
      refine tt_iload_n C 2 dX7_placeOf_15 rfl rfl ?_
      refine tt_if (fun h3 => ?_) (fun h3 => ?_)
      · refine tt_icmp_neF C 22 h3 dX7_placeOf_16 (by decide) ?_
        refine tt_iload C 4 dX7_placeOf_19 rfl ?_
        refine tt_istore_n (L2 := [(3, .int x4), (0, .ref (ad a1)), (1, .int x1), (2, .int x2), (4, .int x4)]) C dX7_placeOf_21 rfl (by decide) rfl ?_
        refine tt_sub [1, 2, 3, 0, 4] (L2 := [(0, .ref (ad a1)), (1, .int x1), (2, .int x2), (3, .int x4), (4, .int x4)]) rfl ?_
        exact wX7_placeOf_J22 C hr a1 ha1 (fun x1 x2 x3 x4 μ => fX7_placeOf_L5 a1 fu x1 x2 x3 x4 μ) (fun x1 x2 x3 x4 μ => ih x1 x2 x3 x4 μ) x1 x2 x4 x4 μ
      · refine tt_icmp_neT (tgt := 22) C h3 dX7_placeOf_16 (by decide) ?_
        refine tt_sub [0, 1, 2, 3, 4] (L2 := [(0, .ref (ad a1)), (1, .int x1), (2, .int x2), (3, .int x3), (4, .int x4)]) rfl ?_
        exact wX7_placeOf_J22 C hr a1 ha1 (fun x1 x2 x3 x4 μ => fX7_placeOf_L5 a1 fu x1 x2 x3 x4 μ) (fun x1 x2 x3 x4 μ => ih x1 x2 x3 x4 μ) x1 x2 x3 x4 μ

def fX7_placeOf (a1 : Nat) (x1 : Int32) (x2 : Int32) (μ : Mem) : Option (Int32 × Mem) := lb (0 : Int32) fun (y1 : Int32) => lb (0 : Int32) fun (y2 : Int32) => fX7_placeOf_L5 a1 FU x1 x2 y1 y2 μ
set_option maxHeartbeats 4000000 in
set_option maxRecDepth 100000 in
theorem wX7_placeOf {p : Program} {l : Launch} {e : Env} {s : State} {m : MethodId} {args : Array Value} {below : List Frame} {meth : Method} {c : Code} {A : Nat → Prop} {D : va_G} {ad : Nat → Nat} {cA : Nat → ClassId} (C : Cx p s m args meth c cX7_placeOf RX7 5 A dsX D ad cA (EX A ad)) (hr : meth.sig.returnType = some .int) (a1 : Nat) (ha1 : dsX[a1]? = some (0, 5, [])) (x1 : Int32) (x2 : Int32) (μ : Mem) : T p l e (rmD 0) s m args below meth c 5 A dsX D ad cA enI (fX7_placeOf a1 x1 x2 μ) 0 [(0, .ref (ad a1)), (1, .int x1), (2, .int x2)] [] μ := by
  unfold fX7_placeOf
  refine tt_iconst (v := (0 : Int32)) C dX7_placeOf_0 (by decide) ?_
  refine tt_lbi (fun y1 => ?_)
  refine tt_istore_n (L2 := [(3, .int y1), (0, .ref (ad a1)), (1, .int x1), (2, .int x2)]) C dX7_placeOf_1 rfl (by decide) rfl ?_
  refine tt_iconst (v := (0 : Int32)) C dX7_placeOf_2 (by decide) ?_
  refine tt_lbi (fun y2 => ?_)
  refine tt_istore (L2 := [(4, .int y2), (3, .int y1), (0, .ref (ad a1)), (1, .int x1), (2, .int x2)]) C dX7_placeOf_3 (by decide) rfl ?_
  refine tt_sub [2, 3, 4, 1, 0] (L2 := [(0, .ref (ad a1)), (1, .int x1), (2, .int x2), (3, .int y1), (4, .int y2)]) rfl ?_
  exact wX7_placeOf_L5 C hr a1 ha1 FU x1 x2 y1 y2 μ
theorem kX7_placeOf {l : Launch} {A : Nat → Prop} {D : va_G} {ad : Nat → Nat} {cA : Nat → ClassId} (hPk : Pk A dsX ad cA (EX A ad)) (a1 : Nat) (ha1 : dsX[a1]? = some (0, 5, [])) {x1 : Int32} {x2 : Int32} {μ : Mem} {v : Int32} {ν : Mem} (h : fX7_placeOf a1 x1 x2 μ = some (v, ν)) : Ct l A dsX D ad cA (EX A ad) yX7_placeOf cX7_placeOf 5 (some .int) 0 [.ref (ad a1), .int x1, .int x2] μ (enI (v, ν)) :=
  ct_of (by decide) (Nat.le_of_ble_eq_true rfl) hPk rfl (fun p e s m args below meth c C hr => wX7_placeOf C hr a1 ha1 x1 x2 μ) h

/-! BasketRound.moveAhead([III)V -/
def fX7_moveAhead_L7 (a1 : Nat) : Nat → Int32 → Int32 → Mem → Option (Mem)
  | 0, _, _, _ => none
  | fu + 1, x2, x3, μ => if x3 ≤ (0 : Int32) then (gr (0 : Int32) 5 <| lb (wr μ a1 (0 : Int32).toNatClampNeg x2) fun m1 => some m1) else (gr (x3 - (1 : Int32)) 5 <| gr x3 5 <| lb (wr μ a1 x3.toNatClampNeg (μ a1 (x3 - (1 : Int32)).toNatClampNeg)) fun m2 => lb (x3 + (-1 : Int32)) fun (y3 : Int32) => fX7_moveAhead_L7 a1 fu x2 y3 m2)
set_option maxHeartbeats 4000000 in
set_option maxRecDepth 100000 in
theorem wX7_moveAhead_L7 {p : Program} {l : Launch} {e : Env} {s : State} {m : MethodId} {args : Array Value} {below : List Frame} {meth : Method} {c : Code} {A : Nat → Prop} {D : va_G} {ad : Nat → Nat} {cA : Nat → ClassId} (C : Cx p s m args meth c cX7_moveAhead RX7 4 A dsX D ad cA (EX A ad)) (hr : meth.sig.returnType = none) (a1 : Nat) (ha1 : dsX[a1]? = some (0, 5, [])) : ∀ (fu : Nat) (x2 : Int32) (x3 : Int32) (μ : Mem), T p l e (rmD 1) s m args below meth c 4 A dsX D ad cA enV (fX7_moveAhead_L7 a1 fu x2 x3 μ) 7 [(0, .ref (ad a1)), (2, .int x2), (3, .int x3)] [] μ
  | 0, _, _, _ => tt_none
  | fu + 1, x2, x3, μ => by
    have ih := fun (x2 : Int32) (x3 : Int32) (μ : Mem) => wX7_moveAhead_L7 (l := l) (e := e) (below := below) C hr a1 ha1 fu x2 x3 μ
    show T p l e (rmD 1) s m args below meth c 4 A dsX D ad cA enV (if x3 ≤ (0 : Int32) then (gr (0 : Int32) 5 <| lb (wr μ a1 (0 : Int32).toNatClampNeg x2) fun m1 => some m1) else (gr (x3 - (1 : Int32)) 5 <| gr x3 5 <| lb (wr μ a1 x3.toNatClampNeg (μ a1 (x3 - (1 : Int32)).toNatClampNeg)) fun m2 => lb (x3 + (-1 : Int32)) fun (y3 : Int32) => fX7_moveAhead_L7 a1 fu x2 y3 m2)) 7 [(0, .ref (ad a1)), (2, .int x2), (3, .int x3)] [] μ
    refine tt_iload_n C 2 dX7_moveAhead_7 rfl rfl ?_
    refine tt_if (fun h1 => ?_) (fun h1 => ?_)
    · refine tt_if_leT (tgt := 25) C h1 dX7_moveAhead_8 (by decide) ?_
      refine tt_aload_n C 0 dX7_moveAhead_25 rfl rfl ?_
      refine tt_iconst (v := (0 : Int32)) C dX7_moveAhead_26 (by decide) ?_
      refine tt_iload_n C 1 dX7_moveAhead_27 rfl rfl ?_
      refine tt_gr (fun h2 => ?_)
      refine tt_iast C ha1 h2 dX7_moveAhead_28 ?_
      refine tt_lbm (fun m1 => ?_)
      exact tt_vret rfl C hr dX7_moveAhead_29
    · refine tt_if_leF C 25 h1 dX7_moveAhead_8 (by decide) ?_
      refine tt_aload_n C 0 dX7_moveAhead_11 rfl rfl ?_
      refine tt_iload_n C 2 dX7_moveAhead_12 rfl rfl ?_
      refine tt_aload_n C 0 dX7_moveAhead_13 rfl rfl ?_
      refine tt_iload_n C 2 dX7_moveAhead_14 rfl rfl ?_
      refine tt_iconst (v := (1 : Int32)) C dX7_moveAhead_15 (by decide) ?_
      refine tt_isub C dX7_moveAhead_16 ?_
      refine tt_gr (fun h3 => ?_)
      refine tt_iald C ha1 h3 dX7_moveAhead_17 ?_
      refine tt_gr (fun h4 => ?_)
      refine tt_iast C ha1 h4 dX7_moveAhead_18 ?_
      refine tt_lbm (fun m2 => ?_)
      refine tt_iincB (d := (-1 : Int32)) C 2 (fun y3 => [(3, .int y3), (0, .ref (ad a1)), (2, .int x2)]) dX7_moveAhead_19 rfl (by decide) (by decide) (fun _ => rfl) (fun y3 => ?_)
      refine tt_goto (tgt := 7) C dX7_moveAhead_22 (by decide) ?_
      refine tt_sub [1, 2, 0] (L2 := [(0, .ref (ad a1)), (2, .int x2), (3, .int y3)]) rfl ?_
      exact ih x2 y3 m2

def fX7_moveAhead (a1 : Nat) (x1 : Int32) (x2 : Int32) (μ : Mem) : Option (Mem) := bi (fX7_placeOf a1 x1 x2 μ) fun v2 m1 => fX7_moveAhead_L7 a1 FU x2 v2 m1
set_option maxHeartbeats 4000000 in
set_option maxRecDepth 100000 in
theorem wX7_moveAhead {p : Program} {l : Launch} {e : Env} {s : State} {m : MethodId} {args : Array Value} {below : List Frame} {meth : Method} {c : Code} {A : Nat → Prop} {D : va_G} {ad : Nat → Nat} {cA : Nat → ClassId} (C : Cx p s m args meth c cX7_moveAhead RX7 4 A dsX D ad cA (EX A ad)) (hr : meth.sig.returnType = none) (a1 : Nat) (ha1 : dsX[a1]? = some (0, 5, [])) (x1 : Int32) (x2 : Int32) (μ : Mem) : T p l e (rmD 1) s m args below meth c 4 A dsX D ad cA enV (fX7_moveAhead a1 x1 x2 μ) 0 [(0, .ref (ad a1)), (1, .int x1), (2, .int x2)] [] μ := by
  unfold fX7_moveAhead
  refine tt_aload_n C 0 dX7_moveAhead_0 rfl rfl ?_
  refine tt_iload_n C 1 dX7_moveAhead_1 rfl rfl ?_
  refine tt_iload_n C 2 dX7_moveAhead_2 rfl rfl ?_
  refine tt_bi (fun v2 m1 h1 => ?_)
  refine tt_callS (st := []) (As := [.ref (ad a1), .int x1, .int x2]) C (kX7_placeOf C.2.2.2.2.2.2.2.1 a1 ha1 h1) mi_X7_placeOf ml_RX7_144 mt_X7_placeOf rfl (by decide) (by decide) (Nat.le_of_ble_eq_true rfl) dX7_moveAhead_3 ?_
  refine tt_istore_n (L2 := [(3, .int v2), (0, .ref (ad a1)), (1, .int x1), (2, .int x2)]) C dX7_moveAhead_6 rfl (by decide) rfl ?_
  refine tt_sub [1, 3, 0] (L2 := [(0, .ref (ad a1)), (2, .int x2), (3, .int v2)]) rfl ?_
  exact wX7_moveAhead_L7 C hr a1 ha1 FU x2 v2 m1
theorem kX7_moveAhead {l : Launch} {A : Nat → Prop} {D : va_G} {ad : Nat → Nat} {cA : Nat → ClassId} (hPk : Pk A dsX ad cA (EX A ad)) (a1 : Nat) (ha1 : dsX[a1]? = some (0, 5, [])) {x1 : Int32} {x2 : Int32} {μ : Mem} {ν : Mem} (h : fX7_moveAhead a1 x1 x2 μ = some ν) : Ct l A dsX D ad cA (EX A ad) yX7_moveAhead cX7_moveAhead 4 none 1 [.ref (ad a1), .int x1, .int x2] μ (enV ν) :=
  ct_of (by decide) (Nat.le_of_ble_eq_true rfl) hPk rfl (fun p e s m args below meth c C hr => wX7_moveAhead C hr a1 ha1 x1 x2 μ) h

/-! BasketRound.bringAhead([II)I -/
def fX7_bringAhead (a1 : Nat) (x2 : Int32) (μ : Mem) : Option (Int32 × Mem) := bi (fX7_isOrder x2 μ) fun v2 m1 => if v2 = (0 : Int32) then (some ((-1 : Int32), m1)) else (bv (fX7_moveAhead a1 (m1 3 5) x2 m1) fun m3 => bi (fX7_numberOf a1 (m3 3 5) m3) fun v5 m4 => some (v5, m4))
set_option maxHeartbeats 4000000 in
set_option maxRecDepth 100000 in
theorem wX7_bringAhead {p : Program} {l : Launch} {e : Env} {s : State} {m : MethodId} {args : Array Value} {below : List Frame} {meth : Method} {c : Code} {A : Nat → Prop} {D : va_G} {ad : Nat → Nat} {cA : Nat → ClassId} (C : Cx p s m args meth c cX7_bringAhead RX7 3 A dsX D ad cA (EX A ad)) (hr : meth.sig.returnType = some .int) (a1 : Nat) (ha1 : dsX[a1]? = some (0, 5, [])) (x2 : Int32) (μ : Mem) : T p l e (rmD 2) s m args below meth c 3 A dsX D ad cA enI (fX7_bringAhead a1 x2 μ) 0 [(0, .ref (ad 0)), (1, .ref (ad a1)), (2, .int x2)] [] μ := by
  unfold fX7_bringAhead
  refine tt_aload_n C 0 dX7_bringAhead_0 rfl rfl ?_
  refine tt_iload_n C 2 dX7_bringAhead_1 rfl rfl ?_
  refine tt_bi (fun v2 m1 h1 => ?_)
  refine tt_callV (st := []) (As := [.int x2]) C (kX7_isOrder C.2.2.2.2.2.2.2.1 h1) mi_X7_isOrder ml_RX7_137 mv_X7_isOrder ms_X7_isOrder (q := (RX7, TX7, 11)) dX_0 rfl rfl (by decide) (by decide) (Nat.le_of_ble_eq_true rfl) dX7_bringAhead_2 ?_
  refine tt_if (fun h2 => ?_) (fun h2 => ?_)
  · refine tt_if_neF C 10 h2 dX7_bringAhead_5 (by decide) ?_
    refine tt_iconst (v := (-1 : Int32)) C dX7_bringAhead_8 (by decide) ?_
    exact tt_iret rfl C hr dX7_bringAhead_9
  · refine tt_if_neT (tgt := 10) C h2 dX7_bringAhead_5 (by decide) ?_
    refine tt_aload_n C 1 dX7_bringAhead_10 rfl rfl ?_
    refine tt_aload_n C 0 dX7_bringAhead_11 rfl rfl ?_
    refine tt_getR C (j := 1) (r0 := 3) dX_0 rfl fl_RX7_19 dX7_bringAhead_12 ?_
    refine tt_getI C (j := 5) dX_3 rfl fl_RX7_109 dX7_bringAhead_15 ?_
    refine tt_iload_n C 2 dX7_bringAhead_18 rfl rfl ?_
    refine tt_bv (fun m3 h3 => ?_)
    refine tt_callS (st := []) (As := [.ref (ad a1), .int (m1 3 5), .int x2]) C (kX7_moveAhead C.2.2.2.2.2.2.2.1 a1 ha1 h3) mi_X7_moveAhead ml_RX7_283 mt_X7_moveAhead rfl (by decide) (by decide) (Nat.le_of_ble_eq_true rfl) dX7_bringAhead_19 ?_
    refine tt_aload_n C 1 dX7_bringAhead_22 rfl rfl ?_
    refine tt_aload_n C 0 dX7_bringAhead_23 rfl rfl ?_
    refine tt_getR C (j := 1) (r0 := 3) dX_0 rfl fl_RX7_19 dX7_bringAhead_24 ?_
    refine tt_getI C (j := 5) dX_3 rfl fl_RX7_109 dX7_bringAhead_27 ?_
    refine tt_bi (fun v5 m4 h4 => ?_)
    refine tt_callS (st := []) (As := [.ref (ad a1), .int (m3 3 5)]) C (kX7_numberOf C.2.2.2.2.2.2.2.1 a1 ha1 h4) mi_X7_numberOf ml_RX7_122 mt_X7_numberOf rfl (by decide) (by decide) (Nat.le_of_ble_eq_true rfl) dX7_bringAhead_30 ?_
    exact tt_iret rfl C hr dX7_bringAhead_33
theorem kX7_bringAhead {l : Launch} {A : Nat → Prop} {D : va_G} {ad : Nat → Nat} {cA : Nat → ClassId} (hPk : Pk A dsX ad cA (EX A ad)) (a1 : Nat) (ha1 : dsX[a1]? = some (0, 5, [])) {x2 : Int32} {μ : Mem} {v : Int32} {ν : Mem} (h : fX7_bringAhead a1 x2 μ = some (v, ν)) : Ct l A dsX D ad cA (EX A ad) yX7_bringAhead cX7_bringAhead 3 (some .int) 2 [.ref (ad 0), .ref (ad a1), .int x2] μ (enI (v, ν)) :=
  ct_of (by decide) (Nat.le_of_ble_eq_true rfl) hPk rfl (fun p e s m args below meth c C hr => wX7_bringAhead C hr a1 ha1 x2 μ) h

/-! BasketRound.count(I)I -/
def fX7_count_J112 (z0 : Int32) (μ : Mem) : Option (Int32 × Mem) := some (z0, μ)
set_option maxHeartbeats 4000000 in
set_option maxRecDepth 100000 in
theorem wX7_count_J112 {p : Program} {l : Launch} {e : Env} {s : State} {m : MethodId} {args : Array Value} {below : List Frame} {meth : Method} {c : Code} {A : Nat → Prop} {D : va_G} {ad : Nat → Nat} {cA : Nat → ClassId} (C : Cx p s m args meth c cX7_count RX7 2 A dsX D ad cA (EX A ad)) (hr : meth.sig.returnType = some .int) (z0 : Int32) (μ : Mem) : T p l e (rmD 2) s m args below meth c 2 A dsX D ad cA enI (fX7_count_J112 z0 μ) 112 [] [.int z0] μ := by
  unfold fX7_count_J112
  exact tt_iret rfl C hr dX7_count_112

def fX7_count_J76 (z0 : Int32) (z1 : Int32) (μ : Mem) : Option (Int32 × Mem) := some ((z0 + z1), μ)
set_option maxHeartbeats 4000000 in
set_option maxRecDepth 100000 in
theorem wX7_count_J76 {p : Program} {l : Launch} {e : Env} {s : State} {m : MethodId} {args : Array Value} {below : List Frame} {meth : Method} {c : Code} {A : Nat → Prop} {D : va_G} {ad : Nat → Nat} {cA : Nat → ClassId} (C : Cx p s m args meth c cX7_count RX7 2 A dsX D ad cA (EX A ad)) (hr : meth.sig.returnType = some .int) (z0 : Int32) (z1 : Int32) (μ : Mem) : T p l e (rmD 2) s m args below meth c 2 A dsX D ad cA enI (fX7_count_J76 z0 z1 μ) 76 [] [.int z1, .int z0] μ := by
  unfold fX7_count_J76
  refine tt_iadd C dX7_count_76 ?_
  exact tt_iret rfl C hr dX7_count_77

def fX7_count_J62 (z0 : Int32) (μ : Mem) : Option (Int32 × Mem) := gr (1 : Int32) 2 <| if (μ 35 (1 : Int32).toNatClampNeg) = (0 : Int32) then (fX7_count_J76 z0 (0 : Int32) μ) else (fX7_count_J76 z0 (1 : Int32) μ)
set_option maxHeartbeats 4000000 in
set_option maxRecDepth 100000 in
theorem wX7_count_J62 {p : Program} {l : Launch} {e : Env} {s : State} {m : MethodId} {args : Array Value} {below : List Frame} {meth : Method} {c : Code} {A : Nat → Prop} {D : va_G} {ad : Nat → Nat} {cA : Nat → ClassId} (C : Cx p s m args meth c cX7_count RX7 2 A dsX D ad cA (EX A ad)) (hr : meth.sig.returnType = some .int) (z0 : Int32) (μ : Mem) : T p l e (rmD 2) s m args below meth c 2 A dsX D ad cA enI (fX7_count_J62 z0 μ) 62 [(0, .ref (ad 0))] [.int z0] μ := by
  unfold fX7_count_J62
  refine tt_aload_n C 0 dX7_count_62 rfl rfl ?_
  refine tt_getR C (j := 7) (r0 := 35) dX_0 rfl fl_RX7_59 dX7_count_63 ?_
  refine tt_iconst (v := (1 : Int32)) C dX7_count_66 (by decide) ?_
  refine tt_gr (fun h1 => ?_)
  refine tt_zald C dX_35 h1 dX7_count_67 ?_
  refine tt_if (fun h2 => ?_) (fun h2 => ?_)
  · refine tt_if_eqT (tgt := 75) C h2 dX7_count_68 (by decide) ?_
    refine tt_iconst (v := (0 : Int32)) C dX7_count_75 (by decide) ?_
    refine tt_sub [] (L2 := []) rfl ?_
    exact wX7_count_J76 C hr z0 (0 : Int32) μ
  · refine tt_if_eqF C 75 h2 dX7_count_68 (by decide) ?_
    refine tt_iconst (v := (1 : Int32)) C dX7_count_71 (by decide) ?_
    refine tt_goto (tgt := 76) C dX7_count_72 (by decide) ?_
    refine tt_sub [] (L2 := []) rfl ?_
    exact wX7_count_J76 C hr z0 (1 : Int32) μ

def fX7_count (x1 : Int32) (μ : Mem) : Option (Int32 × Mem) := if x1 = (0 : Int32) then (some ((μ 31 2), μ)) else (if x1 = (1 : Int32) then (gr (0 : Int32) 2 <| if (μ 35 (0 : Int32).toNatClampNeg) = (0 : Int32) then (fX7_count_J62 (0 : Int32) μ) else (fX7_count_J62 (1 : Int32) μ)) else (if x1 = (2 : Int32) then (some ((μ 1 1), μ)) else (if x1 = (3 : Int32) then (gr (0 : Int32) 4 <| if (0 : Int32) ≤ (μ 43 (0 : Int32).toNatClampNeg) then (gr (0 : Int32) 4 <| fX7_count_J112 (μ 43 (0 : Int32).toNatClampNeg) μ) else (fX7_count_J112 (-4 : Int32) μ)) else (if x1 = (4 : Int32) then (bi (fX4_sum 3 (3 : Int32) μ) fun v2 m1 => some (v2, m1)) else (if x1 = (5 : Int32) then (bi (fX4_minutesBetween 3 (0 : Int32) (μ 3 4) (0 : Int32) μ) fun v4 m3 => some (v4, m3)) else (some ((-1 : Int32), μ)))))))
set_option maxHeartbeats 4000000 in
set_option maxRecDepth 100000 in
theorem wX7_count {p : Program} {l : Launch} {e : Env} {s : State} {m : MethodId} {args : Array Value} {below : List Frame} {meth : Method} {c : Code} {A : Nat → Prop} {D : va_G} {ad : Nat → Nat} {cA : Nat → ClassId} (C : Cx p s m args meth c cX7_count RX7 2 A dsX D ad cA (EX A ad)) (hr : meth.sig.returnType = some .int) (x1 : Int32) (μ : Mem) : T p l e (rmD 2) s m args below meth c 2 A dsX D ad cA enI (fX7_count x1 μ) 0 [(0, .ref (ad 0)), (1, .int x1)] [] μ := by
  unfold fX7_count
  refine tt_iload_n C 1 dX7_count_0 rfl rfl ?_
  refine tt_if (fun h1 => ?_) (fun h1 => ?_)
  · refine tt_tabIn (y1 := (0 : Int32)) (a := 0) (off := 39) (tgt := 40) C h1 (by decide) (by decide) (by decide) dX7_count_1 (by decide) (by decide) ?_
    refine tt_aload_n C 0 dX7_count_40 rfl rfl ?_
    refine tt_getR C (j := 5) (r0 := 31) dX_0 rfl fl_RX7_51 dX7_count_41 ?_
    refine tt_getI C (j := 2) dX_31 rfl fl_RX7_100 dX7_count_44 ?_
    exact tt_iret rfl C hr dX7_count_47
  · skip
    refine tt_if (fun h2 => ?_) (fun h2 => ?_)
    · refine tt_tabIn (y1 := (1 : Int32)) (a := 1) (off := 47) (tgt := 48) C h2 (by decide) (by decide) (by decide) dX7_count_1 (by decide) (by decide) ?_
      refine tt_aload_n C 0 dX7_count_48 rfl rfl ?_
      refine tt_getR C (j := 7) (r0 := 35) dX_0 rfl fl_RX7_59 dX7_count_49 ?_
      refine tt_iconst (v := (0 : Int32)) C dX7_count_52 (by decide) ?_
      refine tt_gr (fun h3 => ?_)
      refine tt_zald C dX_35 h3 dX7_count_53 ?_
      refine tt_if (fun h4 => ?_) (fun h4 => ?_)
      · refine tt_if_eqT (tgt := 61) C h4 dX7_count_54 (by decide) ?_
        refine tt_iconst (v := (0 : Int32)) C dX7_count_61 (by decide) ?_
        refine tt_sub [0] (L2 := [(0, .ref (ad 0))]) rfl ?_
        exact wX7_count_J62 C hr (0 : Int32) μ
      · refine tt_if_eqF C 61 h4 dX7_count_54 (by decide) ?_
        refine tt_iconst (v := (1 : Int32)) C dX7_count_57 (by decide) ?_
        refine tt_goto (tgt := 62) C dX7_count_58 (by decide) ?_
        refine tt_sub [0] (L2 := [(0, .ref (ad 0))]) rfl ?_
        exact wX7_count_J62 C hr (1 : Int32) μ
    · skip
      refine tt_if (fun h5 => ?_) (fun h5 => ?_)
      · refine tt_tabIn (y1 := (2 : Int32)) (a := 2) (off := 77) (tgt := 78) C h5 (by decide) (by decide) (by decide) dX7_count_1 (by decide) (by decide) ?_
        refine tt_aload_n C 0 dX7_count_78 rfl rfl ?_
        refine tt_getR C (j := 0) (r0 := 1) dX_0 rfl fl_RX7_10 dX7_count_79 ?_
        refine tt_getI C (j := 1) dX_1 rfl fl_RX7_74 dX7_count_82 ?_
        exact tt_iret rfl C hr dX7_count_85
      · skip
        refine tt_if (fun h6 => ?_) (fun h6 => ?_)
        · refine tt_tabIn (y1 := (3 : Int32)) (a := 3) (off := 85) (tgt := 86) C h6 (by decide) (by decide) (by decide) dX7_count_1 (by decide) (by decide) ?_
          refine tt_aload_n C 0 dX7_count_86 rfl rfl ?_
          refine tt_getR C (j := 8) (r0 := 36) dX_0 rfl fl_RX7_66 dX7_count_87 ?_
          refine tt_getR C (j := 2) (r0 := 43) dX_36 rfl fl_RX7_319 dX7_count_90 ?_
          refine tt_iconst (v := (0 : Int32)) C dX7_count_93 (by decide) ?_
          refine tt_gr (fun h7 => ?_)
          refine tt_iald C dX_43 h7 dX7_count_94 ?_
          refine tt_if (fun h8 => ?_) (fun h8 => ?_)
          · refine tt_if_geT (tgt := 103) C h8 dX7_count_95 (by decide) ?_
            refine tt_aload_n C 0 dX7_count_103 rfl rfl ?_
            refine tt_getR C (j := 8) (r0 := 36) dX_0 rfl fl_RX7_66 dX7_count_104 ?_
            refine tt_getR C (j := 2) (r0 := 43) dX_36 rfl fl_RX7_319 dX7_count_107 ?_
            refine tt_iconst (v := (0 : Int32)) C dX7_count_110 (by decide) ?_
            refine tt_gr (fun h9 => ?_)
            refine tt_iald C dX_43 h9 dX7_count_111 ?_
            refine tt_sub [] (L2 := []) rfl ?_
            exact wX7_count_J112 C hr (μ 43 (0 : Int32).toNatClampNeg) μ
          · refine tt_if_geF C 103 h8 dX7_count_95 (by decide) ?_
            refine tt_bipush (v := (-4 : Int32)) C dX7_count_98 (by decide) ?_
            refine tt_goto (tgt := 112) C dX7_count_100 (by decide) ?_
            refine tt_sub [] (L2 := []) rfl ?_
            exact wX7_count_J112 C hr (-4 : Int32) μ
        · skip
          refine tt_if (fun h10 => ?_) (fun h10 => ?_)
          · refine tt_tabIn (y1 := (4 : Int32)) (a := 4) (off := 112) (tgt := 113) C h10 (by decide) (by decide) (by decide) dX7_count_1 (by decide) (by decide) ?_
            refine tt_aload_n C 0 dX7_count_113 rfl rfl ?_
            refine tt_getR C (j := 1) (r0 := 3) dX_0 rfl fl_RX7_19 dX7_count_114 ?_
            refine tt_iconst (v := (3 : Int32)) C dX7_count_117 (by decide) ?_
            refine tt_bi (fun v2 m1 h11 => ?_)
            refine tt_callV (st := []) (As := [.int (3 : Int32)]) C (kX4_sum C.2.2.2.2.2.2.2.1 3 hSh_3 h11) mi_X4_sum ml_RX7_129 mv_X4_sum ms_X4_sum (q := (RX4, TX4, 8)) dX_3 rfl rfl (by decide) (by decide) (Nat.le_of_ble_eq_true rfl) dX7_count_118 ?_
            exact tt_iret rfl C hr dX7_count_121
          · skip
            refine tt_if (fun h12 => ?_) (fun h12 => ?_)
            · refine tt_tabIn (y1 := (5 : Int32)) (a := 5) (off := 121) (tgt := 122) C h12 (by decide) (by decide) (by decide) dX7_count_1 (by decide) (by decide) ?_
              refine tt_aload_n C 0 dX7_count_122 rfl rfl ?_
              refine tt_getR C (j := 1) (r0 := 3) dX_0 rfl fl_RX7_19 dX7_count_123 ?_
              refine tt_iconst (v := (0 : Int32)) C dX7_count_126 (by decide) ?_
              refine tt_aload_n C 0 dX7_count_127 rfl rfl ?_
              refine tt_getR C (j := 1) (r0 := 3) dX_0 rfl fl_RX7_19 dX7_count_128 ?_
              refine tt_getI C (j := 4) dX_3 rfl fl_RX7_106 dX7_count_131 ?_
              refine tt_iconst (v := (0 : Int32)) C dX7_count_134 (by decide) ?_
              refine tt_bi (fun v4 m3 h13 => ?_)
              refine tt_callV (st := []) (As := [.int (0 : Int32), .int (μ 3 4), .int (0 : Int32)]) C (kX4_minutesBetween C.2.2.2.2.2.2.2.1 3 hSh_3 h13) mi_X4_minutesBetween ml_RX7_158 mv_X4_minutesBetween ms_X4_minutesBetween (q := (RX4, TX4, 8)) dX_3 rfl rfl (by decide) (by decide) (Nat.le_of_ble_eq_true rfl) dX7_count_135 ?_
              exact tt_iret rfl C hr dX7_count_138
            · skip
              have nh1 := lv_neT h1 (show (0 : Int32).toInt = 0 by decide)
              have nh2 := lv_neT h2 (show (1 : Int32).toInt = 1 by decide)
              have nh5 := lv_neT h5 (show (2 : Int32).toInt = 2 by decide)
              have nh6 := lv_neT h6 (show (3 : Int32).toInt = 3 by decide)
              have nh10 := lv_neT h10 (show (4 : Int32).toInt = 4 by decide)
              have nh12 := lv_neT h12 (show (5 : Int32).toInt = 5 by decide)
              refine tt_tabOut (tgt := 139) C (by omega) dX7_count_1 (by decide) ?_
              refine tt_iconst (v := (-1 : Int32)) C dX7_count_139 (by decide) ?_
              exact tt_iret rfl C hr dX7_count_140
theorem kX7_count {l : Launch} {A : Nat → Prop} {D : va_G} {ad : Nat → Nat} {cA : Nat → ClassId} (hPk : Pk A dsX ad cA (EX A ad)) {x1 : Int32} {μ : Mem} {v : Int32} {ν : Mem} (h : fX7_count x1 μ = some (v, ν)) : Ct l A dsX D ad cA (EX A ad) yX7_count cX7_count 2 (some .int) 2 [.ref (ad 0), .int x1] μ (enI (v, ν)) :=
  ct_of (by decide) (Nat.le_of_ble_eq_true rfl) hPk rfl (fun p e s m args below meth c C hr => wX7_count C hr x1 μ) h

/-! BasketRound.drift(III)I -/
def fX7_drift_J197 (z0 : Int32) (μ : Mem) : Option (Int32 × Mem) := some (z0, μ)
set_option maxHeartbeats 4000000 in
set_option maxRecDepth 100000 in
theorem wX7_drift_J197 {p : Program} {l : Launch} {e : Env} {s : State} {m : MethodId} {args : Array Value} {below : List Frame} {meth : Method} {c : Code} {A : Nat → Prop} {D : va_G} {ad : Nat → Nat} {cA : Nat → ClassId} (C : Cx p s m args meth c cX7_drift RX7 8 A dsX D ad cA (EX A ad)) (hr : meth.sig.returnType = some .int) (z0 : Int32) (μ : Mem) : T p l e (rmD 3) s m args below meth c 8 A dsX D ad cA enI (fX7_drift_J197 z0 μ) 197 [] [.int z0] μ := by
  unfold fX7_drift_J197
  exact tt_iret rfl C hr dX7_drift_197

def fX7_drift_J178 (k71 : Int32 → Int32 → Int32 → Int32 → Int32 → Int32 → Mem → Option (Int32 × Mem)) (x2 : Int32) (x3 : Int32) (x4 : Int32) (x6 : Int32) (x7 : Int32) (z0 : Int32) (μ : Mem) : Option (Int32 × Mem) := lb (x7 + (1 : Int32)) fun (y1 : Int32) => k71 x2 x3 x4 z0 x6 y1 μ
set_option maxHeartbeats 4000000 in
set_option maxRecDepth 100000 in
theorem wX7_drift_J178 {p : Program} {l : Launch} {e : Env} {s : State} {m : MethodId} {args : Array Value} {below : List Frame} {meth : Method} {c : Code} {A : Nat → Prop} {D : va_G} {ad : Nat → Nat} {cA : Nat → ClassId} (C : Cx p s m args meth c cX7_drift RX7 8 A dsX D ad cA (EX A ad)) (hr : meth.sig.returnType = some .int) (k71 : Int32 → Int32 → Int32 → Int32 → Int32 → Int32 → Mem → Option (Int32 × Mem)) (hk71 : ∀ (x2 : Int32) (x3 : Int32) (x4 : Int32) (x5 : Int32) (x6 : Int32) (x7 : Int32) (μ : Mem), T p l e (rmD 3) s m args below meth c 8 A dsX D ad cA enI (k71 x2 x3 x4 x5 x6 x7 μ) 71 [(0, .ref (ad 0)), (2, .int x2), (3, .int x3), (4, .int x4), (5, .int x5), (6, .int x6), (7, .int x7)] [] μ) (x2 : Int32) (x3 : Int32) (x4 : Int32) (x6 : Int32) (x7 : Int32) (z0 : Int32) (μ : Mem) : T p l e (rmD 3) s m args below meth c 8 A dsX D ad cA enI (fX7_drift_J178 k71 x2 x3 x4 x6 x7 z0 μ) 178 [(0, .ref (ad 0)), (2, .int x2), (3, .int x3), (4, .int x4), (6, .int x6), (7, .int x7)] [.int z0] μ := by
  unfold fX7_drift_J178
  refine tt_istore (L2 := [(5, .int z0), (0, .ref (ad 0)), (2, .int x2), (3, .int x3), (4, .int x4), (6, .int x6), (7, .int x7)]) C dX7_drift_178 (by decide) rfl ?_
  refine tt_iincB (d := (1 : Int32)) C 6 (fun y1 => [(7, .int y1), (5, .int z0), (0, .ref (ad 0)), (2, .int x2), (3, .int x3), (4, .int x4), (6, .int x6)]) dX7_drift_180 rfl (by decide) (by decide) (fun _ => rfl) (fun y1 => ?_)
  refine tt_goto (tgt := 71) C dX7_drift_183 (by decide) ?_
  refine tt_sub [2, 3, 4, 5, 1, 6, 0] (L2 := [(0, .ref (ad 0)), (2, .int x2), (3, .int x3), (4, .int x4), (5, .int z0), (6, .int x6), (7, .int y1)]) rfl ?_
  exact hk71 x2 x3 x4 z0 x6 y1 μ

def fX7_drift_L71 : Nat → Int32 → Int32 → Int32 → Int32 → Int32 → Int32 → Mem → Option (Int32 × Mem)
  | 0, _, _, _, _, _, _, _ => none
  | fu + 1, x2, x3, x4, x5, x6, x7, μ => if x2 ≤ x7 then (if x3 = (0 : Int32) then (fX7_drift_J197 x4 μ) else (fX7_drift_J197 x5 μ)) else (lb ((x6 * (1103515245 : Int32)) + (12345 : Int32)) fun (y1 : Int32) => gd (¬ (μ 3 5) = (0 : Int32)) <| bv (fX7_moveAhead 25 (μ 3 5) (irm ((ush y1 (16 : Int32)) &&& (32767 : Int32)) (μ 3 5)) μ) fun m2 => bv (fX6_ride m2) fun m3 => bv (fX6_finish m3) fun m4 => lb (imax x4 (m4 24 16)) fun (y5 : Int32) => if x7 = (0 : Int32) then (fX7_drift_J178 (fun x2 x3 x4 x5 x6 x7 μ => fX7_drift_L71 fu x2 x3 x4 x5 x6 x7 μ) x2 x3 y5 y1 x7 (m4 24 13) m4) else (fX7_drift_J178 (fun x2 x3 x4 x5 x6 x7 μ => fX7_drift_L71 fu x2 x3 x4 x5 x6 x7 μ) x2 x3 y5 y1 x7 (imin x5 (m4 24 13)) m4))
set_option maxHeartbeats 4000000 in
set_option maxRecDepth 100000 in
theorem wX7_drift_L71 {p : Program} {l : Launch} {e : Env} {s : State} {m : MethodId} {args : Array Value} {below : List Frame} {meth : Method} {c : Code} {A : Nat → Prop} {D : va_G} {ad : Nat → Nat} {cA : Nat → ClassId} (C : Cx p s m args meth c cX7_drift RX7 8 A dsX D ad cA (EX A ad)) (hr : meth.sig.returnType = some .int) : ∀ (fu : Nat) (x2 : Int32) (x3 : Int32) (x4 : Int32) (x5 : Int32) (x6 : Int32) (x7 : Int32) (μ : Mem), T p l e (rmD 3) s m args below meth c 8 A dsX D ad cA enI (fX7_drift_L71 fu x2 x3 x4 x5 x6 x7 μ) 71 [(0, .ref (ad 0)), (2, .int x2), (3, .int x3), (4, .int x4), (5, .int x5), (6, .int x6), (7, .int x7)] [] μ
  | 0, _, _, _, _, _, _, _ => tt_none
  | fu + 1, x2, x3, x4, x5, x6, x7, μ => by
    have ih := fun (x2 : Int32) (x3 : Int32) (x4 : Int32) (x5 : Int32) (x6 : Int32) (x7 : Int32) (μ : Mem) => wX7_drift_L71 (l := l) (e := e) (below := below) C hr fu x2 x3 x4 x5 x6 x7 μ
    show T p l e (rmD 3) s m args below meth c 8 A dsX D ad cA enI (if x2 ≤ x7 then (if x3 = (0 : Int32) then (fX7_drift_J197 x4 μ) else (fX7_drift_J197 x5 μ)) else (lb ((x6 * (1103515245 : Int32)) + (12345 : Int32)) fun (y1 : Int32) => gd (¬ (μ 3 5) = (0 : Int32)) <| bv (fX7_moveAhead 25 (μ 3 5) (irm ((ush y1 (16 : Int32)) &&& (32767 : Int32)) (μ 3 5)) μ) fun m2 => bv (fX6_ride m2) fun m3 => bv (fX6_finish m3) fun m4 => lb (imax x4 (m4 24 16)) fun (y5 : Int32) => if x7 = (0 : Int32) then (fX7_drift_J178 (fun x2 x3 x4 x5 x6 x7 μ => fX7_drift_L71 fu x2 x3 x4 x5 x6 x7 μ) x2 x3 y5 y1 x7 (m4 24 13) m4) else (fX7_drift_J178 (fun x2 x3 x4 x5 x6 x7 μ => fX7_drift_L71 fu x2 x3 x4 x5 x6 x7 μ) x2 x3 y5 y1 x7 (imin x5 (m4 24 13)) m4))) 71 [(0, .ref (ad 0)), (2, .int x2), (3, .int x3), (4, .int x4), (5, .int x5), (6, .int x6), (7, .int x7)] [] μ
    refine tt_iload C 6 dX7_drift_71 rfl ?_
    refine tt_iload_n C 1 dX7_drift_73 rfl rfl ?_
    refine tt_if (fun h1 => ?_) (fun h1 => ?_)
    · refine tt_icmp_geT (tgt := 186) C h1 dX7_drift_74 (by decide) ?_
      refine tt_iload_n C 2 dX7_drift_186 rfl rfl ?_
      refine tt_if (fun h2 => ?_) (fun h2 => ?_)
      · refine tt_if_neF C 195 h2 dX7_drift_187 (by decide) ?_
        refine tt_iload C 3 dX7_drift_190 rfl ?_
        refine tt_goto (tgt := 197) C dX7_drift_192 (by decide) ?_
        refine tt_sub [] (L2 := []) rfl ?_
        exact wX7_drift_J197 C hr x4 μ
      · refine tt_if_neT (tgt := 195) C h2 dX7_drift_187 (by decide) ?_
        refine tt_iload C 4 dX7_drift_195 rfl ?_
        refine tt_sub [] (L2 := []) rfl ?_
        exact wX7_drift_J197 C hr x5 μ
    · refine tt_icmp_geF C 186 h1 dX7_drift_74 (by decide) ?_
      refine tt_iload C 5 dX7_drift_77 rfl ?_
      refine tt_ldcw (v := (1103515245 : Int32)) C kC_RX7_282 dX7_drift_79 ?_
      refine tt_imul C dX7_drift_82 ?_
      refine tt_sipush (v := (12345 : Int32)) C dX7_drift_83 (by decide) ?_
      refine tt_iadd C dX7_drift_86 ?_
      refine tt_lbi (fun y1 => ?_)
      refine tt_istore (L2 := [(6, .int y1), (0, .ref (ad 0)), (2, .int x2), (3, .int x3), (4, .int x4), (5, .int x5), (7, .int x7)]) C dX7_drift_87 (by decide) rfl ?_
      refine tt_aload_n C 1 dX7_drift_89 rfl rfl ?_
      refine tt_getR C (j := 3) (r0 := 24) dX_0 rfl fl_RX7_37 dX7_drift_90 ?_
      refine tt_getR C (j := 1) (r0 := 25) dX_24 rfl fl_RX7_227 dX7_drift_93 ?_
      refine tt_aload_n C 1 dX7_drift_96 rfl rfl ?_
      refine tt_getR C (j := 1) (r0 := 3) dX_0 rfl fl_RX7_19 dX7_drift_97 ?_
      refine tt_getI C (j := 5) dX_3 rfl fl_RX7_109 dX7_drift_100 ?_
      refine tt_iload C 0 dX7_drift_103 rfl ?_
      refine tt_bipush (v := (16 : Int32)) C dX7_drift_105 (by decide) ?_
      refine tt_iushr C dX7_drift_107 ?_
      refine tt_sipush (v := (32767 : Int32)) C dX7_drift_108 (by decide) ?_
      refine tt_iand C dX7_drift_111 ?_
      refine tt_aload_n C 1 dX7_drift_112 rfl rfl ?_
      refine tt_getR C (j := 1) (r0 := 3) dX_0 rfl fl_RX7_19 dX7_drift_113 ?_
      refine tt_getI C (j := 5) dX_3 rfl fl_RX7_109 dX7_drift_116 ?_
      refine tt_gd (fun h3 => ?_)
      refine tt_irem C h3 dX7_drift_119 ?_
      refine tt_bv (fun m2 h4 => ?_)
      refine tt_callS (st := []) (As := [.ref (ad 25), .int (μ 3 5), .int (irm ((ush y1 (16 : Int32)) &&& (32767 : Int32)) (μ 3 5))]) C (kX7_moveAhead C.2.2.2.2.2.2.2.1 25 dX_25 h4) mi_X7_moveAhead ml_RX7_283 mt_X7_moveAhead rfl (by decide) (by decide) (Nat.le_of_ble_eq_true rfl) dX7_drift_120 ?_
      refine tt_aload_n C 1 dX7_drift_123 rfl rfl ?_
      refine tt_getR C (j := 3) (r0 := 24) dX_0 rfl fl_RX7_37 dX7_drift_124 ?_
      refine tt_bv (fun m3 h5 => ?_)
      refine tt_callV (st := []) (As := []) C (kX6_ride C.2.2.2.2.2.2.2.1 h5) mi_X6_ride ml_RX7_212 mv_X6_ride ms_X6_ride (q := (RX6, TX6, 17)) dX_24 rfl rfl (by decide) (by decide) (Nat.le_of_ble_eq_true rfl) dX7_drift_127 ?_
      refine tt_aload_n C 1 dX7_drift_130 rfl rfl ?_
      refine tt_getR C (j := 3) (r0 := 24) dX_0 rfl fl_RX7_37 dX7_drift_131 ?_
      refine tt_bv (fun m4 h6 => ?_)
      refine tt_callV (st := []) (As := []) C (kX6_finish C.2.2.2.2.2.2.2.1 h6) mi_X6_finish ml_RX7_224 mv_X6_finish ms_X6_finish (q := (RX6, TX6, 17)) dX_24 rfl rfl (by decide) (by decide) (Nat.le_of_ble_eq_true rfl) dX7_drift_134 ?_
      refine tt_iload C 4 dX7_drift_137 rfl ?_
      refine tt_aload_n C 1 dX7_drift_139 rfl rfl ?_
      refine tt_getR C (j := 3) (r0 := 24) dX_0 rfl fl_RX7_37 dX7_drift_140 ?_
      refine tt_getI C (j := 16) dX_24 rfl fl_RX7_177 dX7_drift_143 ?_
      refine tt_mmax (st := []) C mm_RX7_287 (by decide) (by decide) (Nat.le_of_ble_eq_true rfl) dX7_drift_146 ?_
      refine tt_lbi (fun y5 => ?_)
      refine tt_istore (L2 := [(4, .int y5), (6, .int y1), (0, .ref (ad 0)), (2, .int x2), (3, .int x3), (5, .int x5), (7, .int x7)]) C dX7_drift_149 (by decide) rfl ?_
      refine tt_iload C 6 dX7_drift_151 rfl ?_
      refine tt_if (fun h7 => ?_) (fun h7 => ?_)
      · refine tt_if_neF C 166 h7 dX7_drift_153 (by decide) ?_
        refine tt_aload_n C 2 dX7_drift_156 rfl rfl ?_
        refine tt_getR C (j := 3) (r0 := 24) dX_0 rfl fl_RX7_37 dX7_drift_157 ?_
        refine tt_getI C (j := 13) dX_24 rfl fl_RX7_168 dX7_drift_160 ?_
        refine tt_goto (tgt := 178) C dX7_drift_163 (by decide) ?_
        refine tt_sub [2, 3, 4, 0, 1, 6] (L2 := [(0, .ref (ad 0)), (2, .int x2), (3, .int x3), (4, .int y5), (6, .int y1), (7, .int x7)]) rfl ?_
        exact wX7_drift_J178 C hr (fun x2 x3 x4 x5 x6 x7 μ => fX7_drift_L71 fu x2 x3 x4 x5 x6 x7 μ) (fun x2 x3 x4 x5 x6 x7 μ => ih x2 x3 x4 x5 x6 x7 μ) x2 x3 y5 y1 x7 (m4 24 13) m4
      · refine tt_if_neT (tgt := 166) C h7 dX7_drift_153 (by decide) ?_
        refine tt_iload C 5 dX7_drift_166 rfl ?_
        refine tt_aload_n C 2 dX7_drift_168 rfl rfl ?_
        refine tt_getR C (j := 3) (r0 := 24) dX_0 rfl fl_RX7_37 dX7_drift_169 ?_
        refine tt_getI C (j := 13) dX_24 rfl fl_RX7_168 dX7_drift_172 ?_
        refine tt_mmin (st := []) C mm_RX7_292 (by decide) (by decide) (Nat.le_of_ble_eq_true rfl) dX7_drift_175 ?_
        refine tt_sub [2, 3, 4, 0, 1, 6] (L2 := [(0, .ref (ad 0)), (2, .int x2), (3, .int x3), (4, .int y5), (6, .int y1), (7, .int x7)]) rfl ?_
        exact wX7_drift_J178 C hr (fun x2 x3 x4 x5 x6 x7 μ => fX7_drift_L71 fu x2 x3 x4 x5 x6 x7 μ) (fun x2 x3 x4 x5 x6 x7 μ => ih x2 x3 x4 x5 x6 x7 μ) x2 x3 y5 y1 x7 (imin x5 (m4 24 13)) m4

def fX7_drift_J19 (μ : Mem) : Option (Int32 × Mem) := some ((-1 : Int32), μ)
set_option maxHeartbeats 4000000 in
set_option maxRecDepth 100000 in
theorem wX7_drift_J19 {p : Program} {l : Launch} {e : Env} {s : State} {m : MethodId} {args : Array Value} {below : List Frame} {meth : Method} {c : Code} {A : Nat → Prop} {D : va_G} {ad : Nat → Nat} {cA : Nat → ClassId} (C : Cx p s m args meth c cX7_drift RX7 8 A dsX D ad cA (EX A ad)) (hr : meth.sig.returnType = some .int) (μ : Mem) : T p l e (rmD 3) s m args below meth c 8 A dsX D ad cA enI (fX7_drift_J19 μ) 19 [] [] μ := by
  unfold fX7_drift_J19
  refine tt_iconst (v := (-1 : Int32)) C dX7_drift_19 (by decide) ?_
  exact tt_iret rfl C hr dX7_drift_20

def fX7_drift (x1 : Int32) (x2 : Int32) (x3 : Int32) (μ : Mem) : Option (Int32 × Mem) := bi (fX7_within x2 (1 : Int32) (60 : Int32) μ) fun v2 m1 => if v2 = (0 : Int32) then (fX7_drift_J19 m1) else (bi (fX7_within x3 (0 : Int32) (1 : Int32) m1) fun v4 m3 => if v4 = (0 : Int32) then (fX7_drift_J19 m3) else (if (0 : Int32) < (m3 3 5) then (lb (0 : Int32) fun (y5 : Int32) => lb (0 : Int32) fun (y6 : Int32) => bi (fX7_allBits m3) fun v8 m7 => bv (fX6_take v8 (m7 3 7) m7) fun m9 => bv (fX6_stow m9) fun m10 => lb (0 : Int32) fun (y11 : Int32) => fX7_drift_L71 FU x2 x3 y5 y6 x1 y11 m10) else (some ((-2 : Int32), m3))))
set_option maxHeartbeats 4000000 in
set_option maxRecDepth 100000 in
theorem wX7_drift {p : Program} {l : Launch} {e : Env} {s : State} {m : MethodId} {args : Array Value} {below : List Frame} {meth : Method} {c : Code} {A : Nat → Prop} {D : va_G} {ad : Nat → Nat} {cA : Nat → ClassId} (C : Cx p s m args meth c cX7_drift RX7 8 A dsX D ad cA (EX A ad)) (hr : meth.sig.returnType = some .int) (x1 : Int32) (x2 : Int32) (x3 : Int32) (μ : Mem) : T p l e (rmD 3) s m args below meth c 8 A dsX D ad cA enI (fX7_drift x1 x2 x3 μ) 0 [(0, .ref (ad 0)), (1, .int x1), (2, .int x2), (3, .int x3)] [] μ := by
  unfold fX7_drift
  refine tt_iload_n C 2 dX7_drift_0 rfl rfl ?_
  refine tt_iconst (v := (1 : Int32)) C dX7_drift_1 (by decide) ?_
  refine tt_bipush (v := (60 : Int32)) C dX7_drift_2 (by decide) ?_
  refine tt_bi (fun v2 m1 h1 => ?_)
  refine tt_callS (st := []) (As := [.int x2, .int (1 : Int32), .int (60 : Int32)]) C (kX7_within C.2.2.2.2.2.2.2.1 h1) mi_X7_within ml_RX7_70 mt_X7_within rfl (by decide) (by decide) (Nat.le_of_ble_eq_true rfl) dX7_drift_4 ?_
  refine tt_if (fun h2 => ?_) (fun h2 => ?_)
  · refine tt_if_eqT (tgt := 19) C h2 dX7_drift_7 (by decide) ?_
    refine tt_sub [] (L2 := []) rfl ?_
    exact wX7_drift_J19 C hr m1
  · refine tt_if_eqF C 19 h2 dX7_drift_7 (by decide) ?_
    refine tt_iload_n C 3 dX7_drift_10 rfl rfl ?_
    refine tt_iconst (v := (0 : Int32)) C dX7_drift_11 (by decide) ?_
    refine tt_iconst (v := (1 : Int32)) C dX7_drift_12 (by decide) ?_
    refine tt_bi (fun v4 m3 h3 => ?_)
    refine tt_callS (st := []) (As := [.int x3, .int (0 : Int32), .int (1 : Int32)]) C (kX7_within C.2.2.2.2.2.2.2.1 h3) mi_X7_within ml_RX7_70 mt_X7_within rfl (by decide) (by decide) (Nat.le_of_ble_eq_true rfl) dX7_drift_13 ?_
    refine tt_if (fun h4 => ?_) (fun h4 => ?_)
    · refine tt_if_neF C 21 h4 dX7_drift_16 (by decide) ?_
      refine tt_sub [] (L2 := []) rfl ?_
      exact wX7_drift_J19 C hr m3
    · refine tt_if_neT (tgt := 21) C h4 dX7_drift_16 (by decide) ?_
      refine tt_aload_n C 0 dX7_drift_21 rfl rfl ?_
      refine tt_getR C (j := 1) (r0 := 3) dX_0 rfl fl_RX7_19 dX7_drift_22 ?_
      refine tt_getI C (j := 5) dX_3 rfl fl_RX7_109 dX7_drift_25 ?_
      refine tt_if (fun h5 => ?_) (fun h5 => ?_)
      · refine tt_if_gtT (tgt := 34) C h5 dX7_drift_28 (by decide) ?_
        refine tt_iconst (v := (0 : Int32)) C dX7_drift_34 (by decide) ?_
        refine tt_lbi (fun y5 => ?_)
        refine tt_istore (L2 := [(4, .int y5), (0, .ref (ad 0)), (1, .int x1), (2, .int x2), (3, .int x3)]) C dX7_drift_35 (by decide) rfl ?_
        refine tt_iconst (v := (0 : Int32)) C dX7_drift_37 (by decide) ?_
        refine tt_lbi (fun y6 => ?_)
        refine tt_istore (L2 := [(5, .int y6), (4, .int y5), (0, .ref (ad 0)), (1, .int x1), (2, .int x2), (3, .int x3)]) C dX7_drift_38 (by decide) rfl ?_
        refine tt_iload_n C 3 dX7_drift_40 rfl rfl ?_
        refine tt_istore (L2 := [(6, .int x1), (5, .int y6), (4, .int y5), (0, .ref (ad 0)), (1, .int x1), (2, .int x2), (3, .int x3)]) C dX7_drift_41 (by decide) rfl ?_
        refine tt_aload_n C 3 dX7_drift_43 rfl rfl ?_
        refine tt_getR C (j := 3) (r0 := 24) dX_0 rfl fl_RX7_37 dX7_drift_44 ?_
        refine tt_aload_n C 3 dX7_drift_47 rfl rfl ?_
        refine tt_bi (fun v8 m7 h6 => ?_)
        refine tt_callV (st := [.ref (ad 24)]) (As := []) C (kX7_allBits C.2.2.2.2.2.2.2.1 h6) mi_X7_allBits ml_RX7_204 mv_X7_allBits ms_X7_allBits (q := (RX7, TX7, 11)) dX_0 rfl rfl (by decide) (by decide) (Nat.le_of_ble_eq_true rfl) dX7_drift_48 ?_
        refine tt_aload_n C 3 dX7_drift_51 rfl rfl ?_
        refine tt_getR C (j := 1) (r0 := 3) dX_0 rfl fl_RX7_19 dX7_drift_52 ?_
        refine tt_getI C (j := 7) dX_3 rfl fl_RX7_115 dX7_drift_55 ?_
        refine tt_bv (fun m9 h7 => ?_)
        refine tt_callV (st := []) (As := [.int v8, .int (m7 3 7)]) C (kX6_take C.2.2.2.2.2.2.2.1 h7) mi_X6_take ml_RX7_208 mv_X6_take ms_X6_take (q := (RX6, TX6, 17)) dX_24 rfl rfl (by decide) (by decide) (Nat.le_of_ble_eq_true rfl) dX7_drift_58 ?_
        refine tt_aload_n C 3 dX7_drift_61 rfl rfl ?_
        refine tt_getR C (j := 3) (r0 := 24) dX_0 rfl fl_RX7_37 dX7_drift_62 ?_
        refine tt_bv (fun m10 h8 => ?_)
        refine tt_callV (st := []) (As := []) C (kX6_stow C.2.2.2.2.2.2.2.1 h8) mi_X6_stow ml_RX7_244 mv_X6_stow ms_X6_stow (q := (RX6, TX6, 17)) dX_24 rfl rfl (by decide) (by decide) (Nat.le_of_ble_eq_true rfl) dX7_drift_65 ?_
        refine tt_iconst (v := (0 : Int32)) C dX7_drift_68 (by decide) ?_
        refine tt_lbi (fun y11 => ?_)
        refine tt_istore (L2 := [(7, .int y11), (6, .int x1), (5, .int y6), (4, .int y5), (0, .ref (ad 0)), (1, .int x1), (2, .int x2), (3, .int x3)]) C dX7_drift_69 (by decide) rfl ?_
        refine tt_sub [4, 6, 7, 3, 2, 1, 0] (L2 := [(0, .ref (ad 0)), (2, .int x2), (3, .int x3), (4, .int y5), (5, .int y6), (6, .int x1), (7, .int y11)]) rfl ?_
        exact wX7_drift_L71 C hr FU x2 x3 y5 y6 x1 y11 m10
      · refine tt_if_gtF C 34 h5 dX7_drift_28 (by decide) ?_
        refine tt_bipush (v := (-2 : Int32)) C dX7_drift_31 (by decide) ?_
        exact tt_iret rfl C hr dX7_drift_33
theorem kX7_drift {l : Launch} {A : Nat → Prop} {D : va_G} {ad : Nat → Nat} {cA : Nat → ClassId} (hPk : Pk A dsX ad cA (EX A ad)) {x1 : Int32} {x2 : Int32} {x3 : Int32} {μ : Mem} {v : Int32} {ν : Mem} (h : fX7_drift x1 x2 x3 μ = some (v, ν)) : Ct l A dsX D ad cA (EX A ad) yX7_drift cX7_drift 8 (some .int) 3 [.ref (ad 0), .int x1, .int x2, .int x3] μ (enI (v, ν)) :=
  ct_of (by decide) (Nat.le_of_ble_eq_true rfl) hPk rfl (fun p e s m args below meth c C hr => wX7_drift C hr x1 x2 x3 μ) h

/-! BasketRound.end(I)I -/
def fX7_end (x1 : Int32) (μ : Mem) : Option (Int32 × Mem) := bi (fX7_within x1 (0 : Int32) (μ 1 1) μ) fun v2 m1 => if v2 = (0 : Int32) then (some ((-1 : Int32), m1)) else (lb (m1 1 1) fun (y3 : Int32) => lb (wr m1 1 1 x1) fun m4 => some (y3, m4))
set_option maxHeartbeats 4000000 in
set_option maxRecDepth 100000 in
theorem wX7_end {p : Program} {l : Launch} {e : Env} {s : State} {m : MethodId} {args : Array Value} {below : List Frame} {meth : Method} {c : Code} {A : Nat → Prop} {D : va_G} {ad : Nat → Nat} {cA : Nat → ClassId} (C : Cx p s m args meth c cX7_end RX7 3 A dsX D ad cA (EX A ad)) (hr : meth.sig.returnType = some .int) (x1 : Int32) (μ : Mem) : T p l e (rmD 1) s m args below meth c 3 A dsX D ad cA enI (fX7_end x1 μ) 0 [(0, .ref (ad 0)), (1, .int x1)] [] μ := by
  unfold fX7_end
  refine tt_iload_n C 1 dX7_end_0 rfl rfl ?_
  refine tt_iconst (v := (0 : Int32)) C dX7_end_1 (by decide) ?_
  refine tt_aload_n C 0 dX7_end_2 rfl rfl ?_
  refine tt_getR C (j := 0) (r0 := 1) dX_0 rfl fl_RX7_10 dX7_end_3 ?_
  refine tt_getI C (j := 1) dX_1 rfl fl_RX7_74 dX7_end_6 ?_
  refine tt_bi (fun v2 m1 h1 => ?_)
  refine tt_callS (st := []) (As := [.int x1, .int (0 : Int32), .int (μ 1 1)]) C (kX7_within C.2.2.2.2.2.2.2.1 h1) mi_X7_within ml_RX7_70 mt_X7_within rfl (by decide) (by decide) (Nat.le_of_ble_eq_true rfl) dX7_end_9 ?_
  refine tt_if (fun h2 => ?_) (fun h2 => ?_)
  · refine tt_if_neF C 17 h2 dX7_end_12 (by decide) ?_
    refine tt_iconst (v := (-1 : Int32)) C dX7_end_15 (by decide) ?_
    exact tt_iret rfl C hr dX7_end_16
  · refine tt_if_neT (tgt := 17) C h2 dX7_end_12 (by decide) ?_
    refine tt_aload_n C 0 dX7_end_17 rfl rfl ?_
    refine tt_getR C (j := 0) (r0 := 1) dX_0 rfl fl_RX7_10 dX7_end_18 ?_
    refine tt_getI C (j := 1) dX_1 rfl fl_RX7_74 dX7_end_21 ?_
    refine tt_lbi (fun y3 => ?_)
    refine tt_istore_n (L2 := [(2, .int y3), (0, .ref (ad 0)), (1, .int x1)]) C dX7_end_24 rfl (by decide) rfl ?_
    refine tt_aload_n C 1 dX7_end_25 rfl rfl ?_
    refine tt_getR C (j := 0) (r0 := 1) dX_0 rfl fl_RX7_10 dX7_end_26 ?_
    refine tt_iload_n C 2 dX7_end_29 rfl rfl ?_
    refine tt_putI C (j := 1) dX_1 rfl fl_RX7_74 fw_5_1 dX7_end_30 ?_
    refine tt_lbm (fun m4 => ?_)
    refine tt_iload_n C 0 dX7_end_33 rfl rfl ?_
    exact tt_iret rfl C hr dX7_end_34
theorem kX7_end {l : Launch} {A : Nat → Prop} {D : va_G} {ad : Nat → Nat} {cA : Nat → ClassId} (hPk : Pk A dsX ad cA (EX A ad)) {x1 : Int32} {μ : Mem} {v : Int32} {ν : Mem} (h : fX7_end x1 μ = some (v, ν)) : Ct l A dsX D ad cA (EX A ad) yX7_end cX7_end 3 (some .int) 1 [.ref (ad 0), .int x1] μ (enI (v, ν)) :=
  ct_of (by decide) (Nat.le_of_ble_eq_true rfl) hPk rfl (fun p e s m args below meth c C hr => wX7_end C hr x1 μ) h

/-! BasketRound.exchangeOrders([III)I -/
def fX7_exchangeOrders_J16 (a1 : Nat) (μ : Mem) : Option (Int32 × Mem) := some ((-1 : Int32), μ)
set_option maxHeartbeats 4000000 in
set_option maxRecDepth 100000 in
theorem wX7_exchangeOrders_J16 {p : Program} {l : Launch} {e : Env} {s : State} {m : MethodId} {args : Array Value} {below : List Frame} {meth : Method} {c : Code} {A : Nat → Prop} {D : va_G} {ad : Nat → Nat} {cA : Nat → ClassId} (C : Cx p s m args meth c cX7_exchangeOrders RX7 7 A dsX D ad cA (EX A ad)) (hr : meth.sig.returnType = some .int) (a1 : Nat) (ha1 : dsX[a1]? = some (0, 5, [])) (μ : Mem) : T p l e (rmD 2) s m args below meth c 7 A dsX D ad cA enI (fX7_exchangeOrders_J16 a1 μ) 16 [] [] μ := by
  unfold fX7_exchangeOrders_J16
  refine tt_iconst (v := (-1 : Int32)) C dX7_exchangeOrders_16 (by decide) ?_
  exact tt_iret rfl C hr dX7_exchangeOrders_17

def fX7_exchangeOrders (a1 : Nat) (x2 : Int32) (x3 : Int32) (μ : Mem) : Option (Int32 × Mem) := bi (fX7_isOrder x2 μ) fun v2 m1 => if v2 = (0 : Int32) then (fX7_exchangeOrders_J16 a1 m1) else (bi (fX7_isOrder x3 m1) fun v4 m3 => if v4 = (0 : Int32) then (fX7_exchangeOrders_J16 a1 m3) else (lb (m3 3 5) fun (y5 : Int32) => bi (fX7_placeOf a1 y5 x2 m3) fun v7 m6 => bi (fX7_placeOf a1 y5 x3 m6) fun v9 m8 => gr v7 5 <| lb (wr m8 a1 v7.toNatClampNeg x3) fun m10 => gr v9 5 <| lb (wr m10 a1 v9.toNatClampNeg x2) fun m11 => bi (fX7_numberOf a1 y5 m11) fun v13 m12 => some (v13, m12)))
set_option maxHeartbeats 4000000 in
set_option maxRecDepth 100000 in
theorem wX7_exchangeOrders {p : Program} {l : Launch} {e : Env} {s : State} {m : MethodId} {args : Array Value} {below : List Frame} {meth : Method} {c : Code} {A : Nat → Prop} {D : va_G} {ad : Nat → Nat} {cA : Nat → ClassId} (C : Cx p s m args meth c cX7_exchangeOrders RX7 7 A dsX D ad cA (EX A ad)) (hr : meth.sig.returnType = some .int) (a1 : Nat) (ha1 : dsX[a1]? = some (0, 5, [])) (x2 : Int32) (x3 : Int32) (μ : Mem) : T p l e (rmD 2) s m args below meth c 7 A dsX D ad cA enI (fX7_exchangeOrders a1 x2 x3 μ) 0 [(0, .ref (ad 0)), (1, .ref (ad a1)), (2, .int x2), (3, .int x3)] [] μ := by
  unfold fX7_exchangeOrders
  refine tt_aload_n C 0 dX7_exchangeOrders_0 rfl rfl ?_
  refine tt_iload_n C 2 dX7_exchangeOrders_1 rfl rfl ?_
  refine tt_bi (fun v2 m1 h1 => ?_)
  refine tt_callV (st := []) (As := [.int x2]) C (kX7_isOrder C.2.2.2.2.2.2.2.1 h1) mi_X7_isOrder ml_RX7_137 mv_X7_isOrder ms_X7_isOrder (q := (RX7, TX7, 11)) dX_0 rfl rfl (by decide) (by decide) (Nat.le_of_ble_eq_true rfl) dX7_exchangeOrders_2 ?_
  refine tt_if (fun h2 => ?_) (fun h2 => ?_)
  · refine tt_if_eqT (tgt := 16) C h2 dX7_exchangeOrders_5 (by decide) ?_
    refine tt_sub [] (L2 := []) rfl ?_
    exact wX7_exchangeOrders_J16 C hr a1 ha1 m1
  · refine tt_if_eqF C 16 h2 dX7_exchangeOrders_5 (by decide) ?_
    refine tt_aload_n C 0 dX7_exchangeOrders_8 rfl rfl ?_
    refine tt_iload_n C 3 dX7_exchangeOrders_9 rfl rfl ?_
    refine tt_bi (fun v4 m3 h3 => ?_)
    refine tt_callV (st := []) (As := [.int x3]) C (kX7_isOrder C.2.2.2.2.2.2.2.1 h3) mi_X7_isOrder ml_RX7_137 mv_X7_isOrder ms_X7_isOrder (q := (RX7, TX7, 11)) dX_0 rfl rfl (by decide) (by decide) (Nat.le_of_ble_eq_true rfl) dX7_exchangeOrders_10 ?_
    refine tt_if (fun h4 => ?_) (fun h4 => ?_)
    · refine tt_if_neF C 18 h4 dX7_exchangeOrders_13 (by decide) ?_
      refine tt_sub [] (L2 := []) rfl ?_
      exact wX7_exchangeOrders_J16 C hr a1 ha1 m3
    · refine tt_if_neT (tgt := 18) C h4 dX7_exchangeOrders_13 (by decide) ?_
      refine tt_aload_n C 0 dX7_exchangeOrders_18 rfl rfl ?_
      refine tt_getR C (j := 1) (r0 := 3) dX_0 rfl fl_RX7_19 dX7_exchangeOrders_19 ?_
      refine tt_getI C (j := 5) dX_3 rfl fl_RX7_109 dX7_exchangeOrders_22 ?_
      refine tt_lbi (fun y5 => ?_)
      refine tt_istore (L2 := [(4, .int y5), (0, .ref (ad 0)), (1, .ref (ad a1)), (2, .int x2), (3, .int x3)]) C dX7_exchangeOrders_25 (by decide) rfl ?_
      refine tt_aload_n C 2 dX7_exchangeOrders_27 rfl rfl ?_
      refine tt_iload C 0 dX7_exchangeOrders_28 rfl ?_
      refine tt_iload_n C 3 dX7_exchangeOrders_30 rfl rfl ?_
      refine tt_bi (fun v7 m6 h5 => ?_)
      refine tt_callS (st := []) (As := [.ref (ad a1), .int y5, .int x2]) C (kX7_placeOf C.2.2.2.2.2.2.2.1 a1 ha1 h5) mi_X7_placeOf ml_RX7_144 mt_X7_placeOf rfl (by decide) (by decide) (Nat.le_of_ble_eq_true rfl) dX7_exchangeOrders_31 ?_
      refine tt_istore (L2 := [(5, .int v7), (4, .int y5), (0, .ref (ad 0)), (1, .ref (ad a1)), (2, .int x2), (3, .int x3)]) C dX7_exchangeOrders_34 (by decide) rfl ?_
      refine tt_aload_n C 3 dX7_exchangeOrders_36 rfl rfl ?_
      refine tt_iload C 1 dX7_exchangeOrders_37 rfl ?_
      refine tt_iload_n C 5 dX7_exchangeOrders_39 rfl rfl ?_
      refine tt_bi (fun v9 m8 h6 => ?_)
      refine tt_callS (st := []) (As := [.ref (ad a1), .int y5, .int x3]) C (kX7_placeOf C.2.2.2.2.2.2.2.1 a1 ha1 h6) mi_X7_placeOf ml_RX7_144 mt_X7_placeOf rfl (by decide) (by decide) (Nat.le_of_ble_eq_true rfl) dX7_exchangeOrders_40 ?_
      refine tt_istore (L2 := [(6, .int v9), (5, .int v7), (4, .int y5), (0, .ref (ad 0)), (1, .ref (ad a1)), (2, .int x2), (3, .int x3)]) C dX7_exchangeOrders_43 (by decide) rfl ?_
      refine tt_aload_n C 4 dX7_exchangeOrders_45 rfl rfl ?_
      refine tt_iload C 1 dX7_exchangeOrders_46 rfl ?_
      refine tt_iload_n C 6 dX7_exchangeOrders_48 rfl rfl ?_
      refine tt_gr (fun h7 => ?_)
      refine tt_iast C ha1 h7 dX7_exchangeOrders_49 ?_
      refine tt_lbm (fun m10 => ?_)
      refine tt_aload_n C 4 dX7_exchangeOrders_50 rfl rfl ?_
      refine tt_iload C 0 dX7_exchangeOrders_51 rfl ?_
      refine tt_iload_n C 5 dX7_exchangeOrders_53 rfl rfl ?_
      refine tt_gr (fun h8 => ?_)
      refine tt_iast C ha1 h8 dX7_exchangeOrders_54 ?_
      refine tt_lbm (fun m11 => ?_)
      refine tt_aload_n C 4 dX7_exchangeOrders_55 rfl rfl ?_
      refine tt_iload C 2 dX7_exchangeOrders_56 rfl ?_
      refine tt_bi (fun v13 m12 h9 => ?_)
      refine tt_callS (st := []) (As := [.ref (ad a1), .int y5]) C (kX7_numberOf C.2.2.2.2.2.2.2.1 a1 ha1 h9) mi_X7_numberOf ml_RX7_122 mt_X7_numberOf rfl (by decide) (by decide) (Nat.le_of_ble_eq_true rfl) dX7_exchangeOrders_58 ?_
      exact tt_iret rfl C hr dX7_exchangeOrders_61
theorem kX7_exchangeOrders {l : Launch} {A : Nat → Prop} {D : va_G} {ad : Nat → Nat} {cA : Nat → ClassId} (hPk : Pk A dsX ad cA (EX A ad)) (a1 : Nat) (ha1 : dsX[a1]? = some (0, 5, [])) {x2 : Int32} {x3 : Int32} {μ : Mem} {v : Int32} {ν : Mem} (h : fX7_exchangeOrders a1 x2 x3 μ = some (v, ν)) : Ct l A dsX D ad cA (EX A ad) yX7_exchangeOrders cX7_exchangeOrders 7 (some .int) 2 [.ref (ad 0), .ref (ad a1), .int x2, .int x3] μ (enI (v, ν)) :=
  ct_of (by decide) (Nat.le_of_ble_eq_true rfl) hPk rfl (fun p e s m args below meth c C hr => wX7_exchangeOrders C hr a1 ha1 x2 x3 μ) h

/-! BasketRound.fault()I -/
def fX7_fault (μ : Mem) : Option (Int32 × Mem) := some ((μ 0 9), μ)
set_option maxHeartbeats 4000000 in
set_option maxRecDepth 100000 in
theorem wX7_fault {p : Program} {l : Launch} {e : Env} {s : State} {m : MethodId} {args : Array Value} {below : List Frame} {meth : Method} {c : Code} {A : Nat → Prop} {D : va_G} {ad : Nat → Nat} {cA : Nat → ClassId} (C : Cx p s m args meth c cX7_fault RX7 1 A dsX D ad cA (EX A ad)) (hr : meth.sig.returnType = some .int) (μ : Mem) : T p l e (rmD 0) s m args below meth c 1 A dsX D ad cA enI (fX7_fault μ) 0 [(0, .ref (ad 0))] [] μ := by
  unfold fX7_fault
  refine tt_aload_n C 0 dX7_fault_0 rfl rfl ?_
  refine tt_getI C (j := 9) dX_0 rfl fl_RX7_88 dX7_fault_1 ?_
  exact tt_iret rfl C hr dX7_fault_4
theorem kX7_fault {l : Launch} {A : Nat → Prop} {D : va_G} {ad : Nat → Nat} {cA : Nat → ClassId} (hPk : Pk A dsX ad cA (EX A ad)) {μ : Mem} {v : Int32} {ν : Mem} (h : fX7_fault μ = some (v, ν)) : Ct l A dsX D ad cA (EX A ad) yX7_fault cX7_fault 1 (some .int) 0 [.ref (ad 0)] μ (enI (v, ν)) :=
  ct_of (by decide) (Nat.le_of_ble_eq_true rfl) hPk rfl (fun p e s m args below meth c C hr => wX7_fault C hr μ) h

/-! BasketRound.feed(I)I -/
def fX7_feed (x1 : Int32) (μ : Mem) : Option (Int32 × Mem) := bi (fX7_within x1 (0 : Int32) (127 : Int32) μ) fun v2 m1 => if v2 = (0 : Int32) then (some ((-1 : Int32), m1)) else (if (m1 1 1) < (160 : Int32) then (gr (m1 1 1) 160 <| lb (wr m1 2 (m1 1 1).toNatClampNeg x1.toInt8.toInt32.toInt8.toInt32) fun m3 => lb (wr m3 1 1 ((m3 1 1) + (1 : Int32))) fun m4 => some ((m4 1 1), m4)) else (some ((-3 : Int32), m1)))
set_option maxHeartbeats 4000000 in
set_option maxRecDepth 100000 in
theorem wX7_feed {p : Program} {l : Launch} {e : Env} {s : State} {m : MethodId} {args : Array Value} {below : List Frame} {meth : Method} {c : Code} {A : Nat → Prop} {D : va_G} {ad : Nat → Nat} {cA : Nat → ClassId} (C : Cx p s m args meth c cX7_feed RX7 2 A dsX D ad cA (EX A ad)) (hr : meth.sig.returnType = some .int) (x1 : Int32) (μ : Mem) : T p l e (rmD 1) s m args below meth c 2 A dsX D ad cA enI (fX7_feed x1 μ) 0 [(0, .ref (ad 0)), (1, .int x1)] [] μ := by
  unfold fX7_feed
  refine tt_iload_n C 1 dX7_feed_0 rfl rfl ?_
  refine tt_iconst (v := (0 : Int32)) C dX7_feed_1 (by decide) ?_
  refine tt_bipush (v := (127 : Int32)) C dX7_feed_2 (by decide) ?_
  refine tt_bi (fun v2 m1 h1 => ?_)
  refine tt_callS (st := []) (As := [.int x1, .int (0 : Int32), .int (127 : Int32)]) C (kX7_within C.2.2.2.2.2.2.2.1 h1) mi_X7_within ml_RX7_70 mt_X7_within rfl (by decide) (by decide) (Nat.le_of_ble_eq_true rfl) dX7_feed_4 ?_
  refine tt_if (fun h2 => ?_) (fun h2 => ?_)
  · refine tt_if_neF C 12 h2 dX7_feed_7 (by decide) ?_
    refine tt_iconst (v := (-1 : Int32)) C dX7_feed_10 (by decide) ?_
    exact tt_iret rfl C hr dX7_feed_11
  · refine tt_if_neT (tgt := 12) C h2 dX7_feed_7 (by decide) ?_
    refine tt_aload_n C 0 dX7_feed_12 rfl rfl ?_
    refine tt_getR C (j := 0) (r0 := 1) dX_0 rfl fl_RX7_10 dX7_feed_13 ?_
    refine tt_getI C (j := 1) dX_1 rfl fl_RX7_74 dX7_feed_16 ?_
    refine tt_sipush (v := (160 : Int32)) C dX7_feed_19 (by decide) ?_
    refine tt_if (fun h3 => ?_) (fun h3 => ?_)
    · refine tt_icmp_ltT (tgt := 28) C h3 dX7_feed_22 (by decide) ?_
      refine tt_aload_n C 0 dX7_feed_28 rfl rfl ?_
      refine tt_getR C (j := 0) (r0 := 1) dX_0 rfl fl_RX7_10 dX7_feed_29 ?_
      refine tt_getR C (j := 0) (r0 := 2) dX_1 rfl fl_RX7_78 dX7_feed_32 ?_
      refine tt_aload_n C 0 dX7_feed_35 rfl rfl ?_
      refine tt_getR C (j := 0) (r0 := 1) dX_0 rfl fl_RX7_10 dX7_feed_36 ?_
      refine tt_getI C (j := 1) dX_1 rfl fl_RX7_74 dX7_feed_39 ?_
      refine tt_iload_n C 1 dX7_feed_42 rfl rfl ?_
      refine tt_i2b C dX7_feed_43 ?_
      refine tt_gr (fun h4 => ?_)
      refine tt_bast C dX_2 h4 dX7_feed_44 ?_
      refine tt_lbm (fun m3 => ?_)
      refine tt_aload_n C 0 dX7_feed_45 rfl rfl ?_
      refine tt_getR C (j := 0) (r0 := 1) dX_0 rfl fl_RX7_10 dX7_feed_46 ?_
      refine tt_dup C dX7_feed_49 rfl ?_
      refine tt_getI C (j := 1) dX_1 rfl fl_RX7_74 dX7_feed_50 ?_
      refine tt_iconst (v := (1 : Int32)) C dX7_feed_53 (by decide) ?_
      refine tt_iadd C dX7_feed_54 ?_
      refine tt_putI C (j := 1) dX_1 rfl fl_RX7_74 fw_5_1 dX7_feed_55 ?_
      refine tt_lbm (fun m4 => ?_)
      refine tt_aload_n C 0 dX7_feed_58 rfl rfl ?_
      refine tt_getR C (j := 0) (r0 := 1) dX_0 rfl fl_RX7_10 dX7_feed_59 ?_
      refine tt_getI C (j := 1) dX_1 rfl fl_RX7_74 dX7_feed_62 ?_
      exact tt_iret rfl C hr dX7_feed_65
    · refine tt_icmp_ltF C 28 h3 dX7_feed_22 (by decide) ?_
      refine tt_bipush (v := (-3 : Int32)) C dX7_feed_25 (by decide) ?_
      exact tt_iret rfl C hr dX7_feed_27
theorem kX7_feed {l : Launch} {A : Nat → Prop} {D : va_G} {ad : Nat → Nat} {cA : Nat → ClassId} (hPk : Pk A dsX ad cA (EX A ad)) {x1 : Int32} {μ : Mem} {v : Int32} {ν : Mem} (h : fX7_feed x1 μ = some (v, ν)) : Ct l A dsX D ad cA (EX A ad) yX7_feed cX7_feed 2 (some .int) 1 [.ref (ad 0), .int x1] μ (enI (v, ν)) :=
  ct_of (by decide) (Nat.le_of_ble_eq_true rfl) hPk rfl (fun p e s m args below meth c C hr => wX7_feed C hr x1 μ) h

/-! BasketRound.first(I)I -/
def fX7_first (x1 : Int32) (μ : Mem) : Option (Int32 × Mem) := bi (fX7_bringAhead 7 x1 μ) fun v2 m1 => some (v2, m1)
set_option maxHeartbeats 4000000 in
set_option maxRecDepth 100000 in
theorem wX7_first {p : Program} {l : Launch} {e : Env} {s : State} {m : MethodId} {args : Array Value} {below : List Frame} {meth : Method} {c : Code} {A : Nat → Prop} {D : va_G} {ad : Nat → Nat} {cA : Nat → ClassId} (C : Cx p s m args meth c cX7_first RX7 2 A dsX D ad cA (EX A ad)) (hr : meth.sig.returnType = some .int) (x1 : Int32) (μ : Mem) : T p l e (rmD 3) s m args below meth c 2 A dsX D ad cA enI (fX7_first x1 μ) 0 [(0, .ref (ad 0)), (1, .int x1)] [] μ := by
  unfold fX7_first
  refine tt_aload_n C 0 dX7_first_0 rfl rfl ?_
  refine tt_aload_n C 0 dX7_first_1 rfl rfl ?_
  refine tt_getR C (j := 1) (r0 := 3) dX_0 rfl fl_RX7_19 dX7_first_2 ?_
  refine tt_getR C (j := 3) (r0 := 7) dX_3 rfl fl_RX7_126 dX7_first_5 ?_
  refine tt_iload_n C 1 dX7_first_8 rfl rfl ?_
  refine tt_bi (fun v2 m1 h1 => ?_)
  refine tt_callV (st := []) (As := [.ref (ad 7), .int x1]) C (kX7_bringAhead C.2.2.2.2.2.2.2.1 7 dX_7 h1) mi_X7_bringAhead ml_RX7_151 mv_X7_bringAhead ms_X7_bringAhead (q := (RX7, TX7, 11)) dX_0 rfl rfl (by decide) (by decide) (Nat.le_of_ble_eq_true rfl) dX7_first_9 ?_
  exact tt_iret rfl C hr dX7_first_12
theorem kX7_first {l : Launch} {A : Nat → Prop} {D : va_G} {ad : Nat → Nat} {cA : Nat → ClassId} (hPk : Pk A dsX ad cA (EX A ad)) {x1 : Int32} {μ : Mem} {v : Int32} {ν : Mem} (h : fX7_first x1 μ = some (v, ν)) : Ct l A dsX D ad cA (EX A ad) yX7_first cX7_first 2 (some .int) 3 [.ref (ad 0), .int x1] μ (enI (v, ν)) :=
  ct_of (by decide) (Nat.le_of_ble_eq_true rfl) hPk rfl (fun p e s m args below meth c C hr => wX7_first C hr x1 μ) h

/-! BasketRound.takeRoundsFromFirst()V -/
def fX7_takeRoundsFromFirst (μ : Mem) : Option (Mem) := bi (fX7_allBits μ) fun v2 m1 => bv (fX6_take v2 (m1 3 7) m1) fun m3 => bv (fX6_stow m3) fun m4 => bv (fX7_layByOrder 25 (m4 3 5) m4) fun m5 => some m5
set_option maxHeartbeats 4000000 in
set_option maxRecDepth 100000 in
theorem wX7_takeRoundsFromFirst {p : Program} {l : Launch} {e : Env} {s : State} {m : MethodId} {args : Array Value} {below : List Frame} {meth : Method} {c : Code} {A : Nat → Prop} {D : va_G} {ad : Nat → Nat} {cA : Nat → ClassId} (C : Cx p s m args meth c cX7_takeRoundsFromFirst RX7 1 A dsX D ad cA (EX A ad)) (hr : meth.sig.returnType = none) (μ : Mem) : T p l e (rmD 2) s m args below meth c 1 A dsX D ad cA enV (fX7_takeRoundsFromFirst μ) 0 [(0, .ref (ad 0))] [] μ := by
  unfold fX7_takeRoundsFromFirst
  refine tt_aload_n C 0 dX7_takeRoundsFromFirst_0 rfl rfl ?_
  refine tt_getR C (j := 3) (r0 := 24) dX_0 rfl fl_RX7_37 dX7_takeRoundsFromFirst_1 ?_
  refine tt_aload_n C 0 dX7_takeRoundsFromFirst_4 rfl rfl ?_
  refine tt_bi (fun v2 m1 h1 => ?_)
  refine tt_callV (st := [.ref (ad 24)]) (As := []) C (kX7_allBits C.2.2.2.2.2.2.2.1 h1) mi_X7_allBits ml_RX7_204 mv_X7_allBits ms_X7_allBits (q := (RX7, TX7, 11)) dX_0 rfl rfl (by decide) (by decide) (Nat.le_of_ble_eq_true rfl) dX7_takeRoundsFromFirst_5 ?_
  refine tt_aload_n C 0 dX7_takeRoundsFromFirst_8 rfl rfl ?_
  refine tt_getR C (j := 1) (r0 := 3) dX_0 rfl fl_RX7_19 dX7_takeRoundsFromFirst_9 ?_
  refine tt_getI C (j := 7) dX_3 rfl fl_RX7_115 dX7_takeRoundsFromFirst_12 ?_
  refine tt_bv (fun m3 h2 => ?_)
  refine tt_callV (st := []) (As := [.int v2, .int (m1 3 7)]) C (kX6_take C.2.2.2.2.2.2.2.1 h2) mi_X6_take ml_RX7_208 mv_X6_take ms_X6_take (q := (RX6, TX6, 17)) dX_24 rfl rfl (by decide) (by decide) (Nat.le_of_ble_eq_true rfl) dX7_takeRoundsFromFirst_15 ?_
  refine tt_aload_n C 0 dX7_takeRoundsFromFirst_18 rfl rfl ?_
  refine tt_getR C (j := 3) (r0 := 24) dX_0 rfl fl_RX7_37 dX7_takeRoundsFromFirst_19 ?_
  refine tt_bv (fun m4 h3 => ?_)
  refine tt_callV (st := []) (As := []) C (kX6_stow C.2.2.2.2.2.2.2.1 h3) mi_X6_stow ml_RX7_244 mv_X6_stow ms_X6_stow (q := (RX6, TX6, 17)) dX_24 rfl rfl (by decide) (by decide) (Nat.le_of_ble_eq_true rfl) dX7_takeRoundsFromFirst_22 ?_
  refine tt_aload_n C 0 dX7_takeRoundsFromFirst_25 rfl rfl ?_
  refine tt_getR C (j := 3) (r0 := 24) dX_0 rfl fl_RX7_37 dX7_takeRoundsFromFirst_26 ?_
  refine tt_getR C (j := 1) (r0 := 25) dX_24 rfl fl_RX7_227 dX7_takeRoundsFromFirst_29 ?_
  refine tt_aload_n C 0 dX7_takeRoundsFromFirst_32 rfl rfl ?_
  refine tt_getR C (j := 1) (r0 := 3) dX_0 rfl fl_RX7_19 dX7_takeRoundsFromFirst_33 ?_
  refine tt_getI C (j := 5) dX_3 rfl fl_RX7_109 dX7_takeRoundsFromFirst_36 ?_
  refine tt_bv (fun m5 h4 => ?_)
  refine tt_callS (st := []) (As := [.ref (ad 25), .int (m4 3 5)]) C (kX7_layByOrder C.2.2.2.2.2.2.2.1 25 dX_25 h4) mi_X7_layByOrder ml_RX7_331 mt_X7_layByOrder rfl (by decide) (by decide) (Nat.le_of_ble_eq_true rfl) dX7_takeRoundsFromFirst_39 ?_
  exact tt_vret rfl C hr dX7_takeRoundsFromFirst_42
theorem kX7_takeRoundsFromFirst {l : Launch} {A : Nat → Prop} {D : va_G} {ad : Nat → Nat} {cA : Nat → ClassId} (hPk : Pk A dsX ad cA (EX A ad)) {μ : Mem} {ν : Mem} (h : fX7_takeRoundsFromFirst μ = some ν) : Ct l A dsX D ad cA (EX A ad) yX7_takeRoundsFromFirst cX7_takeRoundsFromFirst 1 none 2 [.ref (ad 0)] μ (enV ν) :=
  ct_of (by decide) (Nat.le_of_ble_eq_true rfl) hPk rfl (fun p e s m args below meth c C hr => wX7_takeRoundsFromFirst C hr μ) h

