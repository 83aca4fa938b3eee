/-! BasketRoundModel.in(JJJ)Z -/
def fX8_in_J18 (z0 : Int32) (μ : Mem) : Option (Int32 × Mem) := gd (z0 = (0 : Int32) ∨ z0 = (1 : Int32)) <| some (z0, μ)
set_option maxHeartbeats 4000000 in
set_option maxRecDepth 100000 in
theorem wX8_in_J18 {p : Program} {l : Launch} {e : Env} {s : State} {m : MethodId} {args : Array Value} {below : List Frame} {meth : Method} {c : Code} {A : Nat → Prop} {D : va_G} {ad : Nat → Nat} {cA : Nat → ClassId} (C : Cx p s m args meth c cX8_in RX8 6 A dsM D ad cA EM) (hr : meth.sig.returnType = some .boolean) (z0 : Int32) (μ : Mem) : T p l e (rmD 0) s m args below meth c 6 A dsM D ad cA enI (fX8_in_J18 z0 μ) 18 [] [.int z0] μ := by
  unfold fX8_in_J18
  refine tt_gd (fun h1 => ?_)
  exact tt_zret rfl C hr h1 dX8_in_18

def fX8_in_J17 (μ : Mem) : Option (Int32 × Mem) := fX8_in_J18 (0 : Int32) μ
set_option maxHeartbeats 4000000 in
set_option maxRecDepth 100000 in
theorem wX8_in_J17 {p : Program} {l : Launch} {e : Env} {s : State} {m : MethodId} {args : Array Value} {below : List Frame} {meth : Method} {c : Code} {A : Nat → Prop} {D : va_G} {ad : Nat → Nat} {cA : Nat → ClassId} (C : Cx p s m args meth c cX8_in RX8 6 A dsM D ad cA EM) (hr : meth.sig.returnType = some .boolean) (μ : Mem) : T p l e (rmD 0) s m args below meth c 6 A dsM D ad cA enI (fX8_in_J17 μ) 17 [] [] μ := by
  unfold fX8_in_J17
  refine tt_iconst (v := (0 : Int32)) C dX8_in_17 (by decide) ?_
  refine tt_sub [] (L2 := []) rfl ?_
  exact wX8_in_J18 C hr (0 : Int32) μ

def fX8_in (x0 : Int64) (x2 : Int64) (x4 : Int64) (μ : Mem) : Option (Int32 × Mem) := if (lg_cmp x0 x2) < (0 : Int32) then (fX8_in_J17 μ) else (if (0 : Int32) < (lg_cmp x0 x4) then (fX8_in_J17 μ) else (fX8_in_J18 (1 : Int32) μ))
set_option maxHeartbeats 4000000 in
set_option maxRecDepth 100000 in
theorem wX8_in {p : Program} {l : Launch} {e : Env} {s : State} {m : MethodId} {args : Array Value} {below : List Frame} {meth : Method} {c : Code} {A : Nat → Prop} {D : va_G} {ad : Nat → Nat} {cA : Nat → ClassId} (C : Cx p s m args meth c cX8_in RX8 6 A dsM D ad cA EM) (hr : meth.sig.returnType = some .boolean) (x0 : Int64) (x2 : Int64) (x4 : Int64) (μ : Mem) : T p l e (rmD 0) s m args below meth c 6 A dsM D ad cA enI (fX8_in x0 x2 x4 μ) 0 [(0, .long x0), (2, .long x2), (4, .long x4)] [] μ := by
  unfold fX8_in
  refine tt_lload_n C 0 dX8_in_0 rfl rfl ?_
  refine tt_lload_n C 1 dX8_in_1 rfl rfl ?_
  refine tt_lcmp C dX8_in_2 ?_
  refine tt_if (fun h1 => ?_) (fun h1 => ?_)
  · refine tt_if_ltT (tgt := 17) C h1 dX8_in_3 (by decide) ?_
    refine tt_sub [] (L2 := []) rfl ?_
    exact wX8_in_J17 C hr μ
  · refine tt_if_ltF C 17 h1 dX8_in_3 (by decide) ?_
    refine tt_lload_n C 0 dX8_in_6 rfl rfl ?_
    refine tt_lload C 2 dX8_in_7 rfl ?_
    refine tt_lcmp C dX8_in_9 ?_
    refine tt_if (fun h2 => ?_) (fun h2 => ?_)
    · refine tt_if_gtT (tgt := 17) C h2 dX8_in_10 (by decide) ?_
      refine tt_sub [] (L2 := []) rfl ?_
      exact wX8_in_J17 C hr μ
    · refine tt_if_gtF C 17 h2 dX8_in_10 (by decide) ?_
      refine tt_iconst (v := (1 : Int32)) C dX8_in_13 (by decide) ?_
      refine tt_goto (tgt := 18) C dX8_in_14 (by decide) ?_
      refine tt_sub [] (L2 := []) rfl ?_
      exact wX8_in_J18 C hr (1 : Int32) μ
theorem kX8_in {l : Launch} {A : Nat → Prop} {D : va_G} {ad : Nat → Nat} {cA : Nat → ClassId} (hPk : Pk A dsM ad cA EM) {x0 : Int64} {x2 : Int64} {x4 : Int64} {μ : Mem} {v : Int32} {ν : Mem} (h : fX8_in x0 x2 x4 μ = some (v, ν)) : Ct l A dsM D ad cA EM yX8_in cX8_in 6 (some .boolean) 0 [.long x0, .long x2, .long x4] μ (enI (v, ν)) :=
  ct_of (by decide) (Nat.le_of_ble_eq_true rfl) hPk rfl (fun p e s m args below meth c C hr => wX8_in C hr x0 x2 x4 μ) h

/-! BasketRoundModel.isOrder(I)Z -/
def fX8_isOrder (x1 : Int32) (μ : Mem) : Option (Int32 × Mem) := bi (fX8_in x1.toInt64 (0 : Int64) (((μ 0 5) - (1 : Int32)).toInt64) μ) fun v2 m1 => gd (v2 = (0 : Int32) ∨ v2 = (1 : Int32)) <| some (v2, m1)
set_option maxHeartbeats 4000000 in
set_option maxRecDepth 100000 in
theorem wX8_isOrder {p : Program} {l : Launch} {e : Env} {s : State} {m : MethodId} {args : Array Value} {below : List Frame} {meth : Method} {c : Code} {A : Nat → Prop} {D : va_G} {ad : Nat → Nat} {cA : Nat → ClassId} (C : Cx p s m args meth c cX8_isOrder RX8 2 A dsM D ad cA EM) (hr : meth.sig.returnType = some .boolean) (x1 : Int32) (μ : Mem) : T p l e (rmD 1) s m args below meth c 2 A dsM D ad cA enI (fX8_isOrder x1 μ) 0 [(0, .ref (ad 0)), (1, .int x1)] [] μ := by
  unfold fX8_isOrder
  refine tt_iload_n C 1 dX8_isOrder_0 rfl rfl ?_
  refine tt_i2l C dX8_isOrder_1 ?_
  refine tt_lconst (v := (0 : Int64)) C dX8_isOrder_2 (by decide) ?_
  refine tt_aload_n C 0 dX8_isOrder_3 rfl rfl ?_
  refine tt_getI C (j := 5) dM_0 rfl fl_RX8_167 dX8_isOrder_4 ?_
  refine tt_iconst (v := (1 : Int32)) C dX8_isOrder_7 (by decide) ?_
  refine tt_isub C dX8_isOrder_8 ?_
  refine tt_i2l C dX8_isOrder_9 ?_
  refine tt_bi (fun v2 m1 h1 => ?_)
  refine tt_callS (st := []) (As := [.long x1.toInt64, .long (0 : Int64), .long (((μ 0 5) - (1 : Int32)).toInt64)]) C (kX8_in C.2.2.2.2.2.2.2.1 h1) mi_X8_in ml_RX8_70 mt_X8_in rfl (by decide) (by decide) (Nat.le_of_ble_eq_true rfl) dX8_isOrder_10 ?_
  refine tt_gd (fun h2 => ?_)
  exact tt_zret rfl C hr h2 dX8_isOrder_13
theorem kX8_isOrder {l : Launch} {A : Nat → Prop} {D : va_G} {ad : Nat → Nat} {cA : Nat → ClassId} (hPk : Pk A dsM ad cA EM) {x1 : Int32} {μ : Mem} {v : Int32} {ν : Mem} (h : fX8_isOrder x1 μ = some (v, ν)) : Ct l A dsM D ad cA EM yX8_isOrder cX8_isOrder 2 (some .boolean) 1 [.ref (ad 0), .int x1] μ (enI (v, ν)) :=
  ct_of (by decide) (Nat.le_of_ble_eq_true rfl) hPk rfl (fun p e s m args below meth c C hr => wX8_isOrder C hr x1 μ) h

/-! BasketRoundModel.puts(ZIII)I -/
def fX8_puts (x1 : Int32) (x2 : Int32) (x3 : Int32) (x4 : Int32) (μ : Mem) : Option (Int32 × Mem) := if x1 = (0 : Int32) then (some ((-1 : Int32), μ)) else (gr x2 160 <| lb ((μ 1 x2.toNatClampNeg) + x4) fun (y1 : Int32) => gr x2 160 <| lb (wr μ 1 x2.toNatClampNeg (x3 - x4)) fun m2 => some (y1, m2))
set_option maxHeartbeats 4000000 in
set_option maxRecDepth 100000 in
theorem wX8_puts {p : Program} {l : Launch} {e : Env} {s : State} {m : MethodId} {args : Array Value} {below : List Frame} {meth : Method} {c : Code} {A : Nat → Prop} {D : va_G} {ad : Nat → Nat} {cA : Nat → ClassId} (C : Cx p s m args meth c cX8_puts RX8 6 A dsM D ad cA EM) (hr : meth.sig.returnType = some .int) (x1 : Int32) (x2 : Int32) (x3 : Int32) (x4 : Int32) (μ : Mem) : T p l e (rmD 0) s m args below meth c 6 A dsM D ad cA enI (fX8_puts x1 x2 x3 x4 μ) 0 [(0, .ref (ad 0)), (1, .int x1), (2, .int x2), (3, .int x3), (4, .int x4)] [] μ := by
  unfold fX8_puts
  refine tt_iload_n C 1 dX8_puts_0 rfl rfl ?_
  refine tt_if (fun h1 => ?_) (fun h1 => ?_)
  · refine tt_if_neF C 6 h1 dX8_puts_1 (by decide) ?_
    refine tt_iconst (v := (-1 : Int32)) C dX8_puts_4 (by decide) ?_
    exact tt_iret rfl C hr dX8_puts_5
  · refine tt_if_neT (tgt := 6) C h1 dX8_puts_1 (by decide) ?_
    refine tt_aload_n C 0 dX8_puts_6 rfl rfl ?_
    refine tt_getR C (j := 0) (r0 := 1) dM_0 rfl fl_RX8_7 dX8_puts_7 ?_
    refine tt_iload_n C 2 dX8_puts_10 rfl rfl ?_
    refine tt_gr (fun h2 => ?_)
    refine tt_iald C dM_1 h2 dX8_puts_11 ?_
    refine tt_iload C 4 dX8_puts_12 rfl ?_
    refine tt_iadd C dX8_puts_14 ?_
    refine tt_lbi (fun y1 => ?_)
    refine tt_istore (L2 := [(5, .int y1), (0, .ref (ad 0)), (1, .int x1), (2, .int x2), (3, .int x3), (4, .int x4)]) C dX8_puts_15 (by decide) rfl ?_
    refine tt_aload_n C 1 dX8_puts_17 rfl rfl ?_
    refine tt_getR C (j := 0) (r0 := 1) dM_0 rfl fl_RX8_7 dX8_puts_18 ?_
    refine tt_iload_n C 3 dX8_puts_21 rfl rfl ?_
    refine tt_iload_n C 4 dX8_puts_22 rfl rfl ?_
    refine tt_iload C 5 dX8_puts_23 rfl ?_
    refine tt_isub C dX8_puts_25 ?_
    refine tt_gr (fun h3 => ?_)
    refine tt_iast C dM_1 h3 dX8_puts_26 ?_
    refine tt_lbm (fun m2 => ?_)
    refine tt_iload C 0 dX8_puts_27 rfl ?_
    exact tt_iret rfl C hr dX8_puts_29
theorem kX8_puts {l : Launch} {A : Nat → Prop} {D : va_G} {ad : Nat → Nat} {cA : Nat → ClassId} (hPk : Pk A dsM ad cA EM) {x1 : Int32} {x2 : Int32} {x3 : Int32} {x4 : Int32} {μ : Mem} {v : Int32} {ν : Mem} (h : fX8_puts x1 x2 x3 x4 μ = some (v, ν)) : Ct l A dsM D ad cA EM yX8_puts cX8_puts 6 (some .int) 0 [.ref (ad 0), .int x1, .int x2, .int x3, .int x4] μ (enI (v, ν)) :=
  ct_of (by decide) (Nat.le_of_ble_eq_true rfl) hPk rfl (fun p e s m args below meth c C hr => wX8_puts C hr x1 x2 x3 x4 μ) h

/-! BasketRoundModel.ask(III)I -/
def fX8_ask_J83 (z0 : Int32) (μ : Mem) : Option (Int32 × Mem) := some (z0, μ)
set_option maxHeartbeats 4000000 in
set_option maxRecDepth 100000 in
theorem wX8_ask_J83 {p : Program} {l : Launch} {e : Env} {s : State} {m : MethodId} {args : Array Value} {below : List Frame} {meth : Method} {c : Code} {A : Nat → Prop} {D : va_G} {ad : Nat → Nat} {cA : Nat → ClassId} (C : Cx p s m args meth c cX8_ask RX8 4 A dsM D ad cA EM) (hr : meth.sig.returnType = some .int) (z0 : Int32) (μ : Mem) : T p l e (rmD 2) s m args below meth c 4 A dsM D ad cA enI (fX8_ask_J83 z0 μ) 83 [] [.int z0] μ := by
  unfold fX8_ask_J83
  exact tt_iret rfl C hr dX8_ask_83

def fX8_ask_J74 (x1 : Int32) (x3 : Int32) (z1 : Int32) (μ : Mem) : Option (Int32 × Mem) := bi (fX8_puts z1 ((15 : Int32) + x1) x3 (0 : Int32) μ) fun v2 m1 => fX8_ask_J83 v2 m1
set_option maxHeartbeats 4000000 in
set_option maxRecDepth 100000 in
theorem wX8_ask_J74 {p : Program} {l : Launch} {e : Env} {s : State} {m : MethodId} {args : Array Value} {below : List Frame} {meth : Method} {c : Code} {A : Nat → Prop} {D : va_G} {ad : Nat → Nat} {cA : Nat → ClassId} (C : Cx p s m args meth c cX8_ask RX8 4 A dsM D ad cA EM) (hr : meth.sig.returnType = some .int) (x1 : Int32) (x3 : Int32) (z1 : Int32) (μ : Mem) : T p l e (rmD 2) s m args below meth c 4 A dsM D ad cA enI (fX8_ask_J74 x1 x3 z1 μ) 74 [(1, .int x1), (3, .int x3)] [.int z1, .ref (ad 0)] μ := by
  unfold fX8_ask_J74
  refine tt_bipush (v := (15 : Int32)) C dX8_ask_74 (by decide) ?_
  refine tt_iload_n C 0 dX8_ask_76 rfl rfl ?_
  refine tt_iadd C dX8_ask_77 ?_
  refine tt_iload_n C 1 dX8_ask_78 rfl rfl ?_
  refine tt_iconst (v := (0 : Int32)) C dX8_ask_79 (by decide) ?_
  refine tt_bi (fun v2 m1 h1 => ?_)
  refine tt_callV (st := []) (As := [.int z1, .int ((15 : Int32) + x1), .int x3, .int (0 : Int32)]) C (kX8_puts C.2.2.2.2.2.2.2.1 h1) mi_X8_puts ml_RX8_194 mv_X8_puts ms_X8_puts (q := (RX8, TX8, 45)) dM_0 rfl rfl (by decide) (by decide) (Nat.le_of_ble_eq_true rfl) dX8_ask_80 ?_
  refine tt_sub [] (L2 := []) rfl ?_
  exact wX8_ask_J83 C hr v2 m1

def fX8_ask_J73 (x1 : Int32) (x3 : Int32) (μ : Mem) : Option (Int32 × Mem) := fX8_ask_J74 x1 x3 (0 : Int32) μ
set_option maxHeartbeats 4000000 in
set_option maxRecDepth 100000 in
theorem wX8_ask_J73 {p : Program} {l : Launch} {e : Env} {s : State} {m : MethodId} {args : Array Value} {below : List Frame} {meth : Method} {c : Code} {A : Nat → Prop} {D : va_G} {ad : Nat → Nat} {cA : Nat → ClassId} (C : Cx p s m args meth c cX8_ask RX8 4 A dsM D ad cA EM) (hr : meth.sig.returnType = some .int) (x1 : Int32) (x3 : Int32) (μ : Mem) : T p l e (rmD 2) s m args below meth c 4 A dsM D ad cA enI (fX8_ask_J73 x1 x3 μ) 73 [(1, .int x1), (3, .int x3)] [.ref (ad 0)] μ := by
  unfold fX8_ask_J73
  refine tt_iconst (v := (0 : Int32)) C dX8_ask_73 (by decide) ?_
  refine tt_sub [0, 1] (L2 := [(1, .int x1), (3, .int x3)]) rfl ?_
  exact wX8_ask_J74 C hr x1 x3 (0 : Int32) μ

def fX8_ask_J31 (x1 : Int32) (x3 : Int32) (z1 : Int32) (μ : Mem) : Option (Int32 × Mem) := bi (fX8_puts z1 ((10 : Int32) + x1) x3 (0 : Int32) μ) fun v2 m1 => fX8_ask_J83 v2 m1
set_option maxHeartbeats 4000000 in
set_option maxRecDepth 100000 in
theorem wX8_ask_J31 {p : Program} {l : Launch} {e : Env} {s : State} {m : MethodId} {args : Array Value} {below : List Frame} {meth : Method} {c : Code} {A : Nat → Prop} {D : va_G} {ad : Nat → Nat} {cA : Nat → ClassId} (C : Cx p s m args meth c cX8_ask RX8 4 A dsM D ad cA EM) (hr : meth.sig.returnType = some .int) (x1 : Int32) (x3 : Int32) (z1 : Int32) (μ : Mem) : T p l e (rmD 2) s m args below meth c 4 A dsM D ad cA enI (fX8_ask_J31 x1 x3 z1 μ) 31 [(1, .int x1), (3, .int x3)] [.int z1, .ref (ad 0)] μ := by
  unfold fX8_ask_J31
  refine tt_bipush (v := (10 : Int32)) C dX8_ask_31 (by decide) ?_
  refine tt_iload_n C 0 dX8_ask_33 rfl rfl ?_
  refine tt_iadd C dX8_ask_34 ?_
  refine tt_iload_n C 1 dX8_ask_35 rfl rfl ?_
  refine tt_iconst (v := (0 : Int32)) C dX8_ask_36 (by decide) ?_
  refine tt_bi (fun v2 m1 h1 => ?_)
  refine tt_callV (st := []) (As := [.int z1, .int ((10 : Int32) + x1), .int x3, .int (0 : Int32)]) C (kX8_puts C.2.2.2.2.2.2.2.1 h1) mi_X8_puts ml_RX8_194 mv_X8_puts ms_X8_puts (q := (RX8, TX8, 45)) dM_0 rfl rfl (by decide) (by decide) (Nat.le_of_ble_eq_true rfl) dX8_ask_37 ?_
  refine tt_goto (tgt := 83) C dX8_ask_40 (by decide) ?_
  refine tt_sub [] (L2 := []) rfl ?_
  exact wX8_ask_J83 C hr v2 m1

def fX8_ask_J30 (x1 : Int32) (x3 : Int32) (μ : Mem) : Option (Int32 × Mem) := fX8_ask_J31 x1 x3 (0 : Int32) μ
set_option maxHeartbeats 4000000 in
set_option maxRecDepth 100000 in
theorem wX8_ask_J30 {p : Program} {l : Launch} {e : Env} {s : State} {m : MethodId} {args : Array Value} {below : List Frame} {meth : Method} {c : Code} {A : Nat → Prop} {D : va_G} {ad : Nat → Nat} {cA : Nat → ClassId} (C : Cx p s m args meth c cX8_ask RX8 4 A dsM D ad cA EM) (hr : meth.sig.returnType = some .int) (x1 : Int32) (x3 : Int32) (μ : Mem) : T p l e (rmD 2) s m args below meth c 4 A dsM D ad cA enI (fX8_ask_J30 x1 x3 μ) 30 [(1, .int x1), (3, .int x3)] [.ref (ad 0)] μ := by
  unfold fX8_ask_J30
  refine tt_iconst (v := (0 : Int32)) C dX8_ask_30 (by decide) ?_
  refine tt_sub [0, 1] (L2 := [(1, .int x1), (3, .int x3)]) rfl ?_
  exact wX8_ask_J31 C hr x1 x3 (0 : Int32) μ

def fX8_ask (x1 : Int32) (x2 : Int32) (x3 : Int32) (μ : Mem) : Option (Int32 × Mem) := if x2 = (3 : Int32) then (bi (fX8_isOrder x1 μ) fun v6 m5 => if v6 = (0 : Int32) then (fX8_ask_J30 x1 x3 m5) else (bi (fX8_in x3.toInt64 (0 : Int64) (9 : Int64) m5) fun v8 m7 => if v8 = (0 : Int32) then (fX8_ask_J30 x1 x3 m7) else (fX8_ask_J31 x1 x3 (1 : Int32) m7))) else (if x2 = (4 : Int32) then (bi (fX8_isOrder x1 μ) fun v2 m1 => if v2 = (0 : Int32) then (fX8_ask_J73 x1 x3 m1) else (bi (fX8_in x3.toInt64 (0 : Int64) (99 : Int64) m1) fun v4 m3 => if v4 = (0 : Int32) then (fX8_ask_J73 x1 x3 m3) else (fX8_ask_J74 x1 x3 (1 : Int32) m3))) else (fX8_ask_J73 x1 x3 μ))
set_option maxHeartbeats 4000000 in
set_option maxRecDepth 100000 in
theorem wX8_ask {p : Program} {l : Launch} {e : Env} {s : State} {m : MethodId} {args : Array Value} {below : List Frame} {meth : Method} {c : Code} {A : Nat → Prop} {D : va_G} {ad : Nat → Nat} {cA : Nat → ClassId} (C : Cx p s m args meth c cX8_ask RX8 4 A dsM D ad cA EM) (hr : meth.sig.returnType = some .int) (x1 : Int32) (x2 : Int32) (x3 : Int32) (μ : Mem) : T p l e (rmD 2) s m args below meth c 4 A dsM D ad cA enI (fX8_ask x1 x2 x3 μ) 0 [(0, .ref (ad 0)), (1, .int x1), (2, .int x2), (3, .int x3)] [] μ := by
  unfold fX8_ask
  refine tt_iload_n C 2 dX8_ask_0 rfl rfl ?_
  refine tt_iconst (v := (3 : Int32)) C dX8_ask_1 (by decide) ?_
  refine tt_if (fun h1 => ?_) (fun h1 => ?_)
  · refine tt_icmp_neF C 43 h1 dX8_ask_2 (by decide) ?_
    refine tt_aload_n C 0 dX8_ask_5 rfl rfl ?_
    refine tt_aload_n C 0 dX8_ask_6 rfl rfl ?_
    refine tt_iload_n C 1 dX8_ask_7 rfl rfl ?_
    refine tt_bi (fun v6 m5 h7 => ?_)
    refine tt_callV (st := [.ref (ad 0)]) (As := [.int x1]) C (kX8_isOrder C.2.2.2.2.2.2.2.1 h7) mi_X8_isOrder ml_RX8_185 mv_X8_isOrder ms_X8_isOrder (q := (RX8, TX8, 45)) dM_0 rfl rfl (by decide) (by decide) (Nat.le_of_ble_eq_true rfl) dX8_ask_8 ?_
    refine tt_if (fun h8 => ?_) (fun h8 => ?_)
    · refine tt_if_eqT (tgt := 30) C h8 dX8_ask_11 (by decide) ?_
      refine tt_sub [1, 3] (L2 := [(1, .int x1), (3, .int x3)]) rfl ?_
      exact wX8_ask_J30 C hr x1 x3 m5
    · refine tt_if_eqF C 30 h8 dX8_ask_11 (by decide) ?_
      refine tt_iload_n C 3 dX8_ask_14 rfl rfl ?_
      refine tt_i2l C dX8_ask_15 ?_
      refine tt_lconst (v := (0 : Int64)) C dX8_ask_16 (by decide) ?_
      refine tt_ldc2 (v := (9 : Int64)) C kL_RX8_205 dX8_ask_17 ?_
      refine tt_bi (fun v8 m7 h9 => ?_)
      refine tt_callS (st := [.ref (ad 0)]) (As := [.long x3.toInt64, .long (0 : Int64), .long (9 : Int64)]) C (kX8_in C.2.2.2.2.2.2.2.1 h9) mi_X8_in ml_RX8_70 mt_X8_in rfl (by decide) (by decide) (Nat.le_of_ble_eq_true rfl) dX8_ask_20 ?_
      refine tt_if (fun h10 => ?_) (fun h10 => ?_)
      · refine tt_if_eqT (tgt := 30) C h10 dX8_ask_23 (by decide) ?_
        refine tt_sub [1, 3] (L2 := [(1, .int x1), (3, .int x3)]) rfl ?_
        exact wX8_ask_J30 C hr x1 x3 m7
      · refine tt_if_eqF C 30 h10 dX8_ask_23 (by decide) ?_
        refine tt_iconst (v := (1 : Int32)) C dX8_ask_26 (by decide) ?_
        refine tt_goto (tgt := 31) C dX8_ask_27 (by decide) ?_
        refine tt_sub [1, 3] (L2 := [(1, .int x1), (3, .int x3)]) rfl ?_
        exact wX8_ask_J31 C hr x1 x3 (1 : Int32) m7
  · refine tt_icmp_neT (tgt := 43) C h1 dX8_ask_2 (by decide) ?_
    refine tt_aload_n C 0 dX8_ask_43 rfl rfl ?_
    refine tt_iload_n C 2 dX8_ask_44 rfl rfl ?_
    refine tt_iconst (v := (4 : Int32)) C dX8_ask_45 (by decide) ?_
    refine tt_if (fun h2 => ?_) (fun h2 => ?_)
    · refine tt_icmp_neF C 73 h2 dX8_ask_46 (by decide) ?_
      refine tt_aload_n C 0 dX8_ask_49 rfl rfl ?_
      refine tt_iload_n C 1 dX8_ask_50 rfl rfl ?_
      refine tt_bi (fun v2 m1 h3 => ?_)
      refine tt_callV (st := [.ref (ad 0)]) (As := [.int x1]) C (kX8_isOrder C.2.2.2.2.2.2.2.1 h3) mi_X8_isOrder ml_RX8_185 mv_X8_isOrder ms_X8_isOrder (q := (RX8, TX8, 45)) dM_0 rfl rfl (by decide) (by decide) (Nat.le_of_ble_eq_true rfl) dX8_ask_51 ?_
      refine tt_if (fun h4 => ?_) (fun h4 => ?_)
      · refine tt_if_eqT (tgt := 73) C h4 dX8_ask_54 (by decide) ?_
        refine tt_sub [1, 3] (L2 := [(1, .int x1), (3, .int x3)]) rfl ?_
        exact wX8_ask_J73 C hr x1 x3 m1
      · refine tt_if_eqF C 73 h4 dX8_ask_54 (by decide) ?_
        refine tt_iload_n C 3 dX8_ask_57 rfl rfl ?_
        refine tt_i2l C dX8_ask_58 ?_
        refine tt_lconst (v := (0 : Int64)) C dX8_ask_59 (by decide) ?_
        refine tt_ldc2 (v := (99 : Int64)) C kL_RX8_207 dX8_ask_60 ?_
        refine tt_bi (fun v4 m3 h5 => ?_)
        refine tt_callS (st := [.ref (ad 0)]) (As := [.long x3.toInt64, .long (0 : Int64), .long (99 : Int64)]) C (kX8_in C.2.2.2.2.2.2.2.1 h5) mi_X8_in ml_RX8_70 mt_X8_in rfl (by decide) (by decide) (Nat.le_of_ble_eq_true rfl) dX8_ask_63 ?_
        refine tt_if (fun h6 => ?_) (fun h6 => ?_)
        · refine tt_if_eqT (tgt := 73) C h6 dX8_ask_66 (by decide) ?_
          refine tt_sub [1, 3] (L2 := [(1, .int x1), (3, .int x3)]) rfl ?_
          exact wX8_ask_J73 C hr x1 x3 m3
        · refine tt_if_eqF C 73 h6 dX8_ask_66 (by decide) ?_
          refine tt_iconst (v := (1 : Int32)) C dX8_ask_69 (by decide) ?_
          refine tt_goto (tgt := 74) C dX8_ask_70 (by decide) ?_
          refine tt_sub [1, 3] (L2 := [(1, .int x1), (3, .int x3)]) rfl ?_
          exact wX8_ask_J74 C hr x1 x3 (1 : Int32) m3
    · refine tt_icmp_neT (tgt := 73) C h2 dX8_ask_46 (by decide) ?_
      refine tt_sub [1, 3] (L2 := [(1, .int x1), (3, .int x3)]) rfl ?_
      exact wX8_ask_J73 C hr x1 x3 μ
theorem kX8_ask {l : Launch} {A : Nat → Prop} {D : va_G} {ad : Nat → Nat} {cA : Nat → ClassId} (hPk : Pk A dsM ad cA EM) {x1 : Int32} {x2 : Int32} {x3 : Int32} {μ : Mem} {v : Int32} {ν : Mem} (h : fX8_ask x1 x2 x3 μ = some (v, ν)) : Ct l A dsM D ad cA EM yX8_ask cX8_ask 4 (some .int) 2 [.ref (ad 0), .int x1, .int x2, .int x3] μ (enI (v, ν)) :=
  ct_of (by decide) (Nat.le_of_ble_eq_true rfl) hPk rfl (fun p e s m args below meth c C hr => wX8_ask C hr x1 x2 x3 μ) h

/-! BasketRoundModel.back()I -/
def fX8_back (μ : Mem) : Option (Int32 × Mem) := bi (fX8_wholeRound μ) fun v2 m1 => some (v2, m1)
set_option maxHeartbeats 4000000 in
set_option maxRecDepth 100000 in
theorem wX8_back {p : Program} {l : Launch} {e : Env} {s : State} {m : MethodId} {args : Array Value} {below : List Frame} {meth : Method} {c : Code} {A : Nat → Prop} {D : va_G} {ad : Nat → Nat} {cA : Nat → ClassId} (C : Cx p s m args meth c cX8_back RX8 1 A dsM D ad cA EM) (hr : meth.sig.returnType = some .int) (μ : Mem) : T p l e (rmD 4) s m args below meth c 1 A dsM D ad cA enI (fX8_back μ) 0 [(0, .ref (ad 0))] [] μ := by
  unfold fX8_back
  refine tt_aload_n C 0 dX8_back_0 rfl rfl ?_
  refine tt_bi (fun v2 m1 h1 => ?_)
  refine tt_callV (st := []) (As := []) C (kX8_wholeRound C.2.2.2.2.2.2.2.1 h1) mi_X8_wholeRound ml_RX8_245 mv_X8_wholeRound ms_X8_wholeRound (q := (RX8, TX8, 45)) dM_0 rfl rfl (by decide) (by decide) (Nat.le_of_ble_eq_true rfl) dX8_back_1 ?_
  exact tt_iret rfl C hr dX8_back_4
theorem kX8_back {l : Launch} {A : Nat → Prop} {D : va_G} {ad : Nat → Nat} {cA : Nat → ClassId} (hPk : Pk A dsM ad cA EM) {μ : Mem} {v : Int32} {ν : Mem} (h : fX8_back μ = some (v, ν)) : Ct l A dsM D ad cA EM yX8_back cX8_back 1 (some .int) 4 [.ref (ad 0)] μ (enI (v, ν)) :=
  ct_of (by decide) (Nat.le_of_ble_eq_true rfl) hPk rfl (fun p e s m args below meth c C hr => wX8_back C hr μ) h

/-! BasketRoundModel.begins()V -/
def fX8_begins_L51 : Nat → Int32 → Mem → Option (Mem)
  | 0, _, _ => none
  | fu + 1, x1, μ => if (32 : Int32) ≤ x1 then (some μ) else (gr x1 32 <| lb (wr μ 5 x1.toNatClampNeg (0 : Int32)) fun m1 => lb (x1 + (1 : Int32)) fun (y2 : Int32) => fX8_begins_L51 fu y2 m1)
set_option maxHeartbeats 4000000 in
set_option maxRecDepth 100000 in
theorem wX8_begins_L51 {p : Program} {l : Launch} {e : Env} {s : State} {m : MethodId} {args : Array Value} {below : List Frame} {meth : Method} {c : Code} {A : Nat → Prop} {D : va_G} {ad : Nat → Nat} {cA : Nat → ClassId} (C : Cx p s m args meth c cX8_begins RX8 2 A dsM D ad cA EM) (hr : meth.sig.returnType = none) : ∀ (fu : Nat) (x1 : Int32) (μ : Mem), T p l e (rmD 0) s m args below meth c 2 A dsM D ad cA enV (fX8_begins_L51 fu x1 μ) 51 [(0, .ref (ad 0)), (1, .int x1)] [] μ
  | 0, _, _ => tt_none
  | fu + 1, x1, μ => by
    have ih := fun (x1 : Int32) (μ : Mem) => wX8_begins_L51 (l := l) (e := e) (below := below) C hr fu x1 μ
    show T p l e (rmD 0) s m args below meth c 2 A dsM D ad cA enV (if (32 : Int32) ≤ x1 then (some μ) else (gr x1 32 <| lb (wr μ 5 x1.toNatClampNeg (0 : Int32)) fun m1 => lb (x1 + (1 : Int32)) fun (y2 : Int32) => fX8_begins_L51 fu y2 m1)) 51 [(0, .ref (ad 0)), (1, .int x1)] [] μ
    refine tt_iload_n C 1 dX8_begins_51 rfl rfl ?_
    refine tt_bipush (v := (32 : Int32)) C dX8_begins_52 (by decide) ?_
    refine tt_if (fun h1 => ?_) (fun h1 => ?_)
    · refine tt_icmp_geT (tgt := 70) C h1 dX8_begins_54 (by decide) ?_
      exact tt_vret rfl C hr dX8_begins_70
    · refine tt_icmp_geF C 70 h1 dX8_begins_54 (by decide) ?_
      refine tt_aload_n C 0 dX8_begins_57 rfl rfl ?_
      refine tt_getR C (j := 6) (r0 := 5) dM_0 rfl fl_RX8_22 dX8_begins_58 ?_
      refine tt_iload_n C 1 dX8_begins_61 rfl rfl ?_
      refine tt_iconst (v := (0 : Int32)) C dX8_begins_62 (by decide) ?_
      refine tt_gr (fun h2 => ?_)
      refine tt_iast C dM_5 h2 dX8_begins_63 ?_
      refine tt_lbm (fun m1 => ?_)
      refine tt_iincB (d := (1 : Int32)) C 1 (fun y2 => [(1, .int y2), (0, .ref (ad 0))]) dX8_begins_64 rfl (by decide) (by decide) (fun _ => rfl) (fun y2 => ?_)
      refine tt_goto (tgt := 51) C dX8_begins_67 (by decide) ?_
      refine tt_sub [1, 0] (L2 := [(0, .ref (ad 0)), (1, .int y2)]) rfl ?_
      exact ih y2 m1

def fX8_begins (μ : Mem) : Option (Mem) := lb (wr μ 0 20 (0 : Int32)) fun m1 => lb (wr m1 0 22 (0 : Int32)) fun m2 => lb (wr m2 0 10 (0 : Int32)) fun m3 => lb (wr m3 0 11 (0 : Int32)) fun m4 => lb (wr m4 0 12 (0 : Int32)) fun m5 => gr (0 : Int32) 2 <| lb (wr m5 10 (0 : Int32).toNatClampNeg (0 : Int32)) fun m6 => gr (1 : Int32) 2 <| lb (wr m6 10 (1 : Int32).toNatClampNeg (0 : Int32)) fun m7 => lb (wr m7 0 15 (0 : Int32)) fun m8 => lb (wr m8 0 16 (-1 : Int32)) fun m9 => lb (0 : Int32) fun (y10 : Int32) => fX8_begins_L51 FU y10 m9
set_option maxHeartbeats 4000000 in
set_option maxRecDepth 100000 in
theorem wX8_begins {p : Program} {l : Launch} {e : Env} {s : State} {m : MethodId} {args : Array Value} {below : List Frame} {meth : Method} {c : Code} {A : Nat → Prop} {D : va_G} {ad : Nat → Nat} {cA : Nat → ClassId} (C : Cx p s m args meth c cX8_begins RX8 2 A dsM D ad cA EM) (hr : meth.sig.returnType = none) (μ : Mem) : T p l e (rmD 0) s m args below meth c 2 A dsM D ad cA enV (fX8_begins μ) 0 [(0, .ref (ad 0))] [] μ := by
  unfold fX8_begins
  refine tt_aload_n C 0 dX8_begins_0 rfl rfl ?_
  refine tt_iconst (v := (0 : Int32)) C dX8_begins_1 (by decide) ?_
  refine tt_putI C (j := 20) dM_0 rfl fl_RX8_78 fw_8_20 dX8_begins_2 ?_
  refine tt_lbm (fun m1 => ?_)
  refine tt_aload_n C 0 dX8_begins_5 rfl rfl ?_
  refine tt_iconst (v := (0 : Int32)) C dX8_begins_6 (by decide) ?_
  refine tt_putI C (j := 22) dM_0 rfl fl_RX8_90 fw_8_22 dX8_begins_7 ?_
  refine tt_lbm (fun m2 => ?_)
  refine tt_aload_n C 0 dX8_begins_10 rfl rfl ?_
  refine tt_iconst (v := (0 : Int32)) C dX8_begins_11 (by decide) ?_
  refine tt_putI C (j := 10) dM_0 rfl fl_RX8_134 fw_8_10 dX8_begins_12 ?_
  refine tt_lbm (fun m3 => ?_)
  refine tt_aload_n C 0 dX8_begins_15 rfl rfl ?_
  refine tt_iconst (v := (0 : Int32)) C dX8_begins_16 (by decide) ?_
  refine tt_putI C (j := 11) dM_0 rfl fl_RX8_119 fw_8_11 dX8_begins_17 ?_
  refine tt_lbm (fun m4 => ?_)
  refine tt_aload_n C 0 dX8_begins_20 rfl rfl ?_
  refine tt_iconst (v := (0 : Int32)) C dX8_begins_21 (by decide) ?_
  refine tt_putI C (j := 12) dM_0 rfl fl_RX8_145 fw_8_12 dX8_begins_22 ?_
  refine tt_lbm (fun m5 => ?_)
  refine tt_aload_n C 0 dX8_begins_25 rfl rfl ?_
  refine tt_getR C (j := 14) (r0 := 10) dM_0 rfl fl_RX8_37 dX8_begins_26 ?_
  refine tt_iconst (v := (0 : Int32)) C dX8_begins_29 (by decide) ?_
  refine tt_iconst (v := (0 : Int32)) C dX8_begins_30 (by decide) ?_
  refine tt_gr (fun h1 => ?_)
  refine tt_iast C dM_10 h1 dX8_begins_31 ?_
  refine tt_lbm (fun m6 => ?_)
  refine tt_aload_n C 0 dX8_begins_32 rfl rfl ?_
  refine tt_getR C (j := 14) (r0 := 10) dM_0 rfl fl_RX8_37 dX8_begins_33 ?_
  refine tt_iconst (v := (1 : Int32)) C dX8_begins_36 (by decide) ?_
  refine tt_iconst (v := (0 : Int32)) C dX8_begins_37 (by decide) ?_
  refine tt_gr (fun h2 => ?_)
  refine tt_iast C dM_10 h2 dX8_begins_38 ?_
  refine tt_lbm (fun m7 => ?_)
  refine tt_aload_n C 0 dX8_begins_39 rfl rfl ?_
  refine tt_iconst (v := (0 : Int32)) C dX8_begins_40 (by decide) ?_
  refine tt_putI C (j := 15) dM_0 rfl fl_RX8_126 fw_8_15 dX8_begins_41 ?_
  refine tt_lbm (fun m8 => ?_)
  refine tt_aload_n C 0 dX8_begins_44 rfl rfl ?_
  refine tt_iconst (v := (-1 : Int32)) C dX8_begins_45 (by decide) ?_
  refine tt_putI C (j := 16) dM_0 rfl fl_RX8_131 fw_8_16 dX8_begins_46 ?_
  refine tt_lbm (fun m9 => ?_)
  refine tt_iconst (v := (0 : Int32)) C dX8_begins_49 (by decide) ?_
  refine tt_lbi (fun y10 => ?_)
  refine tt_istore_n (L2 := [(1, .int y10), (0, .ref (ad 0))]) C dX8_begins_50 rfl (by decide) rfl ?_
  refine tt_sub [1, 0] (L2 := [(0, .ref (ad 0)), (1, .int y10)]) rfl ?_
  exact wX8_begins_L51 C hr FU y10 m9
theorem kX8_begins {l : Launch} {A : Nat → Prop} {D : va_G} {ad : Nat → Nat} {cA : Nat → ClassId} (hPk : Pk A dsM ad cA EM) {μ : Mem} {ν : Mem} (h : fX8_begins μ = some ν) : Ct l A dsM D ad cA EM yX8_begins cX8_begins 2 none 0 [.ref (ad 0)] μ (enV ν) :=
  ct_of (by decide) (Nat.le_of_ble_eq_true rfl) hPk rfl (fun p e s m args below meth c C hr => wX8_begins C hr μ) h

/-! BasketRoundModel.best(I)I -/
def fX8_best_J110 (z0 : Int32) (μ : Mem) : Option (Int32 × Mem) := some (z0, μ)
set_option maxHeartbeats 4000000 in
set_option maxRecDepth 100000 in
theorem wX8_best_J110 {p : Program} {l : Launch} {e : Env} {s : State} {m : MethodId} {args : Array Value} {below : List Frame} {meth : Method} {c : Code} {A : Nat → Prop} {D : va_G} {ad : Nat → Nat} {cA : Nat → ClassId} (C : Cx p s m args meth c cX8_best RX8 4 A dsM D ad cA EM) (hr : meth.sig.returnType = some .int) (z0 : Int32) (μ : Mem) : T p l e (rmD 6) s m args below meth c 4 A dsM D ad cA enI (fX8_best_J110 z0 μ) 110 [] [.int z0] μ := by
  unfold fX8_best_J110
  exact tt_iret rfl C hr dX8_best_110

def fX8_best_J57 (k35 : Int32 → Int32 → Int32 → Mem → Option (Int32 × Mem)) (x1 : Int32) (x2 : Int32) (x3 : Int32) (μ : Mem) : Option (Int32 × Mem) := lb (x3 + (1 : Int32)) fun (y1 : Int32) => k35 x1 x2 y1 μ
set_option maxHeartbeats 4000000 in
set_option maxRecDepth 100000 in
theorem wX8_best_J57 {p : Program} {l : Launch} {e : Env} {s : State} {m : MethodId} {args : Array Value} {below : List Frame} {meth : Method} {c : Code} {A : Nat → Prop} {D : va_G} {ad : Nat → Nat} {cA : Nat → ClassId} (C : Cx p s m args meth c cX8_best RX8 4 A dsM D ad cA EM) (hr : meth.sig.returnType = some .int) (k35 : Int32 → Int32 → Int32 → Mem → Option (Int32 × Mem)) (hk35 : ∀ (x1 : Int32) (x2 : Int32) (x3 : Int32) (μ : Mem), T p l e (rmD 6) s m args below meth c 4 A dsM D ad cA enI (k35 x1 x2 x3 μ) 35 [(0, .ref (ad 0)), (1, .int x1), (2, .int x2), (3, .int x3)] [] μ) (x1 : Int32) (x2 : Int32) (x3 : Int32) (μ : Mem) : T p l e (rmD 6) s m args below meth c 4 A dsM D ad cA enI (fX8_best_J57 k35 x1 x2 x3 μ) 57 [(0, .ref (ad 0)), (1, .int x1), (2, .int x2), (3, .int x3)] [] μ := by
  unfold fX8_best_J57
  refine tt_iincB (d := (1 : Int32)) C 3 (fun y1 => [(3, .int y1), (0, .ref (ad 0)), (1, .int x1), (2, .int x2)]) dX8_best_57 rfl (by decide) (by decide) (fun _ => rfl) (fun y1 => ?_)
  refine tt_goto (tgt := 35) C dX8_best_60 (by decide) ?_
  refine tt_sub [1, 2, 3, 0] (L2 := [(0, .ref (ad 0)), (1, .int x1), (2, .int x2), (3, .int y1)]) rfl ?_
  exact hk35 x1 x2 y1 μ

def fX8_best_L35 : Nat → Int32 → Int32 → Int32 → Mem → Option (Int32 × Mem)
  | 0, _, _, _, _ => none
  | fu + 1, x1, x2, x3, μ => bi (fX8_codes μ) fun v2 m1 => if v2 ≤ x3 then (bi (fX8_laysCode (25 : Int32) x2 m1) fun v4 m3 => if x1 = (0 : Int32) then (fX8_best_J110 (m3 0 34) m3) else (if x1 = (1 : Int32) then (fX8_best_J110 (m3 0 35) m3) else (if x1 = (2 : Int32) then (fX8_best_J110 (m3 0 36) m3) else (fX8_best_J110 (m3 0 37) m3)))) else (bi (fX8_laysCode (25 : Int32) x3 m1) fun v6 m5 => if v6 = (0 : Int32) then (fX8_best_J57 (fun x1 x2 x3 μ => fX8_best_L35 fu x1 x2 x3 μ) x1 x2 x3 m5) else (bv (fX8_allPacks m5) fun m7 => fX8_best_J57 (fun x1 x2 x3 μ => fX8_best_L35 fu x1 x2 x3 μ) x1 x2 x3 m7))
set_option maxHeartbeats 4000000 in
set_option maxRecDepth 100000 in
theorem wX8_best_L35 {p : Program} {l : Launch} {e : Env} {s : State} {m : MethodId} {args : Array Value} {below : List Frame} {meth : Method} {c : Code} {A : Nat → Prop} {D : va_G} {ad : Nat → Nat} {cA : Nat → ClassId} (C : Cx p s m args meth c cX8_best RX8 4 A dsM D ad cA EM) (hr : meth.sig.returnType = some .int) : ∀ (fu : Nat) (x1 : Int32) (x2 : Int32) (x3 : Int32) (μ : Mem), T p l e (rmD 6) s m args below meth c 4 A dsM D ad cA enI (fX8_best_L35 fu x1 x2 x3 μ) 35 [(0, .ref (ad 0)), (1, .int x1), (2, .int x2), (3, .int x3)] [] μ
  | 0, _, _, _, _ => tt_none
  | fu + 1, x1, x2, x3, μ => by
    have ih := fun (x1 : Int32) (x2 : Int32) (x3 : Int32) (μ : Mem) => wX8_best_L35 (l := l) (e := e) (below := below) C hr fu x1 x2 x3 μ
    show T p l e (rmD 6) s m args below meth c 4 A dsM D ad cA enI (bi (fX8_codes μ) fun v2 m1 => if v2 ≤ x3 then (bi (fX8_laysCode (25 : Int32) x2 m1) fun v4 m3 => if x1 = (0 : Int32) then (fX8_best_J110 (m3 0 34) m3) else (if x1 = (1 : Int32) then (fX8_best_J110 (m3 0 35) m3) else (if x1 = (2 : Int32) then (fX8_best_J110 (m3 0 36) m3) else (fX8_best_J110 (m3 0 37) m3)))) else (bi (fX8_laysCode (25 : Int32) x3 m1) fun v6 m5 => if v6 = (0 : Int32) then (fX8_best_J57 (fun x1 x2 x3 μ => fX8_best_L35 fu x1 x2 x3 μ) x1 x2 x3 m5) else (bv (fX8_allPacks m5) fun m7 => fX8_best_J57 (fun x1 x2 x3 μ => fX8_best_L35 fu x1 x2 x3 μ) x1 x2 x3 m7))) 35 [(0, .ref (ad 0)), (1, .int x1), (2, .int x2), (3, .int x3)] [] μ
    refine tt_iload_n C 3 dX8_best_35 rfl rfl ?_
    refine tt_aload_n C 0 dX8_best_36 rfl rfl ?_
    refine tt_bi (fun v2 m1 h1 => ?_)
    refine tt_callV (st := [.int x3]) (As := []) C (kX8_codes C.2.2.2.2.2.2.2.1 h1) mi_X8_codes ml_RX8_265 mv_X8_codes ms_X8_codes (q := (RX8, TX8, 45)) dM_0 rfl rfl (by decide) (by decide) (Nat.le_of_ble_eq_true rfl) dX8_best_37 ?_
    refine tt_if (fun h2 => ?_) (fun h2 => ?_)
    · refine tt_icmp_geT (tgt := 63) C h2 dX8_best_40 (by decide) ?_
      refine tt_aload_n C 0 dX8_best_63 rfl rfl ?_
      refine tt_bipush (v := (25 : Int32)) C dX8_best_64 (by decide) ?_
      refine tt_iload_n C 2 dX8_best_66 rfl rfl ?_
      refine tt_bi (fun v4 m3 h3 => ?_)
      refine tt_callV (st := []) (As := [.int (25 : Int32), .int x2]) C (kX8_laysCode C.2.2.2.2.2.2.2.1 h3) mi_X8_laysCode ml_RX8_268 mv_X8_laysCode ms_X8_laysCode (q := (RX8, TX8, 45)) dM_0 rfl rfl (by decide) (by decide) (Nat.le_of_ble_eq_true rfl) dX8_best_67 ?_
      refine tt_pop C dX8_best_70 rfl ?_
      refine tt_iload_n C 1 dX8_best_71 rfl rfl ?_
      refine tt_if (fun h4 => ?_) (fun h4 => ?_)
      · refine tt_if_neF C 82 h4 dX8_best_72 (by decide) ?_
        refine tt_aload_n C 0 dX8_best_75 rfl rfl ?_
        refine tt_getI C (j := 34) dM_0 rfl fl_RX8_253 dX8_best_76 ?_
        refine tt_goto (tgt := 110) C dX8_best_79 (by decide) ?_
        refine tt_sub [] (L2 := []) rfl ?_
        exact wX8_best_J110 C hr (m3 0 34) m3
      · refine tt_if_neT (tgt := 82) C h4 dX8_best_72 (by decide) ?_
        refine tt_iload_n C 1 dX8_best_82 rfl rfl ?_
        refine tt_iconst (v := (1 : Int32)) C dX8_best_83 (by decide) ?_
        refine tt_if (fun h5 => ?_) (fun h5 => ?_)
        · refine tt_icmp_neF C 94 h5 dX8_best_84 (by decide) ?_
          refine tt_aload_n C 0 dX8_best_87 rfl rfl ?_
          refine tt_getI C (j := 35) dM_0 rfl fl_RX8_256 dX8_best_88 ?_
          refine tt_goto (tgt := 110) C dX8_best_91 (by decide) ?_
          refine tt_sub [] (L2 := []) rfl ?_
          exact wX8_best_J110 C hr (m3 0 35) m3
        · refine tt_icmp_neT (tgt := 94) C h5 dX8_best_84 (by decide) ?_
          refine tt_iload_n C 1 dX8_best_94 rfl rfl ?_
          refine tt_iconst (v := (2 : Int32)) C dX8_best_95 (by decide) ?_
          refine tt_if (fun h6 => ?_) (fun h6 => ?_)
          · refine tt_icmp_neF C 106 h6 dX8_best_96 (by decide) ?_
            refine tt_aload_n C 0 dX8_best_99 rfl rfl ?_
            refine tt_getI C (j := 36) dM_0 rfl fl_RX8_259 dX8_best_100 ?_
            refine tt_goto (tgt := 110) C dX8_best_103 (by decide) ?_
            refine tt_sub [] (L2 := []) rfl ?_
            exact wX8_best_J110 C hr (m3 0 36) m3
          · refine tt_icmp_neT (tgt := 106) C h6 dX8_best_96 (by decide) ?_
            refine tt_aload_n C 0 dX8_best_106 rfl rfl ?_
            refine tt_getI C (j := 37) dM_0 rfl fl_RX8_262 dX8_best_107 ?_
            refine tt_sub [] (L2 := []) rfl ?_
            exact wX8_best_J110 C hr (m3 0 37) m3
    · refine tt_icmp_geF C 63 h2 dX8_best_40 (by decide) ?_
      refine tt_aload_n C 0 dX8_best_43 rfl rfl ?_
      refine tt_bipush (v := (25 : Int32)) C dX8_best_44 (by decide) ?_
      refine tt_iload_n C 3 dX8_best_46 rfl rfl ?_
      refine tt_bi (fun v6 m5 h7 => ?_)
      refine tt_callV (st := []) (As := [.int (25 : Int32), .int x3]) C (kX8_laysCode C.2.2.2.2.2.2.2.1 h7) mi_X8_laysCode ml_RX8_268 mv_X8_laysCode ms_X8_laysCode (q := (RX8, TX8, 45)) dM_0 rfl rfl (by decide) (by decide) (Nat.le_of_ble_eq_true rfl) dX8_best_47 ?_
      refine tt_if (fun h8 => ?_) (fun h8 => ?_)
      · refine tt_if_eqT (tgt := 57) C h8 dX8_best_50 (by decide) ?_
        refine tt_sub [0, 1, 2, 3] (L2 := [(0, .ref (ad 0)), (1, .int x1), (2, .int x2), (3, .int x3)]) rfl ?_
        exact wX8_best_J57 C hr (fun x1 x2 x3 μ => fX8_best_L35 fu x1 x2 x3 μ) (fun x1 x2 x3 μ => ih x1 x2 x3 μ) x1 x2 x3 m5
      · refine tt_if_eqF C 57 h8 dX8_best_50 (by decide) ?_
        refine tt_aload_n C 0 dX8_best_53 rfl rfl ?_
        refine tt_bv (fun m7 h9 => ?_)
        refine tt_callV (st := []) (As := []) C (kX8_allPacks C.2.2.2.2.2.2.2.1 h9) mi_X8_allPacks ml_RX8_278 mv_X8_allPacks ms_X8_allPacks (q := (RX8, TX8, 45)) dM_0 rfl rfl (by decide) (by decide) (Nat.le_of_ble_eq_true rfl) dX8_best_54 ?_
        refine tt_sub [0, 1, 2, 3] (L2 := [(0, .ref (ad 0)), (1, .int x1), (2, .int x2), (3, .int x3)]) rfl ?_
        exact wX8_best_J57 C hr (fun x1 x2 x3 μ => fX8_best_L35 fu x1 x2 x3 μ) (fun x1 x2 x3 μ => ih x1 x2 x3 μ) x1 x2 x3 m7

def fX8_best (x1 : Int32) (μ : Mem) : Option (Int32 × Mem) := bi (fX8_in x1.toInt64 (0 : Int64) (3 : Int64) μ) fun v2 m1 => if v2 = (0 : Int32) then (some ((-1 : Int32), m1)) else (bi (fX8_codeOf (25 : Int32) m1) fun v4 m3 => lb (wr m3 0 34 (-1 : Int32)) fun m5 => lb (wr m5 0 35 (1000000 : Int32)) fun m6 => lb (0 : Int32) fun (y7 : Int32) => fX8_best_L35 FU x1 v4 y7 m6)
set_option maxHeartbeats 4000000 in
set_option maxRecDepth 100000 in
theorem wX8_best {p : Program} {l : Launch} {e : Env} {s : State} {m : MethodId} {args : Array Value} {below : List Frame} {meth : Method} {c : Code} {A : Nat → Prop} {D : va_G} {ad : Nat → Nat} {cA : Nat → ClassId} (C : Cx p s m args meth c cX8_best RX8 4 A dsM D ad cA EM) (hr : meth.sig.returnType = some .int) (x1 : Int32) (μ : Mem) : T p l e (rmD 6) s m args below meth c 4 A dsM D ad cA enI (fX8_best x1 μ) 0 [(0, .ref (ad 0)), (1, .int x1)] [] μ := by
  unfold fX8_best
  refine tt_iload_n C 1 dX8_best_0 rfl rfl ?_
  refine tt_i2l C dX8_best_1 ?_
  refine tt_lconst (v := (0 : Int64)) C dX8_best_2 (by decide) ?_
  refine tt_ldc2 (v := (3 : Int64)) C kL_RX8_275 dX8_best_3 ?_
  refine tt_bi (fun v2 m1 h1 => ?_)
  refine tt_callS (st := []) (As := [.long x1.toInt64, .long (0 : Int64), .long (3 : Int64)]) C (kX8_in C.2.2.2.2.2.2.2.1 h1) mi_X8_in ml_RX8_70 mt_X8_in rfl (by decide) (by decide) (Nat.le_of_ble_eq_true rfl) dX8_best_6 ?_
  refine tt_if (fun h2 => ?_) (fun h2 => ?_)
  · refine tt_if_neF C 14 h2 dX8_best_9 (by decide) ?_
    refine tt_iconst (v := (-1 : Int32)) C dX8_best_12 (by decide) ?_
    exact tt_iret rfl C hr dX8_best_13
  · refine tt_if_neT (tgt := 14) C h2 dX8_best_9 (by decide) ?_
    refine tt_aload_n C 0 dX8_best_14 rfl rfl ?_
    refine tt_bipush (v := (25 : Int32)) C dX8_best_15 (by decide) ?_
    refine tt_bi (fun v4 m3 h3 => ?_)
    refine tt_callV (st := []) (As := [.int (25 : Int32)]) C (kX8_codeOf C.2.2.2.2.2.2.2.1 h3) mi_X8_codeOf ml_RX8_179 mv_X8_codeOf ms_X8_codeOf (q := (RX8, TX8, 45)) dM_0 rfl rfl (by decide) (by decide) (Nat.le_of_ble_eq_true rfl) dX8_best_17 ?_
    refine tt_istore_n (L2 := [(2, .int v4), (0, .ref (ad 0)), (1, .int x1)]) C dX8_best_20 rfl (by decide) rfl ?_
    refine tt_aload_n C 1 dX8_best_21 rfl rfl ?_
    refine tt_iconst (v := (-1 : Int32)) C dX8_best_22 (by decide) ?_
    refine tt_putI C (j := 34) dM_0 rfl fl_RX8_253 fw_8_34 dX8_best_23 ?_
    refine tt_lbm (fun m5 => ?_)
    refine tt_aload_n C 1 dX8_best_26 rfl rfl ?_
    refine tt_ldcw (v := (1000000 : Int32)) C kC_RX8_277 dX8_best_27 ?_
    refine tt_putI C (j := 35) dM_0 rfl fl_RX8_256 fw_8_35 dX8_best_30 ?_
    refine tt_lbm (fun m6 => ?_)
    refine tt_iconst (v := (0 : Int32)) C dX8_best_33 (by decide) ?_
    refine tt_lbi (fun y7 => ?_)
    refine tt_istore_n (L2 := [(3, .int y7), (2, .int v4), (0, .ref (ad 0)), (1, .int x1)]) C dX8_best_34 rfl (by decide) rfl ?_
    refine tt_sub [2, 3, 1, 0] (L2 := [(0, .ref (ad 0)), (1, .int x1), (2, .int v4), (3, .int y7)]) rfl ?_
    exact wX8_best_L35 C hr FU x1 v4 y7 m6
theorem kX8_best {l : Launch} {A : Nat → Prop} {D : va_G} {ad : Nat → Nat} {cA : Nat → ClassId} (hPk : Pk A dsM ad cA EM) {x1 : Int32} {μ : Mem} {v : Int32} {ν : Mem} (h : fX8_best x1 μ = some (v, ν)) : Ct l A dsM D ad cA EM yX8_best cX8_best 4 (some .int) 6 [.ref (ad 0), .int x1] μ (enI (v, ν)) :=
  ct_of (by decide) (Nat.le_of_ble_eq_true rfl) hPk rfl (fun p e s m args below meth c C hr => wX8_best C hr x1 μ) h

/-! BasketRoundModel.byteAt(I)I -/
def fX8_byteAt_J19 (z0 : Int32) (μ : Mem) : Option (Int32 × Mem) := some (z0, μ)
set_option maxHeartbeats 4000000 in
set_option maxRecDepth 100000 in
theorem wX8_byteAt_J19 {p : Program} {l : Launch} {e : Env} {s : State} {m : MethodId} {args : Array Value} {below : List Frame} {meth : Method} {c : Code} {A : Nat → Prop} {D : va_G} {ad : Nat → Nat} {cA : Nat → ClassId} (C : Cx p s m args meth c cX8_byteAt RX8 2 A dsM D ad cA EM) (hr : meth.sig.returnType = some .int) (z0 : Int32) (μ : Mem) : T p l e (rmD 0) s m args below meth c 2 A dsM D ad cA enI (fX8_byteAt_J19 z0 μ) 19 [] [.int z0] μ := by
  unfold fX8_byteAt_J19
  exact tt_iret rfl C hr dX8_byteAt_19

def fX8_byteAt (x1 : Int32) (μ : Mem) : Option (Int32 × Mem) := if (μ 0 18) ≤ x1 then (fX8_byteAt_J19 (-4 : Int32) μ) else (gr x1 160 <| fX8_byteAt_J19 (μ 11 x1.toNatClampNeg) μ)
set_option maxHeartbeats 4000000 in
set_option maxRecDepth 100000 in
theorem wX8_byteAt {p : Program} {l : Launch} {e : Env} {s : State} {m : MethodId} {args : Array Value} {below : List Frame} {meth : Method} {c : Code} {A : Nat → Prop} {D : va_G} {ad : Nat → Nat} {cA : Nat → ClassId} (C : Cx p s m args meth c cX8_byteAt RX8 2 A dsM D ad cA EM) (hr : meth.sig.returnType = some .int) (x1 : Int32) (μ : Mem) : T p l e (rmD 0) s m args below meth c 2 A dsM D ad cA enI (fX8_byteAt x1 μ) 0 [(0, .ref (ad 0)), (1, .int x1)] [] μ := by
  unfold fX8_byteAt
  refine tt_iload_n C 1 dX8_byteAt_0 rfl rfl ?_
  refine tt_aload_n C 0 dX8_byteAt_1 rfl rfl ?_
  refine tt_getI C (j := 18) dM_0 rfl fl_RX8_74 dX8_byteAt_2 ?_
  refine tt_if (fun h1 => ?_) (fun h1 => ?_)
  · refine tt_icmp_geT (tgt := 17) C h1 dX8_byteAt_5 (by decide) ?_
    refine tt_bipush (v := (-4 : Int32)) C dX8_byteAt_17 (by decide) ?_
    refine tt_sub [] (L2 := []) rfl ?_
    exact wX8_byteAt_J19 C hr (-4 : Int32) μ
  · refine tt_icmp_geF C 17 h1 dX8_byteAt_5 (by decide) ?_
    refine tt_aload_n C 0 dX8_byteAt_8 rfl rfl ?_
    refine tt_getR C (j := 17) (r0 := 11) dM_0 rfl fl_RX8_40 dX8_byteAt_9 ?_
    refine tt_iload_n C 1 dX8_byteAt_12 rfl rfl ?_
    refine tt_gr (fun h2 => ?_)
    refine tt_iald C dM_11 h2 dX8_byteAt_13 ?_
    refine tt_goto (tgt := 19) C dX8_byteAt_14 (by decide) ?_
    refine tt_sub [] (L2 := []) rfl ?_
    exact wX8_byteAt_J19 C hr (μ 11 x1.toNatClampNeg) μ
theorem kX8_byteAt {l : Launch} {A : Nat → Prop} {D : va_G} {ad : Nat → Nat} {cA : Nat → ClassId} (hPk : Pk A dsM ad cA EM) {x1 : Int32} {μ : Mem} {v : Int32} {ν : Mem} (h : fX8_byteAt x1 μ = some (v, ν)) : Ct l A dsM D ad cA EM yX8_byteAt cX8_byteAt 2 (some .int) 0 [.ref (ad 0), .int x1] μ (enI (v, ν)) :=
  ct_of (by decide) (Nat.le_of_ble_eq_true rfl) hPk rfl (fun p e s m args below meth c C hr => wX8_byteAt C hr x1 μ) h

/-! BasketRoundModel.placeOf(II)I -/
def fX8_placeOf_L2 : Nat → Int32 → Int32 → Int32 → Mem → Option (Int32 × Mem)
  | 0, _, _, _, _ => none
  | fu + 1, x1, x2, x3, μ => bi (fX8_at x1 x3 μ) fun v2 m1 => if v2 = x2 then (some (x3, m1)) else (lb (x3 + (1 : Int32)) fun (y3 : Int32) => fX8_placeOf_L2 fu x1 x2 y3 m1)
set_option maxHeartbeats 4000000 in
set_option maxRecDepth 100000 in
theorem wX8_placeOf_L2 {p : Program} {l : Launch} {e : Env} {s : State} {m : MethodId} {args : Array Value} {below : List Frame} {meth : Method} {c : Code} {A : Nat → Prop} {D : va_G} {ad : Nat → Nat} {cA : Nat → ClassId} (C : Cx p s m args meth c cX8_placeOf RX8 4 A dsM D ad cA EM) (hr : meth.sig.returnType = some .int) : ∀ (fu : Nat) (x1 : Int32) (x2 : Int32) (x3 : Int32) (μ : Mem), T p l e (rmD 1) s m args below meth c 4 A dsM D ad cA enI (fX8_placeOf_L2 fu x1 x2 x3 μ) 2 [(0, .ref (ad 0)), (1, .int x1), (2, .int x2), (3, .int x3)] [] μ
  | 0, _, _, _, _ => tt_none
  | fu + 1, x1, x2, x3, μ => by
    have ih := fun (x1 : Int32) (x2 : Int32) (x3 : Int32) (μ : Mem) => wX8_placeOf_L2 (l := l) (e := e) (below := below) C hr fu x1 x2 x3 μ
    show T p l e (rmD 1) s m args below meth c 4 A dsM D ad cA enI (bi (fX8_at x1 x3 μ) fun v2 m1 => if v2 = x2 then (some (x3, m1)) else (lb (x3 + (1 : Int32)) fun (y3 : Int32) => fX8_placeOf_L2 fu x1 x2 y3 m1)) 2 [(0, .ref (ad 0)), (1, .int x1), (2, .int x2), (3, .int x3)] [] μ
    refine tt_aload_n C 0 dX8_placeOf_2 rfl rfl ?_
    refine tt_iload_n C 1 dX8_placeOf_3 rfl rfl ?_
    refine tt_iload_n C 3 dX8_placeOf_4 rfl rfl ?_
    refine tt_bi (fun v2 m1 h1 => ?_)
    refine tt_callV (st := []) (As := [.int x1, .int x3]) C (kX8_at C.2.2.2.2.2.2.2.1 h1) mi_X8_at ml_RX8_173 mv_X8_at ms_X8_at (q := (RX8, TX8, 45)) dM_0 rfl rfl (by decide) (by decide) (Nat.le_of_ble_eq_true rfl) dX8_placeOf_5 ?_
    refine tt_iload_n C 2 dX8_placeOf_8 rfl rfl ?_
    refine tt_if (fun h2 => ?_) (fun h2 => ?_)
    · refine tt_icmp_eqT (tgt := 18) C h2 dX8_placeOf_9 (by decide) ?_
      refine tt_iload_n C 3 dX8_placeOf_18 rfl rfl ?_
      exact tt_iret rfl C hr dX8_placeOf_19
    · refine tt_icmp_eqF C 18 h2 dX8_placeOf_9 (by decide) ?_
      refine tt_iincB (d := (1 : Int32)) C 3 (fun y3 => [(3, .int y3), (0, .ref (ad 0)), (1, .int x1), (2, .int x2)]) dX8_placeOf_12 rfl (by decide) (by decide) (fun _ => rfl) (fun y3 => ?_)
      refine tt_goto (tgt := 2) C dX8_placeOf_15 (by decide) ?_
      refine tt_sub [1, 2, 3, 0] (L2 := [(0, .ref (ad 0)), (1, .int x1), (2, .int x2), (3, .int y3)]) rfl ?_
      exact ih x1 x2 y3 m1

def fX8_placeOf (x1 : Int32) (x2 : Int32) (μ : Mem) : Option (Int32 × Mem) := lb (0 : Int32) fun (y1 : Int32) => fX8_placeOf_L2 FU x1 x2 y1 μ
set_option maxHeartbeats 4000000 in
set_option maxRecDepth 100000 in
theorem wX8_placeOf {p : Program} {l : Launch} {e : Env} {s : State} {m : MethodId} {args : Array Value} {below : List Frame} {meth : Method} {c : Code} {A : Nat → Prop} {D : va_G} {ad : Nat → Nat} {cA : Nat → ClassId} (C : Cx p s m args meth c cX8_placeOf RX8 4 A dsM D ad cA EM) (hr : meth.sig.returnType = some .int) (x1 : Int32) (x2 : Int32) (μ : Mem) : T p l e (rmD 1) s m args below meth c 4 A dsM D ad cA enI (fX8_placeOf x1 x2 μ) 0 [(0, .ref (ad 0)), (1, .int x1), (2, .int x2)] [] μ := by
  unfold fX8_placeOf
  refine tt_iconst (v := (0 : Int32)) C dX8_placeOf_0 (by decide) ?_
  refine tt_lbi (fun y1 => ?_)
  refine tt_istore_n (L2 := [(3, .int y1), (0, .ref (ad 0)), (1, .int x1), (2, .int x2)]) C dX8_placeOf_1 rfl (by decide) rfl ?_
  refine tt_sub [1, 2, 3, 0] (L2 := [(0, .ref (ad 0)), (1, .int x1), (2, .int x2), (3, .int y1)]) rfl ?_
  exact wX8_placeOf_L2 C hr FU x1 x2 y1 μ
theorem kX8_placeOf {l : Launch} {A : Nat → Prop} {D : va_G} {ad : Nat → Nat} {cA : Nat → ClassId} (hPk : Pk A dsM ad cA EM) {x1 : Int32} {x2 : Int32} {μ : Mem} {v : Int32} {ν : Mem} (h : fX8_placeOf x1 x2 μ = some (v, ν)) : Ct l A dsM D ad cA EM yX8_placeOf cX8_placeOf 4 (some .int) 1 [.ref (ad 0), .int x1, .int x2] μ (enI (v, ν)) :=
  ct_of (by decide) (Nat.le_of_ble_eq_true rfl) hPk rfl (fun p e s m args below meth c C hr => wX8_placeOf C hr x1 x2 μ) h

/-! BasketRoundModel.changes(III)I -/
def fX8_changes_J16 (μ : Mem) : Option (Int32 × Mem) := some ((-1 : Int32), μ)
set_option maxHeartbeats 4000000 in
set_option maxRecDepth 100000 in
theorem wX8_changes_J16 {p : Program} {l : Launch} {e : Env} {s : State} {m : MethodId} {args : Array Value} {below : List Frame} {meth : Method} {c : Code} {A : Nat → Prop} {D : va_G} {ad : Nat → Nat} {cA : Nat → ClassId} (C : Cx p s m args meth c cX8_changes RX8 6 A dsM D ad cA EM) (hr : meth.sig.returnType = some .int) (μ : Mem) : T p l e (rmD 2) s m args below meth c 6 A dsM D ad cA enI (fX8_changes_J16 μ) 16 [] [] μ := by
  unfold fX8_changes_J16
  refine tt_iconst (v := (-1 : Int32)) C dX8_changes_16 (by decide) ?_
  exact tt_iret rfl C hr dX8_changes_17

def fX8_changes (x1 : Int32) (x2 : Int32) (x3 : Int32) (μ : Mem) : Option (Int32 × Mem) := bi (fX8_isOrder x2 μ) fun v2 m1 => if v2 = (0 : Int32) then (fX8_changes_J16 m1) else (bi (fX8_isOrder x3 m1) fun v4 m3 => if v4 = (0 : Int32) then (fX8_changes_J16 m3) else (bi (fX8_placeOf x1 x2 m3) fun v6 m5 => bi (fX8_placeOf x1 x3 m5) fun v8 m7 => gr (x1 + v6) 160 <| lb (wr m7 1 (x1 + v6).toNatClampNeg (x3 - v6)) fun m9 => gr (x1 + v8) 160 <| lb (wr m9 1 (x1 + v8).toNatClampNeg (x2 - v8)) fun m10 => bi (fX8_codeOf x1 m10) fun v12 m11 => some (v12, m11)))
set_option maxHeartbeats 4000000 in
set_option maxRecDepth 100000 in
theorem wX8_changes {p : Program} {l : Launch} {e : Env} {s : State} {m : MethodId} {args : Array Value} {below : List Frame} {meth : Method} {c : Code} {A : Nat → Prop} {D : va_G} {ad : Nat → Nat} {cA : Nat → ClassId} (C : Cx p s m args meth c cX8_changes RX8 6 A dsM D ad cA EM) (hr : meth.sig.returnType = some .int) (x1 : Int32) (x2 : Int32) (x3 : Int32) (μ : Mem) : T p l e (rmD 2) s m args below meth c 6 A dsM D ad cA enI (fX8_changes x1 x2 x3 μ) 0 [(0, .ref (ad 0)), (1, .int x1), (2, .int x2), (3, .int x3)] [] μ := by
  unfold fX8_changes
  refine tt_aload_n C 0 dX8_changes_0 rfl rfl ?_
  refine tt_iload_n C 2 dX8_changes_1 rfl rfl ?_
  refine tt_bi (fun v2 m1 h1 => ?_)
  refine tt_callV (st := []) (As := [.int x2]) C (kX8_isOrder C.2.2.2.2.2.2.2.1 h1) mi_X8_isOrder ml_RX8_185 mv_X8_isOrder ms_X8_isOrder (q := (RX8, TX8, 45)) dM_0 rfl rfl (by decide) (by decide) (Nat.le_of_ble_eq_true rfl) dX8_changes_2 ?_
  refine tt_if (fun h2 => ?_) (fun h2 => ?_)
  · refine tt_if_eqT (tgt := 16) C h2 dX8_changes_5 (by decide) ?_
    refine tt_sub [] (L2 := []) rfl ?_
    exact wX8_changes_J16 C hr m1
  · refine tt_if_eqF C 16 h2 dX8_changes_5 (by decide) ?_
    refine tt_aload_n C 0 dX8_changes_8 rfl rfl ?_
    refine tt_iload_n C 3 dX8_changes_9 rfl rfl ?_
    refine tt_bi (fun v4 m3 h3 => ?_)
    refine tt_callV (st := []) (As := [.int x3]) C (kX8_isOrder C.2.2.2.2.2.2.2.1 h3) mi_X8_isOrder ml_RX8_185 mv_X8_isOrder ms_X8_isOrder (q := (RX8, TX8, 45)) dM_0 rfl rfl (by decide) (by decide) (Nat.le_of_ble_eq_true rfl) dX8_changes_10 ?_
    refine tt_if (fun h4 => ?_) (fun h4 => ?_)
    · refine tt_if_neF C 18 h4 dX8_changes_13 (by decide) ?_
      refine tt_sub [] (L2 := []) rfl ?_
      exact wX8_changes_J16 C hr m3
    · refine tt_if_neT (tgt := 18) C h4 dX8_changes_13 (by decide) ?_
      refine tt_aload_n C 0 dX8_changes_18 rfl rfl ?_
      refine tt_iload_n C 1 dX8_changes_19 rfl rfl ?_
      refine tt_iload_n C 2 dX8_changes_20 rfl rfl ?_
      refine tt_bi (fun v6 m5 h5 => ?_)
      refine tt_callV (st := []) (As := [.int x1, .int x2]) C (kX8_placeOf C.2.2.2.2.2.2.2.1 h5) mi_X8_placeOf ml_RX8_189 mv_X8_placeOf ms_X8_placeOf (q := (RX8, TX8, 45)) dM_0 rfl rfl (by decide) (by decide) (Nat.le_of_ble_eq_true rfl) dX8_changes_21 ?_
      refine tt_istore (L2 := [(4, .int v6), (0, .ref (ad 0)), (1, .int x1), (2, .int x2), (3, .int x3)]) C dX8_changes_24 (by decide) rfl ?_
      refine tt_aload_n C 1 dX8_changes_26 rfl rfl ?_
      refine tt_iload_n C 2 dX8_changes_27 rfl rfl ?_
      refine tt_iload_n C 4 dX8_changes_28 rfl rfl ?_
      refine tt_bi (fun v8 m7 h6 => ?_)
      refine tt_callV (st := []) (As := [.int x1, .int x3]) C (kX8_placeOf C.2.2.2.2.2.2.2.1 h6) mi_X8_placeOf ml_RX8_189 mv_X8_placeOf ms_X8_placeOf (q := (RX8, TX8, 45)) dM_0 rfl rfl (by decide) (by decide) (Nat.le_of_ble_eq_true rfl) dX8_changes_29 ?_
      refine tt_istore (L2 := [(5, .int v8), (4, .int v6), (0, .ref (ad 0)), (1, .int x1), (2, .int x2), (3, .int x3)]) C dX8_changes_32 (by decide) rfl ?_
      refine tt_aload_n C 2 dX8_changes_34 rfl rfl ?_
      refine tt_getR C (j := 0) (r0 := 1) dM_0 rfl fl_RX8_7 dX8_changes_35 ?_
      refine tt_iload_n C 3 dX8_changes_38 rfl rfl ?_
      refine tt_iload C 1 dX8_changes_39 rfl ?_
      refine tt_iadd C dX8_changes_41 ?_
      refine tt_iload_n C 5 dX8_changes_42 rfl rfl ?_
      refine tt_iload C 1 dX8_changes_43 rfl ?_
      refine tt_isub C dX8_changes_45 ?_
      refine tt_gr (fun h7 => ?_)
      refine tt_iast C dM_1 h7 dX8_changes_46 ?_
      refine tt_lbm (fun m9 => ?_)
      refine tt_aload_n C 2 dX8_changes_47 rfl rfl ?_
      refine tt_getR C (j := 0) (r0 := 1) dM_0 rfl fl_RX8_7 dX8_changes_48 ?_
      refine tt_iload_n C 3 dX8_changes_51 rfl rfl ?_
      refine tt_iload C 0 dX8_changes_52 rfl ?_
      refine tt_iadd C dX8_changes_54 ?_
      refine tt_iload_n C 4 dX8_changes_55 rfl rfl ?_
      refine tt_iload C 0 dX8_changes_56 rfl ?_
      refine tt_isub C dX8_changes_58 ?_
      refine tt_gr (fun h8 => ?_)
      refine tt_iast C dM_1 h8 dX8_changes_59 ?_
      refine tt_lbm (fun m10 => ?_)
      refine tt_aload_n C 2 dX8_changes_60 rfl rfl ?_
      refine tt_iload_n C 3 dX8_changes_61 rfl rfl ?_
      refine tt_bi (fun v12 m11 h9 => ?_)
      refine tt_callV (st := []) (As := [.int x1]) C (kX8_codeOf C.2.2.2.2.2.2.2.1 h9) mi_X8_codeOf ml_RX8_179 mv_X8_codeOf ms_X8_codeOf (q := (RX8, TX8, 45)) dM_0 rfl rfl (by decide) (by decide) (Nat.le_of_ble_eq_true rfl) dX8_changes_62 ?_
      exact tt_iret rfl C hr dX8_changes_65
theorem kX8_changes {l : Launch} {A : Nat → Prop} {D : va_G} {ad : Nat → Nat} {cA : Nat → ClassId} (hPk : Pk A dsM ad cA EM) {x1 : Int32} {x2 : Int32} {x3 : Int32} {μ : Mem} {v : Int32} {ν : Mem} (h : fX8_changes x1 x2 x3 μ = some (v, ν)) : Ct l A dsM D ad cA EM yX8_changes cX8_changes 6 (some .int) 2 [.ref (ad 0), .int x1, .int x2, .int x3] μ (enI (v, ν)) :=
  ct_of (by decide) (Nat.le_of_ble_eq_true rfl) hPk rfl (fun p e s m args below meth c C hr => wX8_changes C hr x1 x2 x3 μ) h

/-! BasketRoundModel.comesFirst(II)V -/
def fX8_comesFirst_L7 : Nat → Int32 → Int32 → Int32 → Mem → Option (Mem)
  | 0, _, _, _, _ => none
  | fu + 1, x1, x2, x3, μ => if x3 ≤ (0 : Int32) then (gr x1 160 <| lb (wr μ 1 x1.toNatClampNeg x2) fun m1 => some m1) else (bi (fX8_at x1 (x3 - (1 : Int32)) μ) fun v3 m2 => gr (x1 + x3) 160 <| lb (wr m2 1 (x1 + x3).toNatClampNeg (v3 - x3)) fun m4 => lb (x3 + (-1 : Int32)) fun (y5 : Int32) => fX8_comesFirst_L7 fu x1 x2 y5 m4)
set_option maxHeartbeats 4000000 in
set_option maxRecDepth 100000 in
theorem wX8_comesFirst_L7 {p : Program} {l : Launch} {e : Env} {s : State} {m : MethodId} {args : Array Value} {below : List Frame} {meth : Method} {c : Code} {A : Nat → Prop} {D : va_G} {ad : Nat → Nat} {cA : Nat → ClassId} (C : Cx p s m args meth c cX8_comesFirst RX8 4 A dsM D ad cA EM) (hr : meth.sig.returnType = none) : ∀ (fu : Nat) (x1 : Int32) (x2 : Int32) (x3 : Int32) (μ : Mem), T p l e (rmD 2) s m args below meth c 4 A dsM D ad cA enV (fX8_comesFirst_L7 fu x1 x2 x3 μ) 7 [(0, .ref (ad 0)), (1, .int x1), (2, .int x2), (3, .int x3)] [] μ
  | 0, _, _, _, _ => tt_none
  | fu + 1, x1, x2, x3, μ => by
    have ih := fun (x1 : Int32) (x2 : Int32) (x3 : Int32) (μ : Mem) => wX8_comesFirst_L7 (l := l) (e := e) (below := below) C hr fu x1 x2 x3 μ
    show T p l e (rmD 2) s m args below meth c 4 A dsM D ad cA enV (if x3 ≤ (0 : Int32) then (gr x1 160 <| lb (wr μ 1 x1.toNatClampNeg x2) fun m1 => some m1) else (bi (fX8_at x1 (x3 - (1 : Int32)) μ) fun v3 m2 => gr (x1 + x3) 160 <| lb (wr m2 1 (x1 + x3).toNatClampNeg (v3 - x3)) fun m4 => lb (x3 + (-1 : Int32)) fun (y5 : Int32) => fX8_comesFirst_L7 fu x1 x2 y5 m4)) 7 [(0, .ref (ad 0)), (1, .int x1), (2, .int x2), (3, .int x3)] [] μ
    refine tt_iload_n C 3 dX8_comesFirst_7 rfl rfl ?_
    refine tt_if (fun h1 => ?_) (fun h1 => ?_)
    · refine tt_if_leT (tgt := 35) C h1 dX8_comesFirst_8 (by decide) ?_
      refine tt_aload_n C 0 dX8_comesFirst_35 rfl rfl ?_
      refine tt_getR C (j := 0) (r0 := 1) dM_0 rfl fl_RX8_7 dX8_comesFirst_36 ?_
      refine tt_iload_n C 1 dX8_comesFirst_39 rfl rfl ?_
      refine tt_iload_n C 2 dX8_comesFirst_40 rfl rfl ?_
      refine tt_gr (fun h2 => ?_)
      refine tt_iast C dM_1 h2 dX8_comesFirst_41 ?_
      refine tt_lbm (fun m1 => ?_)
      exact tt_vret rfl C hr dX8_comesFirst_42
    · refine tt_if_leF C 35 h1 dX8_comesFirst_8 (by decide) ?_
      refine tt_aload_n C 0 dX8_comesFirst_11 rfl rfl ?_
      refine tt_getR C (j := 0) (r0 := 1) dM_0 rfl fl_RX8_7 dX8_comesFirst_12 ?_
      refine tt_iload_n C 1 dX8_comesFirst_15 rfl rfl ?_
      refine tt_iload_n C 3 dX8_comesFirst_16 rfl rfl ?_
      refine tt_iadd C dX8_comesFirst_17 ?_
      refine tt_aload_n C 0 dX8_comesFirst_18 rfl rfl ?_
      refine tt_iload_n C 1 dX8_comesFirst_19 rfl rfl ?_
      refine tt_iload_n C 3 dX8_comesFirst_20 rfl rfl ?_
      refine tt_iconst (v := (1 : Int32)) C dX8_comesFirst_21 (by decide) ?_
      refine tt_isub C dX8_comesFirst_22 ?_
      refine tt_bi (fun v3 m2 h3 => ?_)
      refine tt_callV (st := [.int (x1 + x3), .ref (ad 1)]) (As := [.int x1, .int (x3 - (1 : Int32))]) C (kX8_at C.2.2.2.2.2.2.2.1 h3) mi_X8_at ml_RX8_173 mv_X8_at ms_X8_at (q := (RX8, TX8, 45)) dM_0 rfl rfl (by decide) (by decide) (Nat.le_of_ble_eq_true rfl) dX8_comesFirst_23 ?_
      refine tt_iload_n C 3 dX8_comesFirst_26 rfl rfl ?_
      refine tt_isub C dX8_comesFirst_27 ?_
      refine tt_gr (fun h4 => ?_)
      refine tt_iast C dM_1 h4 dX8_comesFirst_28 ?_
      refine tt_lbm (fun m4 => ?_)
      refine tt_iincB (d := (-1 : Int32)) C 3 (fun y5 => [(3, .int y5), (0, .ref (ad 0)), (1, .int x1), (2, .int x2)]) dX8_comesFirst_29 rfl (by decide) (by decide) (fun _ => rfl) (fun y5 => ?_)
      refine tt_goto (tgt := 7) C dX8_comesFirst_32 (by decide) ?_
      refine tt_sub [1, 2, 3, 0] (L2 := [(0, .ref (ad 0)), (1, .int x1), (2, .int x2), (3, .int y5)]) rfl ?_
      exact ih x1 x2 y5 m4

def fX8_comesFirst (x1 : Int32) (x2 : Int32) (μ : Mem) : Option (Mem) := bi (fX8_placeOf x1 x2 μ) fun v2 m1 => fX8_comesFirst_L7 FU x1 x2 v2 m1
set_option maxHeartbeats 4000000 in
set_option maxRecDepth 100000 in
theorem wX8_comesFirst {p : Program} {l : Launch} {e : Env} {s : State} {m : MethodId} {args : Array Value} {below : List Frame} {meth : Method} {c : Code} {A : Nat → Prop} {D : va_G} {ad : Nat → Nat} {cA : Nat → ClassId} (C : Cx p s m args meth c cX8_comesFirst RX8 4 A dsM D ad cA EM) (hr : meth.sig.returnType = none) (x1 : Int32) (x2 : Int32) (μ : Mem) : T p l e (rmD 2) s m args below meth c 4 A dsM D ad cA enV (fX8_comesFirst x1 x2 μ) 0 [(0, .ref (ad 0)), (1, .int x1), (2, .int x2)] [] μ := by
  unfold fX8_comesFirst
  refine tt_aload_n C 0 dX8_comesFirst_0 rfl rfl ?_
  refine tt_iload_n C 1 dX8_comesFirst_1 rfl rfl ?_
  refine tt_iload_n C 2 dX8_comesFirst_2 rfl rfl ?_
  refine tt_bi (fun v2 m1 h1 => ?_)
  refine tt_callV (st := []) (As := [.int x1, .int x2]) C (kX8_placeOf C.2.2.2.2.2.2.2.1 h1) mi_X8_placeOf ml_RX8_189 mv_X8_placeOf ms_X8_placeOf (q := (RX8, TX8, 45)) dM_0 rfl rfl (by decide) (by decide) (Nat.le_of_ble_eq_true rfl) dX8_comesFirst_3 ?_
  refine tt_istore_n (L2 := [(3, .int v2), (0, .ref (ad 0)), (1, .int x1), (2, .int x2)]) C dX8_comesFirst_6 rfl (by decide) rfl ?_
  refine tt_sub [1, 2, 3, 0] (L2 := [(0, .ref (ad 0)), (1, .int x1), (2, .int x2), (3, .int v2)]) rfl ?_
  exact wX8_comesFirst_L7 C hr FU x1 x2 v2 m1
theorem kX8_comesFirst {l : Launch} {A : Nat → Prop} {D : va_G} {ad : Nat → Nat} {cA : Nat → ClassId} (hPk : Pk A dsM ad cA EM) {x1 : Int32} {x2 : Int32} {μ : Mem} {ν : Mem} (h : fX8_comesFirst x1 x2 μ = some ν) : Ct l A dsM D ad cA EM yX8_comesFirst cX8_comesFirst 4 none 2 [.ref (ad 0), .int x1, .int x2] μ (enV ν) :=
  ct_of (by decide) (Nat.le_of_ble_eq_true rfl) hPk rfl (fun p e s m args below meth c C hr => wX8_comesFirst C hr x1 x2 μ) h

/-! BasketRoundModel.copies(II)V -/
def fX8_copies_L2 : Nat → Int32 → Int32 → Int32 → Mem → Option (Mem)
  | 0, _, _, _, _ => none
  | fu + 1, x1, x2, x3, μ => if (32 : Int32) ≤ x3 then (some μ) else (gr (x1 + x3) 160 <| gr (x2 + x3) 160 <| lb (wr μ 1 (x2 + x3).toNatClampNeg (μ 1 (x1 + x3).toNatClampNeg)) fun m1 => lb (x3 + (1 : Int32)) fun (y2 : Int32) => fX8_copies_L2 fu x1 x2 y2 m1)
set_option maxHeartbeats 4000000 in
set_option maxRecDepth 100000 in
theorem wX8_copies_L2 {p : Program} {l : Launch} {e : Env} {s : State} {m : MethodId} {args : Array Value} {below : List Frame} {meth : Method} {c : Code} {A : Nat → Prop} {D : va_G} {ad : Nat → Nat} {cA : Nat → ClassId} (C : Cx p s m args meth c cX8_copies RX8 4 A dsM D ad cA EM) (hr : meth.sig.returnType = none) : ∀ (fu : Nat) (x1 : Int32) (x2 : Int32) (x3 : Int32) (μ : Mem), T p l e (rmD 0) s m args below meth c 4 A dsM D ad cA enV (fX8_copies_L2 fu x1 x2 x3 μ) 2 [(0, .ref (ad 0)), (1, .int x1), (2, .int x2), (3, .int x3)] [] μ
  | 0, _, _, _, _ => tt_none
  | fu + 1, x1, x2, x3, μ => by
    have ih := fun (x1 : Int32) (x2 : Int32) (x3 : Int32) (μ : Mem) => wX8_copies_L2 (l := l) (e := e) (below := below) C hr fu x1 x2 x3 μ
    show T p l e (rmD 0) s m args below meth c 4 A dsM D ad cA enV (if (32 : Int32) ≤ x3 then (some μ) else (gr (x1 + x3) 160 <| gr (x2 + x3) 160 <| lb (wr μ 1 (x2 + x3).toNatClampNeg (μ 1 (x1 + x3).toNatClampNeg)) fun m1 => lb (x3 + (1 : Int32)) fun (y2 : Int32) => fX8_copies_L2 fu x1 x2 y2 m1)) 2 [(0, .ref (ad 0)), (1, .int x1), (2, .int x2), (3, .int x3)] [] μ
    refine tt_iload_n C 3 dX8_copies_2 rfl rfl ?_
    refine tt_bipush (v := (32 : Int32)) C dX8_copies_3 (by decide) ?_
    refine tt_if (fun h1 => ?_) (fun h1 => ?_)
    · refine tt_icmp_geT (tgt := 30) C h1 dX8_copies_5 (by decide) ?_
      exact tt_vret rfl C hr dX8_copies_30
    · refine tt_icmp_geF C 30 h1 dX8_copies_5 (by decide) ?_
      refine tt_aload_n C 0 dX8_copies_8 rfl rfl ?_
      refine tt_getR C (j := 0) (r0 := 1) dM_0 rfl fl_RX8_7 dX8_copies_9 ?_
      refine tt_iload_n C 2 dX8_copies_12 rfl rfl ?_
      refine tt_iload_n C 3 dX8_copies_13 rfl rfl ?_
      refine tt_iadd C dX8_copies_14 ?_
      refine tt_aload_n C 0 dX8_copies_15 rfl rfl ?_
      refine tt_getR C (j := 0) (r0 := 1) dM_0 rfl fl_RX8_7 dX8_copies_16 ?_
      refine tt_iload_n C 1 dX8_copies_19 rfl rfl ?_
      refine tt_iload_n C 3 dX8_copies_20 rfl rfl ?_
      refine tt_iadd C dX8_copies_21 ?_
      refine tt_gr (fun h2 => ?_)
      refine tt_iald C dM_1 h2 dX8_copies_22 ?_
      refine tt_gr (fun h3 => ?_)
      refine tt_iast C dM_1 h3 dX8_copies_23 ?_
      refine tt_lbm (fun m1 => ?_)
      refine tt_iincB (d := (1 : Int32)) C 3 (fun y2 => [(3, .int y2), (0, .ref (ad 0)), (1, .int x1), (2, .int x2)]) dX8_copies_24 rfl (by decide) (by decide) (fun _ => rfl) (fun y2 => ?_)
      refine tt_goto (tgt := 2) C dX8_copies_27 (by decide) ?_
      refine tt_sub [1, 2, 3, 0] (L2 := [(0, .ref (ad 0)), (1, .int x1), (2, .int x2), (3, .int y2)]) rfl ?_
      exact ih x1 x2 y2 m1

def fX8_copies (x1 : Int32) (x2 : Int32) (μ : Mem) : Option (Mem) := lb (0 : Int32) fun (y1 : Int32) => fX8_copies_L2 FU x1 x2 y1 μ
set_option maxHeartbeats 4000000 in
set_option maxRecDepth 100000 in
theorem wX8_copies {p : Program} {l : Launch} {e : Env} {s : State} {m : MethodId} {args : Array Value} {below : List Frame} {meth : Method} {c : Code} {A : Nat → Prop} {D : va_G} {ad : Nat → Nat} {cA : Nat → ClassId} (C : Cx p s m args meth c cX8_copies RX8 4 A dsM D ad cA EM) (hr : meth.sig.returnType = none) (x1 : Int32) (x2 : Int32) (μ : Mem) : T p l e (rmD 0) s m args below meth c 4 A dsM D ad cA enV (fX8_copies x1 x2 μ) 0 [(0, .ref (ad 0)), (1, .int x1), (2, .int x2)] [] μ := by
  unfold fX8_copies
  refine tt_iconst (v := (0 : Int32)) C dX8_copies_0 (by decide) ?_
  refine tt_lbi (fun y1 => ?_)
  refine tt_istore_n (L2 := [(3, .int y1), (0, .ref (ad 0)), (1, .int x1), (2, .int x2)]) C dX8_copies_1 rfl (by decide) rfl ?_
  refine tt_sub [1, 2, 3, 0] (L2 := [(0, .ref (ad 0)), (1, .int x1), (2, .int x2), (3, .int y1)]) rfl ?_
  exact wX8_copies_L2 C hr FU x1 x2 y1 μ
theorem kX8_copies {l : Launch} {A : Nat → Prop} {D : va_G} {ad : Nat → Nat} {cA : Nat → ClassId} (hPk : Pk A dsM ad cA EM) {x1 : Int32} {x2 : Int32} {μ : Mem} {ν : Mem} (h : fX8_copies x1 x2 μ = some ν) : Ct l A dsM D ad cA EM yX8_copies cX8_copies 4 none 0 [.ref (ad 0), .int x1, .int x2] μ (enV ν) :=
  ct_of (by decide) (Nat.le_of_ble_eq_true rfl) hPk rfl (fun p e s m args below meth c C hr => wX8_copies C hr x1 x2 μ) h

/-! BasketRoundModel.count(I)I -/
def fX8_count_J166 (z0 : Int32) (μ : Mem) : Option (Int32 × Mem) := some (z0, μ)
set_option maxHeartbeats 4000000 in
set_option maxRecDepth 100000 in
theorem wX8_count_J166 {p : Program} {l : Launch} {e : Env} {s : State} {m : MethodId} {args : Array Value} {below : List Frame} {meth : Method} {c : Code} {A : Nat → Prop} {D : va_G} {ad : Nat → Nat} {cA : Nat → ClassId} (C : Cx p s m args meth c cX8_count RX8 5 A dsM D ad cA EM) (hr : meth.sig.returnType = some .int) (z0 : Int32) (μ : Mem) : T p l e (rmD 0) s m args below meth c 5 A dsM D ad cA enI (fX8_count_J166 z0 μ) 166 [] [.int z0] μ := by
  unfold fX8_count_J166
  exact tt_iret rfl C hr dX8_count_166

def fX8_count_J137 (z0 : Int32) (z1 : Int32) (μ : Mem) : Option (Int32 × Mem) := some ((z0 + z1), μ)
set_option maxHeartbeats 4000000 in
set_option maxRecDepth 100000 in
theorem wX8_count_J137 {p : Program} {l : Launch} {e : Env} {s : State} {m : MethodId} {args : Array Value} {below : List Frame} {meth : Method} {c : Code} {A : Nat → Prop} {D : va_G} {ad : Nat → Nat} {cA : Nat → ClassId} (C : Cx p s m args meth c cX8_count RX8 5 A dsM D ad cA EM) (hr : meth.sig.returnType = some .int) (z0 : Int32) (z1 : Int32) (μ : Mem) : T p l e (rmD 0) s m args below meth c 5 A dsM D ad cA enI (fX8_count_J137 z0 z1 μ) 137 [] [.int z1, .int z0] μ := by
  unfold fX8_count_J137
  refine tt_iadd C dX8_count_137 ?_
  exact tt_iret rfl C hr dX8_count_138

def fX8_count_J123 (z0 : Int32) (μ : Mem) : Option (Int32 × Mem) := gr (1 : Int32) 2 <| if (μ 16 (1 : Int32).toNatClampNeg) = (0 : Int32) then (fX8_count_J137 z0 (0 : Int32) μ) else (fX8_count_J137 z0 (1 : Int32) μ)
set_option maxHeartbeats 4000000 in
set_option maxRecDepth 100000 in
theorem wX8_count_J123 {p : Program} {l : Launch} {e : Env} {s : State} {m : MethodId} {args : Array Value} {below : List Frame} {meth : Method} {c : Code} {A : Nat → Prop} {D : va_G} {ad : Nat → Nat} {cA : Nat → ClassId} (C : Cx p s m args meth c cX8_count RX8 5 A dsM D ad cA EM) (hr : meth.sig.returnType = some .int) (z0 : Int32) (μ : Mem) : T p l e (rmD 0) s m args below meth c 5 A dsM D ad cA enI (fX8_count_J123 z0 μ) 123 [(0, .ref (ad 0))] [.int z0] μ := by
  unfold fX8_count_J123
  refine tt_aload_n C 0 dX8_count_123 rfl rfl ?_
  refine tt_getR C (j := 40) (r0 := 16) dM_0 rfl fl_RX8_55 dX8_count_124 ?_
  refine tt_iconst (v := (1 : Int32)) C dX8_count_127 (by decide) ?_
  refine tt_gr (fun h1 => ?_)
  refine tt_zald C dM_16 h1 dX8_count_128 ?_
  refine tt_if (fun h2 => ?_) (fun h2 => ?_)
  · refine tt_if_eqT (tgt := 136) C h2 dX8_count_129 (by decide) ?_
    refine tt_iconst (v := (0 : Int32)) C dX8_count_136 (by decide) ?_
    refine tt_sub [] (L2 := []) rfl ?_
    exact wX8_count_J137 C hr z0 (0 : Int32) μ
  · refine tt_if_eqF C 136 h2 dX8_count_129 (by decide) ?_
    refine tt_iconst (v := (1 : Int32)) C dX8_count_132 (by decide) ?_
    refine tt_goto (tgt := 137) C dX8_count_133 (by decide) ?_
    refine tt_sub [] (L2 := []) rfl ?_
    exact wX8_count_J137 C hr z0 (1 : Int32) μ

def fX8_count_L38 : Nat → Int32 → Int32 → Int32 → Int32 → Mem → Option (Int32 × Mem)
  | 0, _, _, _, _, _ => none
  | fu + 1, x1, x2, x3, x4, μ => if (μ 0 3) ≤ x4 then (if x1 = (0 : Int32) then (some ((μ 0 39), μ)) else (if x1 = (1 : Int32) then (gr (0 : Int32) 2 <| if (μ 16 (0 : Int32).toNatClampNeg) = (0 : Int32) then (fX8_count_J123 (0 : Int32) μ) else (fX8_count_J123 (1 : Int32) μ)) else (if x1 = (2 : Int32) then (some ((μ 0 18), μ)) else (if x1 = (3 : Int32) then (gr (0 : Int32) 4 <| if (μ 17 (0 : Int32).toNatClampNeg) = (-4 : Int32) then (fX8_count_J166 (-4 : Int32) μ) else (gr (0 : Int32) 4 <| fX8_count_J166 (μ 18 (0 : Int32).toNatClampNeg) μ)) else (if x1 = (4 : Int32) then (some (x2, μ)) else (if x1 = (5 : Int32) then (some (x3, μ)) else (some ((-1 : Int32), μ)))))))) else (gr x4 6 <| lb (x3 + (μ 2 x4.toNatClampNeg)) fun (y1 : Int32) => lb (x4 + (1 : Int32)) fun (y2 : Int32) => fX8_count_L38 fu x1 x2 y1 y2 μ)
set_option maxHeartbeats 4000000 in
set_option maxRecDepth 100000 in
theorem wX8_count_L38 {p : Program} {l : Launch} {e : Env} {s : State} {m : MethodId} {args : Array Value} {below : List Frame} {meth : Method} {c : Code} {A : Nat → Prop} {D : va_G} {ad : Nat → Nat} {cA : Nat → ClassId} (C : Cx p s m args meth c cX8_count RX8 5 A dsM D ad cA EM) (hr : meth.sig.returnType = some .int) : ∀ (fu : Nat) (x1 : Int32) (x2 : Int32) (x3 : Int32) (x4 : Int32) (μ : Mem), T p l e (rmD 0) s m args below meth c 5 A dsM D ad cA enI (fX8_count_L38 fu x1 x2 x3 x4 μ) 38 [(0, .ref (ad 0)), (1, .int x1), (2, .int x2), (3, .int x3), (4, .int x4)] [] μ
  | 0, _, _, _, _, _ => tt_none
  | fu + 1, x1, x2, x3, x4, μ => by
    have ih := fun (x1 : Int32) (x2 : Int32) (x3 : Int32) (x4 : Int32) (μ : Mem) => wX8_count_L38 (l := l) (e := e) (below := below) C hr fu x1 x2 x3 x4 μ
    show T p l e (rmD 0) s m args below meth c 5 A dsM D ad cA enI (if (μ 0 3) ≤ x4 then (if x1 = (0 : Int32) then (some ((μ 0 39), μ)) else (if x1 = (1 : Int32) then (gr (0 : Int32) 2 <| if (μ 16 (0 : Int32).toNatClampNeg) = (0 : Int32) then (fX8_count_J123 (0 : Int32) μ) else (fX8_count_J123 (1 : Int32) μ)) else (if x1 = (2 : Int32) then (some ((μ 0 18), μ)) else (if x1 = (3 : Int32) then (gr (0 : Int32) 4 <| if (μ 17 (0 : Int32).toNatClampNeg) = (-4 : Int32) then (fX8_count_J166 (-4 : Int32) μ) else (gr (0 : Int32) 4 <| fX8_count_J166 (μ 18 (0 : Int32).toNatClampNeg) μ)) else (if x1 = (4 : Int32) then (some (x2, μ)) else (if x1 = (5 : Int32) then (some (x3, μ)) else (some ((-1 : Int32), μ)))))))) else (gr x4 6 <| lb (x3 + (μ 2 x4.toNatClampNeg)) fun (y1 : Int32) => lb (x4 + (1 : Int32)) fun (y2 : Int32) => fX8_count_L38 fu x1 x2 y1 y2 μ)) 38 [(0, .ref (ad 0)), (1, .int x1), (2, .int x2), (3, .int x3), (4, .int x4)] [] μ
    refine tt_iload C 4 dX8_count_38 rfl ?_
    refine tt_aload_n C 0 dX8_count_40 rfl rfl ?_
    refine tt_getI C (j := 3) dM_0 rfl fl_RX8_164 dX8_count_41 ?_
    refine tt_if (fun h1 => ?_) (fun h1 => ?_)
    · refine tt_icmp_geT (tgt := 63) C h1 dX8_count_44 (by decide) ?_
      refine tt_iload_n C 1 dX8_count_63 rfl rfl ?_
      refine tt_if (fun h2 => ?_) (fun h2 => ?_)
      · refine tt_tabIn (y1 := (0 : Int32)) (a := 0) (off := 40) (tgt := 104) C h2 (by decide) (by decide) (by decide) dX8_count_64 (by decide) (by decide) ?_
        refine tt_aload_n C 0 dX8_count_104 rfl rfl ?_
        refine tt_getI C (j := 39) dM_0 rfl fl_RX8_170 dX8_count_105 ?_
        exact tt_iret rfl C hr dX8_count_108
      · skip
        refine tt_if (fun h3 => ?_) (fun h3 => ?_)
        · refine tt_tabIn (y1 := (1 : Int32)) (a := 1) (off := 45) (tgt := 109) C h3 (by decide) (by decide) (by decide) dX8_count_64 (by decide) (by decide) ?_
          refine tt_aload_n C 0 dX8_count_109 rfl rfl ?_
          refine tt_getR C (j := 40) (r0 := 16) dM_0 rfl fl_RX8_55 dX8_count_110 ?_
          refine tt_iconst (v := (0 : Int32)) C dX8_count_113 (by decide) ?_
          refine tt_gr (fun h4 => ?_)
          refine tt_zald C dM_16 h4 dX8_count_114 ?_
          refine tt_if (fun h5 => ?_) (fun h5 => ?_)
          · refine tt_if_eqT (tgt := 122) C h5 dX8_count_115 (by decide) ?_
            refine tt_iconst (v := (0 : Int32)) C dX8_count_122 (by decide) ?_
            refine tt_sub [0] (L2 := [(0, .ref (ad 0))]) rfl ?_
            exact wX8_count_J123 C hr (0 : Int32) μ
          · refine tt_if_eqF C 122 h5 dX8_count_115 (by decide) ?_
            refine tt_iconst (v := (1 : Int32)) C dX8_count_118 (by decide) ?_
            refine tt_goto (tgt := 123) C dX8_count_119 (by decide) ?_
            refine tt_sub [0] (L2 := [(0, .ref (ad 0))]) rfl ?_
            exact wX8_count_J123 C hr (1 : Int32) μ
        · skip
          refine tt_if (fun h6 => ?_) (fun h6 => ?_)
          · refine tt_tabIn (y1 := (2 : Int32)) (a := 2) (off := 75) (tgt := 139) C h6 (by decide) (by decide) (by decide) dX8_count_64 (by decide) (by decide) ?_
            refine tt_aload_n C 0 dX8_count_139 rfl rfl ?_
            refine tt_getI C (j := 18) dM_0 rfl fl_RX8_74 dX8_count_140 ?_
            exact tt_iret rfl C hr dX8_count_143
          · skip
            refine tt_if (fun h7 => ?_) (fun h7 => ?_)
            · refine tt_tabIn (y1 := (3 : Int32)) (a := 3) (off := 80) (tgt := 144) C h7 (by decide) (by decide) (by decide) dX8_count_64 (by decide) (by decide) ?_
              refine tt_aload_n C 0 dX8_count_144 rfl rfl ?_
              refine tt_getR C (j := 41) (r0 := 17) dM_0 rfl fl_RX8_59 dX8_count_145 ?_
              refine tt_iconst (v := (0 : Int32)) C dX8_count_148 (by decide) ?_
              refine tt_gr (fun h8 => ?_)
              refine tt_iald C dM_17 h8 dX8_count_149 ?_
              refine tt_bipush (v := (-4 : Int32)) C dX8_count_150 (by decide) ?_
              refine tt_if (fun h9 => ?_) (fun h9 => ?_)
              · refine tt_icmp_neF C 160 h9 dX8_count_152 (by decide) ?_
                refine tt_bipush (v := (-4 : Int32)) C dX8_count_155 (by decide) ?_
                refine tt_goto (tgt := 166) C dX8_count_157 (by decide) ?_
                refine tt_sub [] (L2 := []) rfl ?_
                exact wX8_count_J166 C hr (-4 : Int32) μ
              · refine tt_icmp_neT (tgt := 160) C h9 dX8_count_152 (by decide) ?_
                refine tt_aload_n C 0 dX8_count_160 rfl rfl ?_
                refine tt_getR C (j := 42) (r0 := 18) dM_0 rfl fl_RX8_62 dX8_count_161 ?_
                refine tt_iconst (v := (0 : Int32)) C dX8_count_164 (by decide) ?_
                refine tt_gr (fun h10 => ?_)
                refine tt_iald C dM_18 h10 dX8_count_165 ?_
                refine tt_sub [] (L2 := []) rfl ?_
                exact wX8_count_J166 C hr (μ 18 (0 : Int32).toNatClampNeg) μ
            · skip
              refine tt_if (fun h11 => ?_) (fun h11 => ?_)
              · refine tt_tabIn (y1 := (4 : Int32)) (a := 4) (off := 103) (tgt := 167) C h11 (by decide) (by decide) (by decide) dX8_count_64 (by decide) (by decide) ?_
                refine tt_iload_n C 2 dX8_count_167 rfl rfl ?_
                exact tt_iret rfl C hr dX8_count_168
              · skip
                refine tt_if (fun h12 => ?_) (fun h12 => ?_)
                · refine tt_tabIn (y1 := (5 : Int32)) (a := 5) (off := 105) (tgt := 169) C h12 (by decide) (by decide) (by decide) dX8_count_64 (by decide) (by decide) ?_
                  refine tt_iload_n C 3 dX8_count_169 rfl rfl ?_
                  exact tt_iret rfl C hr dX8_count_170
                · skip
                  have nh2 := lv_neT h2 (show (0 : Int32).toInt = 0 by decide)
                  have nh3 := lv_neT h3 (show (1 : Int32).toInt = 1 by decide)
                  have nh6 := lv_neT h6 (show (2 : Int32).toInt = 2 by decide)
                  have nh7 := lv_neT h7 (show (3 : Int32).toInt = 3 by decide)
                  have nh11 := lv_neT h11 (show (4 : Int32).toInt = 4 by decide)
                  have nh12 := lv_neT h12 (show (5 : Int32).toInt = 5 by decide)
                  refine tt_tabOut (tgt := 171) C (by omega) dX8_count_64 (by decide) ?_
                  refine tt_iconst (v := (-1 : Int32)) C dX8_count_171 (by decide) ?_
                  exact tt_iret rfl C hr dX8_count_172
    · refine tt_icmp_geF C 63 h1 dX8_count_44 (by decide) ?_
      refine tt_iload_n C 3 dX8_count_47 rfl rfl ?_
      refine tt_aload_n C 0 dX8_count_48 rfl rfl ?_
      refine tt_getR C (j := 1) (r0 := 2) dM_0 rfl fl_RX8_13 dX8_count_49 ?_
      refine tt_iload C 4 dX8_count_52 rfl ?_
      refine tt_gr (fun h13 => ?_)
      refine tt_iald C dM_2 h13 dX8_count_54 ?_
      refine tt_iadd C dX8_count_55 ?_
      refine tt_lbi (fun y1 => ?_)
      refine tt_istore_n (L2 := [(3, .int y1), (0, .ref (ad 0)), (1, .int x1), (2, .int x2), (4, .int x4)]) C dX8_count_56 rfl (by decide) rfl ?_
      refine tt_iincB (d := (1 : Int32)) C 4 (fun y2 => [(4, .int y2), (3, .int y1), (0, .ref (ad 0)), (1, .int x1), (2, .int x2)]) dX8_count_57 rfl (by decide) (by decide) (fun _ => rfl) (fun y2 => ?_)
      refine tt_goto (tgt := 38) C dX8_count_60 (by decide) ?_
      refine tt_sub [2, 3, 4, 1, 0] (L2 := [(0, .ref (ad 0)), (1, .int x1), (2, .int x2), (3, .int y1), (4, .int y2)]) rfl ?_
      exact ih x1 x2 y1 y2 μ

def fX8_count_L7 : Nat → Int32 → Int32 → Int32 → Int32 → Mem → Option (Int32 × Mem)
  | 0, _, _, _, _, _ => none
  | fu + 1, x1, x2, x3, x4, μ => if (μ 0 5) ≤ x4 then (lb (0 : Int32) fun (y1 : Int32) => fX8_count_L38 FU x1 x2 x3 y1 μ) else (gr ((10 : Int32) + x4) 160 <| lb (x2 + (μ 1 ((10 : Int32) + x4).toNatClampNeg)) fun (y2 : Int32) => lb (x4 + (1 : Int32)) fun (y3 : Int32) => fX8_count_L7 fu x1 y2 x3 y3 μ)
set_option maxHeartbeats 4000000 in
set_option maxRecDepth 100000 in
theorem wX8_count_L7 {p : Program} {l : Launch} {e : Env} {s : State} {m : MethodId} {args : Array Value} {below : List Frame} {meth : Method} {c : Code} {A : Nat → Prop} {D : va_G} {ad : Nat → Nat} {cA : Nat → ClassId} (C : Cx p s m args meth c cX8_count RX8 5 A dsM D ad cA EM) (hr : meth.sig.returnType = some .int) : ∀ (fu : Nat) (x1 : Int32) (x2 : Int32) (x3 : Int32) (x4 : Int32) (μ : Mem), T p l e (rmD 0) s m args below meth c 5 A dsM D ad cA enI (fX8_count_L7 fu x1 x2 x3 x4 μ) 7 [(0, .ref (ad 0)), (1, .int x1), (2, .int x2), (3, .int x3), (4, .int x4)] [] μ
  | 0, _, _, _, _, _ => tt_none
  | fu + 1, x1, x2, x3, x4, μ => by
    have ih := fun (x1 : Int32) (x2 : Int32) (x3 : Int32) (x4 : Int32) (μ : Mem) => wX8_count_L7 (l := l) (e := e) (below := below) C hr fu x1 x2 x3 x4 μ
    show T p l e (rmD 0) s m args below meth c 5 A dsM D ad cA enI (if (μ 0 5) ≤ x4 then (lb (0 : Int32) fun (y1 : Int32) => fX8_count_L38 FU x1 x2 x3 y1 μ) else (gr ((10 : Int32) + x4) 160 <| lb (x2 + (μ 1 ((10 : Int32) + x4).toNatClampNeg)) fun (y2 : Int32) => lb (x4 + (1 : Int32)) fun (y3 : Int32) => fX8_count_L7 fu x1 y2 x3 y3 μ)) 7 [(0, .ref (ad 0)), (1, .int x1), (2, .int x2), (3, .int x3), (4, .int x4)] [] μ
    refine tt_iload C 4 dX8_count_7 rfl ?_
    refine tt_aload_n C 0 dX8_count_9 rfl rfl ?_
    refine tt_getI C (j := 5) dM_0 rfl fl_RX8_167 dX8_count_10 ?_
    refine tt_if (fun h1 => ?_) (fun h1 => ?_)
    · refine tt_icmp_geT (tgt := 35) C h1 dX8_count_13 (by decide) ?_
      refine tt_iconst (v := (0 : Int32)) C dX8_count_35 (by decide) ?_
      refine tt_lbi (fun y1 => ?_)
      refine tt_istore (L2 := [(4, .int y1), (0, .ref (ad 0)), (1, .int x1), (2, .int x2), (3, .int x3)]) C dX8_count_36 (by decide) rfl ?_
      refine tt_sub [1, 2, 3, 4, 0] (L2 := [(0, .ref (ad 0)), (1, .int x1), (2, .int x2), (3, .int x3), (4, .int y1)]) rfl ?_
      exact wX8_count_L38 C hr FU x1 x2 x3 y1 μ
    · refine tt_icmp_geF C 35 h1 dX8_count_13 (by decide) ?_
      refine tt_iload_n C 2 dX8_count_16 rfl rfl ?_
      refine tt_aload_n C 0 dX8_count_17 rfl rfl ?_
      refine tt_getR C (j := 0) (r0 := 1) dM_0 rfl fl_RX8_7 dX8_count_18 ?_
      refine tt_bipush (v := (10 : Int32)) C dX8_count_21 (by decide) ?_
      refine tt_iload C 4 dX8_count_23 rfl ?_
      refine tt_iadd C dX8_count_25 ?_
      refine tt_gr (fun h2 => ?_)
      refine tt_iald C dM_1 h2 dX8_count_26 ?_
      refine tt_iadd C dX8_count_27 ?_
      refine tt_lbi (fun y2 => ?_)
      refine tt_istore_n (L2 := [(2, .int y2), (0, .ref (ad 0)), (1, .int x1), (3, .int x3), (4, .int x4)]) C dX8_count_28 rfl (by decide) rfl ?_
      refine tt_iincB (d := (1 : Int32)) C 4 (fun y3 => [(4, .int y3), (2, .int y2), (0, .ref (ad 0)), (1, .int x1), (3, .int x3)]) dX8_count_29 rfl (by decide) (by decide) (fun _ => rfl) (fun y3 => ?_)
      refine tt_goto (tgt := 7) C dX8_count_32 (by decide) ?_
      refine tt_sub [2, 3, 1, 4, 0] (L2 := [(0, .ref (ad 0)), (1, .int x1), (2, .int y2), (3, .int x3), (4, .int y3)]) rfl ?_
      exact ih x1 y2 x3 y3 μ

def fX8_count (x1 : Int32) (μ : Mem) : Option (Int32 × Mem) := lb (0 : Int32) fun (y1 : Int32) => lb (0 : Int32) fun (y2 : Int32) => lb (0 : Int32) fun (y3 : Int32) => fX8_count_L7 FU x1 y1 y2 y3 μ
set_option maxHeartbeats 4000000 in
set_option maxRecDepth 100000 in
theorem wX8_count {p : Program} {l : Launch} {e : Env} {s : State} {m : MethodId} {args : Array Value} {below : List Frame} {meth : Method} {c : Code} {A : Nat → Prop} {D : va_G} {ad : Nat → Nat} {cA : Nat → ClassId} (C : Cx p s m args meth c cX8_count RX8 5 A dsM D ad cA EM) (hr : meth.sig.returnType = some .int) (x1 : Int32) (μ : Mem) : T p l e (rmD 0) s m args below meth c 5 A dsM D ad cA enI (fX8_count x1 μ) 0 [(0, .ref (ad 0)), (1, .int x1)] [] μ := by
  unfold fX8_count
  refine tt_iconst (v := (0 : Int32)) C dX8_count_0 (by decide) ?_
  refine tt_lbi (fun y1 => ?_)
  refine tt_istore_n (L2 := [(2, .int y1), (0, .ref (ad 0)), (1, .int x1)]) C dX8_count_1 rfl (by decide) rfl ?_
  refine tt_iconst (v := (0 : Int32)) C dX8_count_2 (by decide) ?_
  refine tt_lbi (fun y2 => ?_)
  refine tt_istore_n (L2 := [(3, .int y2), (2, .int y1), (0, .ref (ad 0)), (1, .int x1)]) C dX8_count_3 rfl (by decide) rfl ?_
  refine tt_iconst (v := (0 : Int32)) C dX8_count_4 (by decide) ?_
  refine tt_lbi (fun y3 => ?_)
  refine tt_istore (L2 := [(4, .int y3), (3, .int y2), (2, .int y1), (0, .ref (ad 0)), (1, .int x1)]) C dX8_count_5 (by decide) rfl ?_
  refine tt_sub [3, 4, 2, 1, 0] (L2 := [(0, .ref (ad 0)), (1, .int x1), (2, .int y1), (3, .int y2), (4, .int y3)]) rfl ?_
  exact wX8_count_L7 C hr FU x1 y1 y2 y3 μ
theorem kX8_count {l : Launch} {A : Nat → Prop} {D : va_G} {ad : Nat → Nat} {cA : Nat → ClassId} (hPk : Pk A dsM ad cA EM) {x1 : Int32} {μ : Mem} {v : Int32} {ν : Mem} (h : fX8_count x1 μ = some (v, ν)) : Ct l A dsM D ad cA EM yX8_count cX8_count 5 (some .int) 0 [.ref (ad 0), .int x1] μ (enI (v, ν)) :=
  ct_of (by decide) (Nat.le_of_ble_eq_true rfl) hPk rfl (fun p e s m args below meth c C hr => wX8_count C hr x1 μ) h

/-! BasketRoundModel.drift(III)I -/
def fX8_drift_J167 (z0 : Int32) (μ : Mem) : Option (Int32 × Mem) := some (z0, μ)
set_option maxHeartbeats 4000000 in
set_option maxRecDepth 100000 in
theorem wX8_drift_J167 {p : Program} {l : Launch} {e : Env} {s : State} {m : MethodId} {args : Array Value} {below : List Frame} {meth : Method} {c : Code} {A : Nat → Prop} {D : va_G} {ad : Nat → Nat} {cA : Nat → ClassId} (C : Cx p s m args meth c cX8_drift RX8 10 A dsM D ad cA EM) (hr : meth.sig.returnType = some .int) (z0 : Int32) (μ : Mem) : T p l e (rmD 4) s m args below meth c 10 A dsM D ad cA enI (fX8_drift_J167 z0 μ) 167 [] [.int z0] μ := by
  unfold fX8_drift_J167
  exact tt_iret rfl C hr dX8_drift_167

def fX8_drift_J140 (k56 : Int32 → Int32 → Int32 → Int32 → Int32 → Int32 → Mem → Option (Int32 × Mem)) (x2 : Int32) (x3 : Int32) (x4 : Int32) (x6 : Int32) (x7 : Int32) (z0 : Int32) (μ : Mem) : Option (Int32 × Mem) := lb (x7 + (1 : Int32)) fun (y1 : Int32) => k56 x2 x3 x4 z0 x6 y1 μ
set_option maxHeartbeats 4000000 in
set_option maxRecDepth 100000 in
theorem wX8_drift_J140 {p : Program} {l : Launch} {e : Env} {s : State} {m : MethodId} {args : Array Value} {below : List Frame} {meth : Method} {c : Code} {A : Nat → Prop} {D : va_G} {ad : Nat → Nat} {cA : Nat → ClassId} (C : Cx p s m args meth c cX8_drift RX8 10 A dsM D ad cA EM) (hr : meth.sig.returnType = some .int) (k56 : Int32 → Int32 → Int32 → Int32 → Int32 → Int32 → Mem → Option (Int32 × Mem)) (hk56 : ∀ (x2 : Int32) (x3 : Int32) (x4 : Int32) (x5 : Int32) (x6 : Int32) (x7 : Int32) (μ : Mem), T p l e (rmD 4) s m args below meth c 10 A dsM D ad cA enI (k56 x2 x3 x4 x5 x6 x7 μ) 56 [(0, .ref (ad 0)), (2, .int x2), (3, .int x3), (4, .int x4), (5, .int x5), (6, .int x6), (7, .int x7)] [] μ) (x2 : Int32) (x3 : Int32) (x4 : Int32) (x6 : Int32) (x7 : Int32) (z0 : Int32) (μ : Mem) : T p l e (rmD 4) s m args below meth c 10 A dsM D ad cA enI (fX8_drift_J140 k56 x2 x3 x4 x6 x7 z0 μ) 140 [(0, .ref (ad 0)), (2, .int x2), (3, .int x3), (4, .int x4), (6, .int x6), (7, .int x7)] [.int z0] μ := by
  unfold fX8_drift_J140
  refine tt_istore (L2 := [(5, .int z0), (0, .ref (ad 0)), (2, .int x2), (3, .int x3), (4, .int x4), (6, .int x6), (7, .int x7)]) C dX8_drift_140 (by decide) rfl ?_
  refine tt_iincB (d := (1 : Int32)) C 6 (fun y1 => [(7, .int y1), (5, .int z0), (0, .ref (ad 0)), (2, .int x2), (3, .int x3), (4, .int x4), (6, .int x6)]) dX8_drift_142 rfl (by decide) (by decide) (fun _ => rfl) (fun y1 => ?_)
  refine tt_goto (tgt := 56) C dX8_drift_145 (by decide) ?_
  refine tt_sub [2, 3, 4, 5, 1, 6, 0] (L2 := [(0, .ref (ad 0)), (2, .int x2), (3, .int x3), (4, .int x4), (5, .int z0), (6, .int x6), (7, .int y1)]) rfl ?_
  exact hk56 x2 x3 x4 z0 x6 y1 μ

def fX8_drift_J124 (k56 : Int32 → Int32 → Int32 → Int32 → Int32 → Int32 → Mem → Option (Int32 × Mem)) (x2 : Int32) (x3 : Int32) (x4 : Int32) (x5 : Int32) (x7 : Int32) (x9 : Int32) (z0 : Int32) (μ : Mem) : Option (Int32 × Mem) := if x9 ≤ x5 then (fX8_drift_J140 k56 x2 x3 x4 z0 x7 x5 μ) else (fX8_drift_J140 k56 x2 x3 x4 z0 x7 x9 μ)
set_option maxHeartbeats 4000000 in
set_option maxRecDepth 100000 in
theorem wX8_drift_J124 {p : Program} {l : Launch} {e : Env} {s : State} {m : MethodId} {args : Array Value} {below : List Frame} {meth : Method} {c : Code} {A : Nat → Prop} {D : va_G} {ad : Nat → Nat} {cA : Nat → ClassId} (C : Cx p s m args meth c cX8_drift RX8 10 A dsM D ad cA EM) (hr : meth.sig.returnType = some .int) (k56 : Int32 → Int32 → Int32 → Int32 → Int32 → Int32 → Mem → Option (Int32 × Mem)) (hk56 : ∀ (x2 : Int32) (x3 : Int32) (x4 : Int32) (x5 : Int32) (x6 : Int32) (x7 : Int32) (μ : Mem), T p l e (rmD 4) s m args below meth c 10 A dsM D ad cA enI (k56 x2 x3 x4 x5 x6 x7 μ) 56 [(0, .ref (ad 0)), (2, .int x2), (3, .int x3), (4, .int x4), (5, .int x5), (6, .int x6), (7, .int x7)] [] μ) (x2 : Int32) (x3 : Int32) (x4 : Int32) (x5 : Int32) (x7 : Int32) (x9 : Int32) (z0 : Int32) (μ : Mem) : T p l e (rmD 4) s m args below meth c 10 A dsM D ad cA enI (fX8_drift_J124 k56 x2 x3 x4 x5 x7 x9 z0 μ) 124 [(0, .ref (ad 0)), (2, .int x2), (3, .int x3), (4, .int x4), (5, .int x5), (7, .int x7), (9, .int x9)] [.int z0] μ := by
  unfold fX8_drift_J124
  refine tt_istore (L2 := [(6, .int z0), (0, .ref (ad 0)), (2, .int x2), (3, .int x3), (4, .int x4), (5, .int x5), (7, .int x7), (9, .int x9)]) C dX8_drift_124 (by decide) rfl ?_
  refine tt_iload C 7 dX8_drift_126 rfl ?_
  refine tt_iload C 5 dX8_drift_128 rfl ?_
  refine tt_if (fun h1 => ?_) (fun h1 => ?_)
  · refine tt_icmp_leT (tgt := 138) C h1 dX8_drift_130 (by decide) ?_
    refine tt_iload C 5 dX8_drift_138 rfl ?_
    refine tt_sub [1, 2, 3, 4, 0, 6] (L2 := [(0, .ref (ad 0)), (2, .int x2), (3, .int x3), (4, .int x4), (6, .int z0), (7, .int x7)]) rfl ?_
    exact wX8_drift_J140 C hr k56 hk56 x2 x3 x4 z0 x7 x5 μ
  · refine tt_icmp_leF C 138 h1 dX8_drift_130 (by decide) ?_
    refine tt_iload C 7 dX8_drift_133 rfl ?_
    refine tt_goto (tgt := 140) C dX8_drift_135 (by decide) ?_
    refine tt_sub [1, 2, 3, 4, 0, 6] (L2 := [(0, .ref (ad 0)), (2, .int x2), (3, .int x3), (4, .int x4), (6, .int z0), (7, .int x7)]) rfl ?_
    exact wX8_drift_J140 C hr k56 hk56 x2 x3 x4 z0 x7 x9 μ

def fX8_drift_L56 : Nat → Int32 → Int32 → Int32 → Int32 → Int32 → Int32 → Mem → Option (Int32 × Mem)
  | 0, _, _, _, _, _, _, _ => none
  | fu + 1, x2, x3, x4, x5, x6, x7, μ => if x2 ≤ x7 then (bv (fX8_copies (128 : Int32) (0 : Int32) μ) fun m1 => if x3 = (0 : Int32) then (fX8_drift_J167 x5 m1) else (fX8_drift_J167 x6 m1)) else (lb ((x4 * (1103515245 : Int32)) + (12345 : Int32)) fun (y2 : Int32) => gd (¬ (μ 0 5) = (0 : Int32)) <| bv (fX8_comesFirst (25 : Int32) (irm ((y2 >>> ((16 : Int32) &&& 31)) &&& (32767 : Int32)) (μ 0 5)) μ) fun m3 => bi (fX8_wholeRound m3) fun v5 m4 => bi (fX8_every m4) fun v7 m6 => bi (fX8_penniesOf v7 m6) fun v9 m8 => if x6 ≤ v5 then (fX8_drift_J124 (fun x2 x3 x4 x5 x6 x7 μ => fX8_drift_L56 fu x2 x3 x4 x5 x6 x7 μ) x2 x3 y2 x5 x7 v9 x6 m8) else (fX8_drift_J124 (fun x2 x3 x4 x5 x6 x7 μ => fX8_drift_L56 fu x2 x3 x4 x5 x6 x7 μ) x2 x3 y2 x5 x7 v9 v5 m8))
set_option maxHeartbeats 4000000 in
set_option maxRecDepth 100000 in
theorem wX8_drift_L56 {p : Program} {l : Launch} {e : Env} {s : State} {m : MethodId} {args : Array Value} {below : List Frame} {meth : Method} {c : Code} {A : Nat → Prop} {D : va_G} {ad : Nat → Nat} {cA : Nat → ClassId} (C : Cx p s m args meth c cX8_drift RX8 10 A dsM D ad cA EM) (hr : meth.sig.returnType = some .int) : ∀ (fu : Nat) (x2 : Int32) (x3 : Int32) (x4 : Int32) (x5 : Int32) (x6 : Int32) (x7 : Int32) (μ : Mem), T p l e (rmD 4) s m args below meth c 10 A dsM D ad cA enI (fX8_drift_L56 fu x2 x3 x4 x5 x6 x7 μ) 56 [(0, .ref (ad 0)), (2, .int x2), (3, .int x3), (4, .int x4), (5, .int x5), (6, .int x6), (7, .int x7)] [] μ
  | 0, _, _, _, _, _, _, _ => tt_none
  | fu + 1, x2, x3, x4, x5, x6, x7, μ => by
    have ih := fun (x2 : Int32) (x3 : Int32) (x4 : Int32) (x5 : Int32) (x6 : Int32) (x7 : Int32) (μ : Mem) => wX8_drift_L56 (l := l) (e := e) (below := below) C hr fu x2 x3 x4 x5 x6 x7 μ
    show T p l e (rmD 4) s m args below meth c 10 A dsM D ad cA enI (if x2 ≤ x7 then (bv (fX8_copies (128 : Int32) (0 : Int32) μ) fun m1 => if x3 = (0 : Int32) then (fX8_drift_J167 x5 m1) else (fX8_drift_J167 x6 m1)) else (lb ((x4 * (1103515245 : Int32)) + (12345 : Int32)) fun (y2 : Int32) => gd (¬ (μ 0 5) = (0 : Int32)) <| bv (fX8_comesFirst (25 : Int32) (irm ((y2 >>> ((16 : Int32) &&& 31)) &&& (32767 : Int32)) (μ 0 5)) μ) fun m3 => bi (fX8_wholeRound m3) fun v5 m4 => bi (fX8_every m4) fun v7 m6 => bi (fX8_penniesOf v7 m6) fun v9 m8 => if x6 ≤ v5 then (fX8_drift_J124 (fun x2 x3 x4 x5 x6 x7 μ => fX8_drift_L56 fu x2 x3 x4 x5 x6 x7 μ) x2 x3 y2 x5 x7 v9 x6 m8) else (fX8_drift_J124 (fun x2 x3 x4 x5 x6 x7 μ => fX8_drift_L56 fu x2 x3 x4 x5 x6 x7 μ) x2 x3 y2 x5 x7 v9 v5 m8))) 56 [(0, .ref (ad 0)), (2, .int x2), (3, .int x3), (4, .int x4), (5, .int x5), (6, .int x6), (7, .int x7)] [] μ
    refine tt_iload C 6 dX8_drift_56 rfl ?_
    refine tt_iload_n C 1 dX8_drift_58 rfl rfl ?_
    refine tt_if (fun h1 => ?_) (fun h1 => ?_)
    · refine tt_icmp_geT (tgt := 148) C h1 dX8_drift_59 (by decide) ?_
      refine tt_aload_n C 0 dX8_drift_148 rfl rfl ?_
      refine tt_sipush (v := (128 : Int32)) C dX8_drift_149 (by decide) ?_
      refine tt_iconst (v := (0 : Int32)) C dX8_drift_152 (by decide) ?_
      refine tt_bv (fun m1 h2 => ?_)
      refine tt_callV (st := []) (As := [.int (128 : Int32), .int (0 : Int32)]) C (kX8_copies C.2.2.2.2.2.2.2.1 h2) mi_X8_copies ml_RX8_300 mv_X8_copies ms_X8_copies (q := (RX8, TX8, 45)) dM_0 rfl rfl (by decide) (by decide) (Nat.le_of_ble_eq_true rfl) dX8_drift_153 ?_
      refine tt_iload_n C 2 dX8_drift_156 rfl rfl ?_
      refine tt_if (fun h3 => ?_) (fun h3 => ?_)
      · refine tt_if_neF C 165 h3 dX8_drift_157 (by decide) ?_
        refine tt_iload C 4 dX8_drift_160 rfl ?_
        refine tt_goto (tgt := 167) C dX8_drift_162 (by decide) ?_
        refine tt_sub [] (L2 := []) rfl ?_
        exact wX8_drift_J167 C hr x5 m1
      · refine tt_if_neT (tgt := 165) C h3 dX8_drift_157 (by decide) ?_
        refine tt_iload C 5 dX8_drift_165 rfl ?_
        refine tt_sub [] (L2 := []) rfl ?_
        exact wX8_drift_J167 C hr x6 m1
    · refine tt_icmp_geF C 148 h1 dX8_drift_59 (by decide) ?_
      refine tt_iload C 3 dX8_drift_62 rfl ?_
      refine tt_ldcw (v := (1103515245 : Int32)) C kC_RX8_303 dX8_drift_64 ?_
      refine tt_imul C dX8_drift_67 ?_
      refine tt_sipush (v := (12345 : Int32)) C dX8_drift_68 (by decide) ?_
      refine tt_iadd C dX8_drift_71 ?_
      refine tt_lbi (fun y2 => ?_)
      refine tt_istore (L2 := [(4, .int y2), (0, .ref (ad 0)), (2, .int x2), (3, .int x3), (5, .int x5), (6, .int x6), (7, .int x7)]) C dX8_drift_72 (by decide) rfl ?_
      refine tt_aload_n C 1 dX8_drift_74 rfl rfl ?_
      refine tt_bipush (v := (25 : Int32)) C dX8_drift_75 (by decide) ?_
      refine tt_iload C 0 dX8_drift_77 rfl ?_
      refine tt_bipush (v := (16 : Int32)) C dX8_drift_79 (by decide) ?_
      refine tt_ishr C dX8_drift_81 ?_
      refine tt_sipush (v := (32767 : Int32)) C dX8_drift_82 (by decide) ?_
      refine tt_iand C dX8_drift_85 ?_
      refine tt_aload_n C 1 dX8_drift_86 rfl rfl ?_
      refine tt_getI C (j := 5) dM_0 rfl fl_RX8_167 dX8_drift_87 ?_
      refine tt_gd (fun h4 => ?_)
      refine tt_irem C h4 dX8_drift_90 ?_
      refine tt_bv (fun m3 h5 => ?_)
      refine tt_callV (st := []) (As := [.int (25 : Int32), .int (irm ((y2 >>> ((16 : Int32) &&& 31)) &&& (32767 : Int32)) (μ 0 5))]) C (kX8_comesFirst C.2.2.2.2.2.2.2.1 h5) mi_X8_comesFirst ml_RX8_202 mv_X8_comesFirst ms_X8_comesFirst (q := (RX8, TX8, 45)) dM_0 rfl rfl (by decide) (by decide) (Nat.le_of_ble_eq_true rfl) dX8_drift_91 ?_
      refine tt_aload_n C 1 dX8_drift_94 rfl rfl ?_
      refine tt_bi (fun v5 m4 h6 => ?_)
      refine tt_callV (st := []) (As := []) C (kX8_wholeRound C.2.2.2.2.2.2.2.1 h6) mi_X8_wholeRound ml_RX8_245 mv_X8_wholeRound ms_X8_wholeRound (q := (RX8, TX8, 45)) dM_0 rfl rfl (by decide) (by decide) (Nat.le_of_ble_eq_true rfl) dX8_drift_95 ?_
      refine tt_istore (L2 := [(8, .int v5), (4, .int y2), (0, .ref (ad 0)), (2, .int x2), (3, .int x3), (5, .int x5), (6, .int x6), (7, .int x7)]) C dX8_drift_98 (by decide) rfl ?_
      refine tt_aload_n C 2 dX8_drift_100 rfl rfl ?_
      refine tt_aload_n C 2 dX8_drift_101 rfl rfl ?_
      refine tt_bi (fun v7 m6 h7 => ?_)
      refine tt_callV (st := [.ref (ad 0)]) (As := []) C (kX8_every C.2.2.2.2.2.2.2.1 h7) mi_X8_every ml_RX8_239 mv_X8_every ms_X8_every (q := (RX8, TX8, 45)) dM_0 rfl rfl (by decide) (by decide) (Nat.le_of_ble_eq_true rfl) dX8_drift_102 ?_
      refine tt_bi (fun v9 m8 h8 => ?_)
      refine tt_callV (st := []) (As := [.int v7]) C (kX8_penniesOf C.2.2.2.2.2.2.2.1 h8) mi_X8_penniesOf ml_RX8_248 mv_X8_penniesOf ms_X8_penniesOf (q := (RX8, TX8, 45)) dM_0 rfl rfl (by decide) (by decide) (Nat.le_of_ble_eq_true rfl) dX8_drift_105 ?_
      refine tt_istore (L2 := [(9, .int v9), (8, .int v5), (4, .int y2), (0, .ref (ad 0)), (2, .int x2), (3, .int x3), (5, .int x5), (6, .int x6), (7, .int x7)]) C dX8_drift_108 (by decide) rfl ?_
      refine tt_iload C 1 dX8_drift_110 rfl ?_
      refine tt_iload C 7 dX8_drift_112 rfl ?_
      refine tt_if (fun h9 => ?_) (fun h9 => ?_)
      · refine tt_icmp_geT (tgt := 122) C h9 dX8_drift_114 (by decide) ?_
        refine tt_iload C 7 dX8_drift_122 rfl ?_
        refine tt_sub [3, 4, 5, 2, 6, 8, 0] (L2 := [(0, .ref (ad 0)), (2, .int x2), (3, .int x3), (4, .int y2), (5, .int x5), (7, .int x7), (9, .int v9)]) rfl ?_
        exact wX8_drift_J124 C hr (fun x2 x3 x4 x5 x6 x7 μ => fX8_drift_L56 fu x2 x3 x4 x5 x6 x7 μ) (fun x2 x3 x4 x5 x6 x7 μ => ih x2 x3 x4 x5 x6 x7 μ) x2 x3 y2 x5 x7 v9 x6 m8
      · refine tt_icmp_geF C 122 h9 dX8_drift_114 (by decide) ?_
        refine tt_iload C 1 dX8_drift_117 rfl ?_
        refine tt_goto (tgt := 124) C dX8_drift_119 (by decide) ?_
        refine tt_sub [3, 4, 5, 2, 6, 8, 0] (L2 := [(0, .ref (ad 0)), (2, .int x2), (3, .int x3), (4, .int y2), (5, .int x5), (7, .int x7), (9, .int v9)]) rfl ?_
        exact wX8_drift_J124 C hr (fun x2 x3 x4 x5 x6 x7 μ => fX8_drift_L56 fu x2 x3 x4 x5 x6 x7 μ) (fun x2 x3 x4 x5 x6 x7 μ => ih x2 x3 x4 x5 x6 x7 μ) x2 x3 y2 x5 x7 v9 v5 m8

def fX8_drift_J22 (μ : Mem) : Option (Int32 × Mem) := some ((-1 : Int32), μ)
set_option maxHeartbeats 4000000 in
set_option maxRecDepth 100000 in
theorem wX8_drift_J22 {p : Program} {l : Launch} {e : Env} {s : State} {m : MethodId} {args : Array Value} {below : List Frame} {meth : Method} {c : Code} {A : Nat → Prop} {D : va_G} {ad : Nat → Nat} {cA : Nat → ClassId} (C : Cx p s m args meth c cX8_drift RX8 10 A dsM D ad cA EM) (hr : meth.sig.returnType = some .int) (μ : Mem) : T p l e (rmD 4) s m args below meth c 10 A dsM D ad cA enI (fX8_drift_J22 μ) 22 [] [] μ := by
  unfold fX8_drift_J22
  refine tt_iconst (v := (-1 : Int32)) C dX8_drift_22 (by decide) ?_
  exact tt_iret rfl C hr dX8_drift_23

def fX8_drift (x1 : Int32) (x2 : Int32) (x3 : Int32) (μ : Mem) : Option (Int32 × Mem) := bi (fX8_in x2.toInt64 (1 : Int64) (60 : Int64) μ) fun v2 m1 => if v2 = (0 : Int32) then (fX8_drift_J22 m1) else (bi (fX8_in x3.toInt64 (0 : Int64) (1 : Int64) m1) fun v4 m3 => if v4 = (0 : Int32) then (fX8_drift_J22 m3) else (if (m3 0 5) = (0 : Int32) then (some ((-2 : Int32), m3)) else (lb (0 : Int32) fun (y5 : Int32) => lb (1000000 : Int32) fun (y6 : Int32) => bv (fX8_copies (0 : Int32) (128 : Int32) m3) fun m7 => lb (0 : Int32) fun (y8 : Int32) => fX8_drift_L56 FU x2 x3 x1 y5 y6 y8 m7)))
set_option maxHeartbeats 4000000 in
set_option maxRecDepth 100000 in
theorem wX8_drift {p : Program} {l : Launch} {e : Env} {s : State} {m : MethodId} {args : Array Value} {below : List Frame} {meth : Method} {c : Code} {A : Nat → Prop} {D : va_G} {ad : Nat → Nat} {cA : Nat → ClassId} (C : Cx p s m args meth c cX8_drift RX8 10 A dsM D ad cA EM) (hr : meth.sig.returnType = some .int) (x1 : Int32) (x2 : Int32) (x3 : Int32) (μ : Mem) : T p l e (rmD 4) s m args below meth c 10 A dsM D ad cA enI (fX8_drift x1 x2 x3 μ) 0 [(0, .ref (ad 0)), (1, .int x1), (2, .int x2), (3, .int x3)] [] μ := by
  unfold fX8_drift
  refine tt_iload_n C 2 dX8_drift_0 rfl rfl ?_
  refine tt_i2l C dX8_drift_1 ?_
  refine tt_lconst (v := (1 : Int64)) C dX8_drift_2 (by decide) ?_
  refine tt_ldc2 (v := (60 : Int64)) C kL_RX8_192 dX8_drift_3 ?_
  refine tt_bi (fun v2 m1 h1 => ?_)
  refine tt_callS (st := []) (As := [.long x2.toInt64, .long (1 : Int64), .long (60 : Int64)]) C (kX8_in C.2.2.2.2.2.2.2.1 h1) mi_X8_in ml_RX8_70 mt_X8_in rfl (by decide) (by decide) (Nat.le_of_ble_eq_true rfl) dX8_drift_6 ?_
  refine tt_if (fun h2 => ?_) (fun h2 => ?_)
  · refine tt_if_eqT (tgt := 22) C h2 dX8_drift_9 (by decide) ?_
    refine tt_sub [] (L2 := []) rfl ?_
    exact wX8_drift_J22 C hr m1
  · refine tt_if_eqF C 22 h2 dX8_drift_9 (by decide) ?_
    refine tt_iload_n C 3 dX8_drift_12 rfl rfl ?_
    refine tt_i2l C dX8_drift_13 ?_
    refine tt_lconst (v := (0 : Int64)) C dX8_drift_14 (by decide) ?_
    refine tt_lconst (v := (1 : Int64)) C dX8_drift_15 (by decide) ?_
    refine tt_bi (fun v4 m3 h3 => ?_)
    refine tt_callS (st := []) (As := [.long x3.toInt64, .long (0 : Int64), .long (1 : Int64)]) C (kX8_in C.2.2.2.2.2.2.2.1 h3) mi_X8_in ml_RX8_70 mt_X8_in rfl (by decide) (by decide) (Nat.le_of_ble_eq_true rfl) dX8_drift_16 ?_
    refine tt_if (fun h4 => ?_) (fun h4 => ?_)
    · refine tt_if_neF C 24 h4 dX8_drift_19 (by decide) ?_
      refine tt_sub [] (L2 := []) rfl ?_
      exact wX8_drift_J22 C hr m3
    · refine tt_if_neT (tgt := 24) C h4 dX8_drift_19 (by decide) ?_
      refine tt_aload_n C 0 dX8_drift_24 rfl rfl ?_
      refine tt_getI C (j := 5) dM_0 rfl fl_RX8_167 dX8_drift_25 ?_
      refine tt_if (fun h5 => ?_) (fun h5 => ?_)
      · refine tt_if_neF C 34 h5 dX8_drift_28 (by decide) ?_
        refine tt_bipush (v := (-2 : Int32)) C dX8_drift_31 (by decide) ?_
        exact tt_iret rfl C hr dX8_drift_33
      · refine tt_if_neT (tgt := 34) C h5 dX8_drift_28 (by decide) ?_
        refine tt_iload_n C 1 dX8_drift_34 rfl rfl ?_
        refine tt_istore (L2 := [(4, .int x1), (0, .ref (ad 0)), (1, .int x1), (2, .int x2), (3, .int x3)]) C dX8_drift_35 (by decide) rfl ?_
        refine tt_iconst (v := (0 : Int32)) C dX8_drift_37 (by decide) ?_
        refine tt_lbi (fun y5 => ?_)
        refine tt_istore (L2 := [(5, .int y5), (4, .int x1), (0, .ref (ad 0)), (1, .int x1), (2, .int x2), (3, .int x3)]) C dX8_drift_38 (by decide) rfl ?_
        refine tt_ldcw (v := (1000000 : Int32)) C kC_RX8_277 dX8_drift_40 ?_
        refine tt_lbi (fun y6 => ?_)
        refine tt_istore (L2 := [(6, .int y6), (5, .int y5), (4, .int x1), (0, .ref (ad 0)), (1, .int x1), (2, .int x2), (3, .int x3)]) C dX8_drift_43 (by decide) rfl ?_
        refine tt_aload_n C 3 dX8_drift_45 rfl rfl ?_
        refine tt_iconst (v := (0 : Int32)) C dX8_drift_46 (by decide) ?_
        refine tt_sipush (v := (128 : Int32)) C dX8_drift_47 (by decide) ?_
        refine tt_bv (fun m7 h6 => ?_)
        refine tt_callV (st := []) (As := [.int (0 : Int32), .int (128 : Int32)]) C (kX8_copies C.2.2.2.2.2.2.2.1 h6) mi_X8_copies ml_RX8_300 mv_X8_copies ms_X8_copies (q := (RX8, TX8, 45)) dM_0 rfl rfl (by decide) (by decide) (Nat.le_of_ble_eq_true rfl) dX8_drift_50 ?_
        refine tt_iconst (v := (0 : Int32)) C dX8_drift_53 (by decide) ?_
        refine tt_lbi (fun y8 => ?_)
        refine tt_istore (L2 := [(7, .int y8), (6, .int y6), (5, .int y5), (4, .int x1), (0, .ref (ad 0)), (1, .int x1), (2, .int x2), (3, .int x3)]) C dX8_drift_54 (by decide) rfl ?_
        refine tt_sub [4, 6, 7, 3, 2, 1, 0] (L2 := [(0, .ref (ad 0)), (2, .int x2), (3, .int x3), (4, .int x1), (5, .int y5), (6, .int y6), (7, .int y8)]) rfl ?_
        exact wX8_drift_L56 C hr FU x2 x3 x1 y5 y6 y8 m7
theorem kX8_drift {l : Launch} {A : Nat → Prop} {D : va_G} {ad : Nat → Nat} {cA : Nat → ClassId} (hPk : Pk A dsM ad cA EM) {x1 : Int32} {x2 : Int32} {x3 : Int32} {μ : Mem} {v : Int32} {ν : Mem} (h : fX8_drift x1 x2 x3 μ = some (v, ν)) : Ct l A dsM D ad cA EM yX8_drift cX8_drift 10 (some .int) 4 [.ref (ad 0), .int x1, .int x2, .int x3] μ (enI (v, ν)) :=
  ct_of (by decide) (Nat.le_of_ble_eq_true rfl) hPk rfl (fun p e s m args below meth c C hr => wX8_drift C hr x1 x2 x3 μ) h

/-! BasketRoundModel.end(I)I -/
def fX8_end (x1 : Int32) (μ : Mem) : Option (Int32 × Mem) := bi (fX8_in x1.toInt64 (0 : Int64) ((μ 0 18).toInt64) μ) fun v2 m1 => if v2 = (0 : Int32) then (some ((-1 : Int32), m1)) else (lb (m1 0 18) fun (y3 : Int32) => lb (wr m1 0 18 x1) fun m4 => some (y3, m4))
set_option maxHeartbeats 4000000 in
set_option maxRecDepth 100000 in
theorem wX8_end {p : Program} {l : Launch} {e : Env} {s : State} {m : MethodId} {args : Array Value} {below : List Frame} {meth : Method} {c : Code} {A : Nat → Prop} {D : va_G} {ad : Nat → Nat} {cA : Nat → ClassId} (C : Cx p s m args meth c cX8_end RX8 3 A dsM D ad cA EM) (hr : meth.sig.returnType = some .int) (x1 : Int32) (μ : Mem) : T p l e (rmD 1) s m args below meth c 3 A dsM D ad cA enI (fX8_end x1 μ) 0 [(0, .ref (ad 0)), (1, .int x1)] [] μ := by
  unfold fX8_end
  refine tt_iload_n C 1 dX8_end_0 rfl rfl ?_
  refine tt_i2l C dX8_end_1 ?_
  refine tt_lconst (v := (0 : Int64)) C dX8_end_2 (by decide) ?_
  refine tt_aload_n C 0 dX8_end_3 rfl rfl ?_
  refine tt_getI C (j := 18) dM_0 rfl fl_RX8_74 dX8_end_4 ?_
  refine tt_i2l C dX8_end_7 ?_
  refine tt_bi (fun v2 m1 h1 => ?_)
  refine tt_callS (st := []) (As := [.long x1.toInt64, .long (0 : Int64), .long ((μ 0 18).toInt64)]) C (kX8_in C.2.2.2.2.2.2.2.1 h1) mi_X8_in ml_RX8_70 mt_X8_in rfl (by decide) (by decide) (Nat.le_of_ble_eq_true rfl) dX8_end_8 ?_
  refine tt_if (fun h2 => ?_) (fun h2 => ?_)
  · refine tt_if_neF C 16 h2 dX8_end_11 (by decide) ?_
    refine tt_iconst (v := (-1 : Int32)) C dX8_end_14 (by decide) ?_
    exact tt_iret rfl C hr dX8_end_15
  · refine tt_if_neT (tgt := 16) C h2 dX8_end_11 (by decide) ?_
    refine tt_aload_n C 0 dX8_end_16 rfl rfl ?_
    refine tt_getI C (j := 18) dM_0 rfl fl_RX8_74 dX8_end_17 ?_
    refine tt_lbi (fun y3 => ?_)
    refine tt_istore_n (L2 := [(2, .int y3), (0, .ref (ad 0)), (1, .int x1)]) C dX8_end_20 rfl (by decide) rfl ?_
    refine tt_aload_n C 1 dX8_end_21 rfl rfl ?_
    refine tt_iload_n C 2 dX8_end_22 rfl rfl ?_
    refine tt_putI C (j := 18) dM_0 rfl fl_RX8_74 fw_8_18 dX8_end_23 ?_
    refine tt_lbm (fun m4 => ?_)
    refine tt_iload_n C 0 dX8_end_26 rfl rfl ?_
    exact tt_iret rfl C hr dX8_end_27
theorem kX8_end {l : Launch} {A : Nat → Prop} {D : va_G} {ad : Nat → Nat} {cA : Nat → ClassId} (hPk : Pk A dsM ad cA EM) {x1 : Int32} {μ : Mem} {v : Int32} {ν : Mem} (h : fX8_end x1 μ = some (v, ν)) : Ct l A dsM D ad cA EM yX8_end cX8_end 3 (some .int) 1 [.ref (ad 0), .int x1] μ (enI (v, ν)) :=
  ct_of (by decide) (Nat.le_of_ble_eq_true rfl) hPk rfl (fun p e s m args below meth c C hr => wX8_end C hr x1 μ) h

/-! BasketRoundModel.fails(I)V -/
def fX8_fails_J20 (μ : Mem) : Option (Mem) := some μ
set_option maxHeartbeats 4000000 in
set_option maxRecDepth 100000 in
theorem wX8_fails_J20 {p : Program} {l : Launch} {e : Env} {s : State} {m : MethodId} {args : Array Value} {below : List Frame} {meth : Method} {c : Code} {A : Nat → Prop} {D : va_G} {ad : Nat → Nat} {cA : Nat → ClassId} (C : Cx p s m args meth c cX8_fails RX8 2 A dsM D ad cA EM) (hr : meth.sig.returnType = none) (μ : Mem) : T p l e (rmD 0) s m args below meth c 2 A dsM D ad cA enV (fX8_fails_J20 μ) 20 [] [] μ := by
  unfold fX8_fails_J20
  exact tt_vret rfl C hr dX8_fails_20

def fX8_fails (x1 : Int32) (μ : Mem) : Option (Mem) := if (μ 0 20) = (0 : Int32) then (lb (wr μ 0 20 x1) fun m1 => lb (wr m1 0 21 (m1 0 23)) fun m2 => fX8_fails_J20 m2) else (fX8_fails_J20 μ)
set_option maxHeartbeats 4000000 in
set_option maxRecDepth 100000 in
theorem wX8_fails {p : Program} {l : Launch} {e : Env} {s : State} {m : MethodId} {args : Array Value} {below : List Frame} {meth : Method} {c : Code} {A : Nat → Prop} {D : va_G} {ad : Nat → Nat} {cA : Nat → ClassId} (C : Cx p s m args meth c cX8_fails RX8 2 A dsM D ad cA EM) (hr : meth.sig.returnType = none) (x1 : Int32) (μ : Mem) : T p l e (rmD 0) s m args below meth c 2 A dsM D ad cA enV (fX8_fails x1 μ) 0 [(0, .ref (ad 0)), (1, .int x1)] [] μ := by
  unfold fX8_fails
  refine tt_aload_n C 0 dX8_fails_0 rfl rfl ?_
  refine tt_getI C (j := 20) dM_0 rfl fl_RX8_78 dX8_fails_1 ?_
  refine tt_if (fun h1 => ?_) (fun h1 => ?_)
  · refine tt_if_neF C 20 h1 dX8_fails_4 (by decide) ?_
    refine tt_aload_n C 0 dX8_fails_7 rfl rfl ?_
    refine tt_iload_n C 1 dX8_fails_8 rfl rfl ?_
    refine tt_putI C (j := 20) dM_0 rfl fl_RX8_78 fw_8_20 dX8_fails_9 ?_
    refine tt_lbm (fun m1 => ?_)
    refine tt_aload_n C 0 dX8_fails_12 rfl rfl ?_
    refine tt_aload_n C 0 dX8_fails_13 rfl rfl ?_
    refine tt_getI C (j := 23) dM_0 rfl fl_RX8_81 dX8_fails_14 ?_
    refine tt_putI C (j := 21) dM_0 rfl fl_RX8_84 fw_8_21 dX8_fails_17 ?_
    refine tt_lbm (fun m2 => ?_)
    refine tt_sub [] (L2 := []) rfl ?_
    exact wX8_fails_J20 C hr m2
  · refine tt_if_neT (tgt := 20) C h1 dX8_fails_4 (by decide) ?_
    refine tt_sub [] (L2 := []) rfl ?_
    exact wX8_fails_J20 C hr μ
theorem kX8_fails {l : Launch} {A : Nat → Prop} {D : va_G} {ad : Nat → Nat} {cA : Nat → ClassId} (hPk : Pk A dsM ad cA EM) {x1 : Int32} {μ : Mem} {ν : Mem} (h : fX8_fails x1 μ = some ν) : Ct l A dsM D ad cA EM yX8_fails cX8_fails 2 none 0 [.ref (ad 0), .int x1] μ (enV ν) :=
  ct_of (by decide) (Nat.le_of_ble_eq_true rfl) hPk rfl (fun p e s m args below meth c C hr => wX8_fails C hr x1 μ) h

/-! BasketRoundModel.fault()I -/
def fX8_fault (μ : Mem) : Option (Int32 × Mem) := some ((μ 0 19), μ)
set_option maxHeartbeats 4000000 in
set_option maxRecDepth 100000 in
theorem wX8_fault {p : Program} {l : Launch} {e : Env} {s : State} {m : MethodId} {args : Array Value} {below : List Frame} {meth : Method} {c : Code} {A : Nat → Prop} {D : va_G} {ad : Nat → Nat} {cA : Nat → ClassId} (C : Cx p s m args meth c cX8_fault RX8 1 A dsM D ad cA EM) (hr : meth.sig.returnType = some .int) (μ : Mem) : T p l e (rmD 0) s m args below meth c 1 A dsM D ad cA enI (fX8_fault μ) 0 [(0, .ref (ad 0))] [] μ := by
  unfold fX8_fault
  refine tt_aload_n C 0 dX8_fault_0 rfl rfl ?_
  refine tt_getI C (j := 19) dM_0 rfl fl_RX8_157 dX8_fault_1 ?_
  exact tt_iret rfl C hr dX8_fault_4
theorem kX8_fault {l : Launch} {A : Nat → Prop} {D : va_G} {ad : Nat → Nat} {cA : Nat → ClassId} (hPk : Pk A dsM ad cA EM) {μ : Mem} {v : Int32} {ν : Mem} (h : fX8_fault μ = some (v, ν)) : Ct l A dsM D ad cA EM yX8_fault cX8_fault 1 (some .int) 0 [.ref (ad 0)] μ (enI (v, ν)) :=
  ct_of (by decide) (Nat.le_of_ble_eq_true rfl) hPk rfl (fun p e s m args below meth c C hr => wX8_fault C hr μ) h

/-! BasketRoundModel.feed(I)I -/
def fX8_feed (x1 : Int32) (μ : Mem) : Option (Int32 × Mem) := bi (fX8_in x1.toInt64 (0 : Int64) (127 : Int64) μ) fun v2 m1 => if v2 = (0 : Int32) then (some ((-1 : Int32), m1)) else (if (m1 0 18) = (160 : Int32) then (some ((-3 : Int32), m1)) else (gr (m1 0 18) 160 <| lb (wr m1 11 (m1 0 18).toNatClampNeg x1) fun m3 => lb (wr m3 0 18 ((m3 0 18) + (1 : Int32))) fun m4 => some ((m4 0 18), m4)))
set_option maxHeartbeats 4000000 in
set_option maxRecDepth 100000 in
theorem wX8_feed {p : Program} {l : Launch} {e : Env} {s : State} {m : MethodId} {args : Array Value} {below : List Frame} {meth : Method} {c : Code} {A : Nat → Prop} {D : va_G} {ad : Nat → Nat} {cA : Nat → ClassId} (C : Cx p s m args meth c cX8_feed RX8 2 A dsM D ad cA EM) (hr : meth.sig.returnType = some .int) (x1 : Int32) (μ : Mem) : T p l e (rmD 1) s m args below meth c 2 A dsM D ad cA enI (fX8_feed x1 μ) 0 [(0, .ref (ad 0)), (1, .int x1)] [] μ := by
  unfold fX8_feed
  refine tt_iload_n C 1 dX8_feed_0 rfl rfl ?_
  refine tt_i2l C dX8_feed_1 ?_
  refine tt_lconst (v := (0 : Int64)) C dX8_feed_2 (by decide) ?_
  refine tt_ldc2 (v := (127 : Int64)) C kL_RX8_68 dX8_feed_3 ?_
  refine tt_bi (fun v2 m1 h1 => ?_)
  refine tt_callS (st := []) (As := [.long x1.toInt64, .long (0 : Int64), .long (127 : Int64)]) C (kX8_in C.2.2.2.2.2.2.2.1 h1) mi_X8_in ml_RX8_70 mt_X8_in rfl (by decide) (by decide) (Nat.le_of_ble_eq_true rfl) dX8_feed_6 ?_
  refine tt_if (fun h2 => ?_) (fun h2 => ?_)
  · refine tt_if_neF C 14 h2 dX8_feed_9 (by decide) ?_
    refine tt_iconst (v := (-1 : Int32)) C dX8_feed_12 (by decide) ?_
    exact tt_iret rfl C hr dX8_feed_13
  · refine tt_if_neT (tgt := 14) C h2 dX8_feed_9 (by decide) ?_
    refine tt_aload_n C 0 dX8_feed_14 rfl rfl ?_
    refine tt_getI C (j := 18) dM_0 rfl fl_RX8_74 dX8_feed_15 ?_
    refine tt_sipush (v := (160 : Int32)) C dX8_feed_18 (by decide) ?_
    refine tt_if (fun h3 => ?_) (fun h3 => ?_)
    · refine tt_icmp_neF C 27 h3 dX8_feed_21 (by decide) ?_
      refine tt_bipush (v := (-3 : Int32)) C dX8_feed_24 (by decide) ?_
      exact tt_iret rfl C hr dX8_feed_26
    · refine tt_icmp_neT (tgt := 27) C h3 dX8_feed_21 (by decide) ?_
      refine tt_aload_n C 0 dX8_feed_27 rfl rfl ?_
      refine tt_getR C (j := 17) (r0 := 11) dM_0 rfl fl_RX8_40 dX8_feed_28 ?_
      refine tt_aload_n C 0 dX8_feed_31 rfl rfl ?_
      refine tt_getI C (j := 18) dM_0 rfl fl_RX8_74 dX8_feed_32 ?_
      refine tt_iload_n C 1 dX8_feed_35 rfl rfl ?_
      refine tt_gr (fun h4 => ?_)
      refine tt_iast C dM_11 h4 dX8_feed_36 ?_
      refine tt_lbm (fun m3 => ?_)
      refine tt_aload_n C 0 dX8_feed_37 rfl rfl ?_
      refine tt_dup C dX8_feed_38 rfl ?_
      refine tt_getI C (j := 18) dM_0 rfl fl_RX8_74 dX8_feed_39 ?_
      refine tt_iconst (v := (1 : Int32)) C dX8_feed_42 (by decide) ?_
      refine tt_iadd C dX8_feed_43 ?_
      refine tt_putI C (j := 18) dM_0 rfl fl_RX8_74 fw_8_18 dX8_feed_44 ?_
      refine tt_lbm (fun m4 => ?_)
      refine tt_aload_n C 0 dX8_feed_47 rfl rfl ?_
      refine tt_getI C (j := 18) dM_0 rfl fl_RX8_74 dX8_feed_48 ?_
      exact tt_iret rfl C hr dX8_feed_51
theorem kX8_feed {l : Launch} {A : Nat → Prop} {D : va_G} {ad : Nat → Nat} {cA : Nat → ClassId} (hPk : Pk A dsM ad cA EM) {x1 : Int32} {μ : Mem} {v : Int32} {ν : Mem} (h : fX8_feed x1 μ = some (v, ν)) : Ct l A dsM D ad cA EM yX8_feed cX8_feed 2 (some .int) 1 [.ref (ad 0), .int x1] μ (enI (v, ν)) :=
  ct_of (by decide) (Nat.le_of_ble_eq_true rfl) hPk rfl (fun p e s m args below meth c C hr => wX8_feed C hr x1 μ) h

/-! BasketRoundModel.first(I)I -/
def fX8_first (x1 : Int32) (μ : Mem) : Option (Int32 × Mem) := bi (fX8_isOrder x1 μ) fun v2 m1 => if v2 = (0 : Int32) then (some ((-1 : Int32), m1)) else (bv (fX8_comesFirst (25 : Int32) x1 m1) fun m3 => bi (fX8_codeOf (25 : Int32) m3) fun v5 m4 => some (v5, m4))
set_option maxHeartbeats 4000000 in
set_option maxRecDepth 100000 in
theorem wX8_first {p : Program} {l : Launch} {e : Env} {s : State} {m : MethodId} {args : Array Value} {below : List Frame} {meth : Method} {c : Code} {A : Nat → Prop} {D : va_G} {ad : Nat → Nat} {cA : Nat → ClassId} (C : Cx p s m args meth c cX8_first RX8 2 A dsM D ad cA EM) (hr : meth.sig.returnType = some .int) (x1 : Int32) (μ : Mem) : T p l e (rmD 3) s m args below meth c 2 A dsM D ad cA enI (fX8_first x1 μ) 0 [(0, .ref (ad 0)), (1, .int x1)] [] μ := by
  unfold fX8_first
  refine tt_aload_n C 0 dX8_first_0 rfl rfl ?_
  refine tt_iload_n C 1 dX8_first_1 rfl rfl ?_
  refine tt_bi (fun v2 m1 h1 => ?_)
  refine tt_callV (st := []) (As := [.int x1]) C (kX8_isOrder C.2.2.2.2.2.2.2.1 h1) mi_X8_isOrder ml_RX8_185 mv_X8_isOrder ms_X8_isOrder (q := (RX8, TX8, 45)) dM_0 rfl rfl (by decide) (by decide) (Nat.le_of_ble_eq_true rfl) dX8_first_2 ?_
  refine tt_if (fun h2 => ?_) (fun h2 => ?_)
  · refine tt_if_neF C 10 h2 dX8_first_5 (by decide) ?_
    refine tt_iconst (v := (-1 : Int32)) C dX8_first_8 (by decide) ?_
    exact tt_iret rfl C hr dX8_first_9
  · refine tt_if_neT (tgt := 10) C h2 dX8_first_5 (by decide) ?_
    refine tt_aload_n C 0 dX8_first_10 rfl rfl ?_
    refine tt_bipush (v := (25 : Int32)) C dX8_first_11 (by decide) ?_
    refine tt_iload_n C 1 dX8_first_13 rfl rfl ?_
    refine tt_bv (fun m3 h3 => ?_)
    refine tt_callV (st := []) (As := [.int (25 : Int32), .int x1]) C (kX8_comesFirst C.2.2.2.2.2.2.2.1 h3) mi_X8_comesFirst ml_RX8_202 mv_X8_comesFirst ms_X8_comesFirst (q := (RX8, TX8, 45)) dM_0 rfl rfl (by decide) (by decide) (Nat.le_of_ble_eq_true rfl) dX8_first_14 ?_
    refine tt_aload_n C 0 dX8_first_17 rfl rfl ?_
    refine tt_bipush (v := (25 : Int32)) C dX8_first_18 (by decide) ?_
    refine tt_bi (fun v5 m4 h4 => ?_)
    refine tt_callV (st := []) (As := [.int (25 : Int32)]) C (kX8_codeOf C.2.2.2.2.2.2.2.1 h4) mi_X8_codeOf ml_RX8_179 mv_X8_codeOf ms_X8_codeOf (q := (RX8, TX8, 45)) dM_0 rfl rfl (by decide) (by decide) (Nat.le_of_ble_eq_true rfl) dX8_first_20 ?_
    exact tt_iret rfl C hr dX8_first_23
theorem kX8_first {l : Launch} {A : Nat → Prop} {D : va_G} {ad : Nat → Nat} {cA : Nat → ClassId} (hPk : Pk A dsM ad cA EM) {x1 : Int32} {μ : Mem} {v : Int32} {ν : Mem} (h : fX8_first x1 μ = some (v, ν)) : Ct l A dsM D ad cA EM yX8_first cX8_first 2 (some .int) 3 [.ref (ad 0), .int x1] μ (enI (v, ν)) :=
  ct_of (by decide) (Nat.le_of_ble_eq_true rfl) hPk rfl (fun p e s m args below meth c C hr => wX8_first C hr x1 μ) h

/-! BasketRoundModel.isAsSeen()Z -/
def fX8_isAsSeen_J52 (k9 : Int32 → Int32 → Mem → Option (Int32 × Mem)) (x2 : Int32) (z0 : Int32) (μ : Mem) : Option (Int32 × Mem) := lb (x2 + (1 : Int32)) fun (y1 : Int32) => k9 z0 y1 μ
set_option maxHeartbeats 4000000 in
set_option maxRecDepth 100000 in
theorem wX8_isAsSeen_J52 {p : Program} {l : Launch} {e : Env} {s : State} {m : MethodId} {args : Array Value} {below : List Frame} {meth : Method} {c : Code} {A : Nat → Prop} {D : va_G} {ad : Nat → Nat} {cA : Nat → ClassId} (C : Cx p s m args meth c cX8_isAsSeen RX8 3 A dsM D ad cA EM) (hr : meth.sig.returnType = some .boolean) (k9 : Int32 → Int32 → Mem → Option (Int32 × Mem)) (hk9 : ∀ (x1 : Int32) (x2 : Int32) (μ : Mem), T p l e (rmD 4) s m args below meth c 3 A dsM D ad cA enI (k9 x1 x2 μ) 9 [(0, .ref (ad 0)), (1, .int x1), (2, .int x2)] [] μ) (x2 : Int32) (z0 : Int32) (μ : Mem) : T p l e (rmD 4) s m args below meth c 3 A dsM D ad cA enI (fX8_isAsSeen_J52 k9 x2 z0 μ) 52 [(0, .ref (ad 0)), (2, .int x2)] [.int z0] μ := by
  unfold fX8_isAsSeen_J52
  refine tt_istore_n (L2 := [(1, .int z0), (0, .ref (ad 0)), (2, .int x2)]) C dX8_isAsSeen_52 rfl (by decide) rfl ?_
  refine tt_iincB (d := (1 : Int32)) C 2 (fun y1 => [(2, .int y1), (1, .int z0), (0, .ref (ad 0))]) dX8_isAsSeen_53 rfl (by decide) (by decide) (fun _ => rfl) (fun y1 => ?_)
  refine tt_goto (tgt := 9) C dX8_isAsSeen_56 (by decide) ?_
  refine tt_sub [2, 1, 0] (L2 := [(0, .ref (ad 0)), (1, .int z0), (2, .int y1)]) rfl ?_
  exact hk9 z0 y1 μ

def fX8_isAsSeen_J51 (k9 : Int32 → Int32 → Mem → Option (Int32 × Mem)) (x2 : Int32) (μ : Mem) : Option (Int32 × Mem) := fX8_isAsSeen_J52 k9 x2 (0 : Int32) μ
set_option maxHeartbeats 4000000 in
set_option maxRecDepth 100000 in
theorem wX8_isAsSeen_J51 {p : Program} {l : Launch} {e : Env} {s : State} {m : MethodId} {args : Array Value} {below : List Frame} {meth : Method} {c : Code} {A : Nat → Prop} {D : va_G} {ad : Nat → Nat} {cA : Nat → ClassId} (C : Cx p s m args meth c cX8_isAsSeen RX8 3 A dsM D ad cA EM) (hr : meth.sig.returnType = some .boolean) (k9 : Int32 → Int32 → Mem → Option (Int32 × Mem)) (hk9 : ∀ (x1 : Int32) (x2 : Int32) (μ : Mem), T p l e (rmD 4) s m args below meth c 3 A dsM D ad cA enI (k9 x1 x2 μ) 9 [(0, .ref (ad 0)), (1, .int x1), (2, .int x2)] [] μ) (x2 : Int32) (μ : Mem) : T p l e (rmD 4) s m args below meth c 3 A dsM D ad cA enI (fX8_isAsSeen_J51 k9 x2 μ) 51 [(0, .ref (ad 0)), (2, .int x2)] [] μ := by
  unfold fX8_isAsSeen_J51
  refine tt_iconst (v := (0 : Int32)) C dX8_isAsSeen_51 (by decide) ?_
  refine tt_sub [0, 1] (L2 := [(0, .ref (ad 0)), (2, .int x2)]) rfl ?_
  exact wX8_isAsSeen_J52 C hr k9 hk9 x2 (0 : Int32) μ

def fX8_isAsSeen_L9 : Nat → Int32 → Int32 → Mem → Option (Int32 × Mem)
  | 0, _, _, _ => none
  | fu + 1, x1, x2, μ => if (μ 0 39) ≤ x2 then (gd (x1 = (0 : Int32) ∨ x1 = (1 : Int32)) <| some (x1, μ)) else (if x1 = (0 : Int32) then (fX8_isAsSeen_J51 (fun x1 x2 μ => fX8_isAsSeen_L9 fu x1 x2 μ) x2 μ) else (gr ((2 : Int32) * x2) 12 <| gr (μ 15 ((2 : Int32) * x2).toNatClampNeg) 5 <| gr (((2 : Int32) * x2) + (1 : Int32)) 12 <| if (μ 14 (μ 15 ((2 : Int32) * x2).toNatClampNeg).toNatClampNeg) = (μ 15 (((2 : Int32) * x2) + (1 : Int32)).toNatClampNeg) then (fX8_isAsSeen_J52 (fun x1 x2 μ => fX8_isAsSeen_L9 fu x1 x2 μ) x2 (1 : Int32) μ) else (fX8_isAsSeen_J51 (fun x1 x2 μ => fX8_isAsSeen_L9 fu x1 x2 μ) x2 μ)))
set_option maxHeartbeats 4000000 in
set_option maxRecDepth 100000 in
theorem wX8_isAsSeen_L9 {p : Program} {l : Launch} {e : Env} {s : State} {m : MethodId} {args : Array Value} {below : List Frame} {meth : Method} {c : Code} {A : Nat → Prop} {D : va_G} {ad : Nat → Nat} {cA : Nat → ClassId} (C : Cx p s m args meth c cX8_isAsSeen RX8 3 A dsM D ad cA EM) (hr : meth.sig.returnType = some .boolean) : ∀ (fu : Nat) (x1 : Int32) (x2 : Int32) (μ : Mem), T p l e (rmD 4) s m args below meth c 3 A dsM D ad cA enI (fX8_isAsSeen_L9 fu x1 x2 μ) 9 [(0, .ref (ad 0)), (1, .int x1), (2, .int x2)] [] μ
  | 0, _, _, _ => tt_none
  | fu + 1, x1, x2, μ => by
    have ih := fun (x1 : Int32) (x2 : Int32) (μ : Mem) => wX8_isAsSeen_L9 (l := l) (e := e) (below := below) C hr fu x1 x2 μ
    show T p l e (rmD 4) s m args below meth c 3 A dsM D ad cA enI (if (μ 0 39) ≤ x2 then (gd (x1 = (0 : Int32) ∨ x1 = (1 : Int32)) <| some (x1, μ)) else (if x1 = (0 : Int32) then (fX8_isAsSeen_J51 (fun x1 x2 μ => fX8_isAsSeen_L9 fu x1 x2 μ) x2 μ) else (gr ((2 : Int32) * x2) 12 <| gr (μ 15 ((2 : Int32) * x2).toNatClampNeg) 5 <| gr (((2 : Int32) * x2) + (1 : Int32)) 12 <| if (μ 14 (μ 15 ((2 : Int32) * x2).toNatClampNeg).toNatClampNeg) = (μ 15 (((2 : Int32) * x2) + (1 : Int32)).toNatClampNeg) then (fX8_isAsSeen_J52 (fun x1 x2 μ => fX8_isAsSeen_L9 fu x1 x2 μ) x2 (1 : Int32) μ) else (fX8_isAsSeen_J51 (fun x1 x2 μ => fX8_isAsSeen_L9 fu x1 x2 μ) x2 μ)))) 9 [(0, .ref (ad 0)), (1, .int x1), (2, .int x2)] [] μ
    refine tt_iload_n C 2 dX8_isAsSeen_9 rfl rfl ?_
    refine tt_aload_n C 0 dX8_isAsSeen_10 rfl rfl ?_
    refine tt_getI C (j := 39) dM_0 rfl fl_RX8_170 dX8_isAsSeen_11 ?_
    refine tt_if (fun h1 => ?_) (fun h1 => ?_)
    · refine tt_icmp_geT (tgt := 59) C h1 dX8_isAsSeen_14 (by decide) ?_
      refine tt_iload_n C 1 dX8_isAsSeen_59 rfl rfl ?_
      refine tt_gd (fun h2 => ?_)
      exact tt_zret rfl C hr h2 dX8_isAsSeen_60
    · refine tt_icmp_geF C 59 h1 dX8_isAsSeen_14 (by decide) ?_
      refine tt_iload_n C 1 dX8_isAsSeen_17 rfl rfl ?_
      refine tt_if (fun h3 => ?_) (fun h3 => ?_)
      · refine tt_if_eqT (tgt := 51) C h3 dX8_isAsSeen_18 (by decide) ?_
        refine tt_sub [0, 2] (L2 := [(0, .ref (ad 0)), (2, .int x2)]) rfl ?_
        exact wX8_isAsSeen_J51 C hr (fun x1 x2 μ => fX8_isAsSeen_L9 fu x1 x2 μ) (fun x1 x2 μ => ih x1 x2 μ) x2 μ
      · refine tt_if_eqF C 51 h3 dX8_isAsSeen_18 (by decide) ?_
        refine tt_aload_n C 0 dX8_isAsSeen_21 rfl rfl ?_
        refine tt_getR C (j := 28) (r0 := 14) dM_0 rfl fl_RX8_49 dX8_isAsSeen_22 ?_
        refine tt_aload_n C 0 dX8_isAsSeen_25 rfl rfl ?_
        refine tt_getR C (j := 38) (r0 := 15) dM_0 rfl fl_RX8_52 dX8_isAsSeen_26 ?_
        refine tt_iconst (v := (2 : Int32)) C dX8_isAsSeen_29 (by decide) ?_
        refine tt_iload_n C 2 dX8_isAsSeen_30 rfl rfl ?_
        refine tt_imul C dX8_isAsSeen_31 ?_
        refine tt_gr (fun h4 => ?_)
        refine tt_iald C dM_15 h4 dX8_isAsSeen_32 ?_
        refine tt_gr (fun h5 => ?_)
        refine tt_iald C dM_14 h5 dX8_isAsSeen_33 ?_
        refine tt_aload_n C 0 dX8_isAsSeen_34 rfl rfl ?_
        refine tt_getR C (j := 38) (r0 := 15) dM_0 rfl fl_RX8_52 dX8_isAsSeen_35 ?_
        refine tt_iconst (v := (2 : Int32)) C dX8_isAsSeen_38 (by decide) ?_
        refine tt_iload_n C 2 dX8_isAsSeen_39 rfl rfl ?_
        refine tt_imul C dX8_isAsSeen_40 ?_
        refine tt_iconst (v := (1 : Int32)) C dX8_isAsSeen_41 (by decide) ?_
        refine tt_iadd C dX8_isAsSeen_42 ?_
        refine tt_gr (fun h6 => ?_)
        refine tt_iald C dM_15 h6 dX8_isAsSeen_43 ?_
        refine tt_if (fun h7 => ?_) (fun h7 => ?_)
        · refine tt_icmp_neF C 51 h7 dX8_isAsSeen_44 (by decide) ?_
          refine tt_iconst (v := (1 : Int32)) C dX8_isAsSeen_47 (by decide) ?_
          refine tt_goto (tgt := 52) C dX8_isAsSeen_48 (by decide) ?_
          refine tt_sub [0, 2] (L2 := [(0, .ref (ad 0)), (2, .int x2)]) rfl ?_
          exact wX8_isAsSeen_J52 C hr (fun x1 x2 μ => fX8_isAsSeen_L9 fu x1 x2 μ) (fun x1 x2 μ => ih x1 x2 μ) x2 (1 : Int32) μ
        · refine tt_icmp_neT (tgt := 51) C h7 dX8_isAsSeen_44 (by decide) ?_
          refine tt_sub [0, 2] (L2 := [(0, .ref (ad 0)), (2, .int x2)]) rfl ?_
          exact wX8_isAsSeen_J51 C hr (fun x1 x2 μ => fX8_isAsSeen_L9 fu x1 x2 μ) (fun x1 x2 μ => ih x1 x2 μ) x2 μ

def fX8_isAsSeen (μ : Mem) : Option (Int32 × Mem) := lb (1 : Int32) fun (y1 : Int32) => bi (fX8_wholeRound μ) fun v3 m2 => lb (0 : Int32) fun (y4 : Int32) => fX8_isAsSeen_L9 FU y1 y4 m2
set_option maxHeartbeats 4000000 in
set_option maxRecDepth 100000 in
theorem wX8_isAsSeen {p : Program} {l : Launch} {e : Env} {s : State} {m : MethodId} {args : Array Value} {below : List Frame} {meth : Method} {c : Code} {A : Nat → Prop} {D : va_G} {ad : Nat → Nat} {cA : Nat → ClassId} (C : Cx p s m args meth c cX8_isAsSeen RX8 3 A dsM D ad cA EM) (hr : meth.sig.returnType = some .boolean) (μ : Mem) : T p l e (rmD 4) s m args below meth c 3 A dsM D ad cA enI (fX8_isAsSeen μ) 0 [(0, .ref (ad 0))] [] μ := by
  unfold fX8_isAsSeen
  refine tt_iconst (v := (1 : Int32)) C dX8_isAsSeen_0 (by decide) ?_
  refine tt_lbi (fun y1 => ?_)
  refine tt_istore_n (L2 := [(1, .int y1), (0, .ref (ad 0))]) C dX8_isAsSeen_1 rfl (by decide) rfl ?_
  refine tt_aload_n C 1 dX8_isAsSeen_2 rfl rfl ?_
  refine tt_bi (fun v3 m2 h1 => ?_)
  refine tt_callV (st := []) (As := []) C (kX8_wholeRound C.2.2.2.2.2.2.2.1 h1) mi_X8_wholeRound ml_RX8_245 mv_X8_wholeRound ms_X8_wholeRound (q := (RX8, TX8, 45)) dM_0 rfl rfl (by decide) (by decide) (Nat.le_of_ble_eq_true rfl) dX8_isAsSeen_3 ?_
  refine tt_pop C dX8_isAsSeen_6 rfl ?_
  refine tt_iconst (v := (0 : Int32)) C dX8_isAsSeen_7 (by decide) ?_
  refine tt_lbi (fun y4 => ?_)
  refine tt_istore_n (L2 := [(2, .int y4), (1, .int y1), (0, .ref (ad 0))]) C dX8_isAsSeen_8 rfl (by decide) rfl ?_
  refine tt_sub [2, 1, 0] (L2 := [(0, .ref (ad 0)), (1, .int y1), (2, .int y4)]) rfl ?_
  exact wX8_isAsSeen_L9 C hr FU y1 y4 m2
theorem kX8_isAsSeen {l : Launch} {A : Nat → Prop} {D : va_G} {ad : Nat → Nat} {cA : Nat → ClassId} (hPk : Pk A dsM ad cA EM) {μ : Mem} {v : Int32} {ν : Mem} (h : fX8_isAsSeen μ = some (v, ν)) : Ct l A dsM D ad cA EM yX8_isAsSeen cX8_isAsSeen 3 (some .boolean) 4 [.ref (ad 0)] μ (enI (v, ν)) :=
  ct_of (by decide) (Nat.le_of_ble_eq_true rfl) hPk rfl (fun p e s m args below meth c C hr => wX8_isAsSeen C hr μ) h

/-! BasketRoundModel.fits(I)I -/
def fX8_fits_J135 (z0 : Int32) (μ : Mem) : Option (Int32 × Mem) := some (z0, μ)
set_option maxHeartbeats 4000000 in
set_option maxRecDepth 100000 in
theorem wX8_fits_J135 {p : Program} {l : Launch} {e : Env} {s : State} {m : MethodId} {args : Array Value} {below : List Frame} {meth : Method} {c : Code} {A : Nat → Prop} {D : va_G} {ad : Nat → Nat} {cA : Nat → ClassId} (C : Cx p s m args meth c cX8_fits RX8 7 A dsM D ad cA EM) (hr : meth.sig.returnType = some .int) (z0 : Int32) (μ : Mem) : T p l e (rmD 5) s m args below meth c 7 A dsM D ad cA enI (fX8_fits_J135 z0 μ) 135 [] [.int z0] μ := by
  unfold fX8_fits_J135
  exact tt_iret rfl C hr dX8_fits_135

def fX8_fits_J101 (k33 : Int32 → Int32 → Int32 → Int32 → Int32 → Int32 → Mem → Option (Int32 × Mem)) (x1 : Int32) (x2 : Int32) (x3 : Int32) (x4 : Int32) (x5 : Int32) (x6 : Int32) (μ : Mem) : Option (Int32 × Mem) := lb (x6 + (1 : Int32)) fun (y1 : Int32) => k33 x1 x2 x3 x4 x5 y1 μ
set_option maxHeartbeats 4000000 in
set_option maxRecDepth 100000 in
theorem wX8_fits_J101 {p : Program} {l : Launch} {e : Env} {s : State} {m : MethodId} {args : Array Value} {below : List Frame} {meth : Method} {c : Code} {A : Nat → Prop} {D : va_G} {ad : Nat → Nat} {cA : Nat → ClassId} (C : Cx p s m args meth c cX8_fits RX8 7 A dsM D ad cA EM) (hr : meth.sig.returnType = some .int) (k33 : Int32 → Int32 → Int32 → Int32 → Int32 → Int32 → Mem → Option (Int32 × Mem)) (hk33 : ∀ (x1 : Int32) (x2 : Int32) (x3 : Int32) (x4 : Int32) (x5 : Int32) (x6 : Int32) (μ : Mem), T p l e (rmD 5) s m args below meth c 7 A dsM D ad cA enI (k33 x1 x2 x3 x4 x5 x6 μ) 33 [(0, .ref (ad 0)), (1, .int x1), (2, .int x2), (3, .int x3), (4, .int x4), (5, .int x5), (6, .int x6)] [] μ) (x1 : Int32) (x2 : Int32) (x3 : Int32) (x4 : Int32) (x5 : Int32) (x6 : Int32) (μ : Mem) : T p l e (rmD 5) s m args below meth c 7 A dsM D ad cA enI (fX8_fits_J101 k33 x1 x2 x3 x4 x5 x6 μ) 101 [(0, .ref (ad 0)), (1, .int x1), (2, .int x2), (3, .int x3), (4, .int x4), (5, .int x5), (6, .int x6)] [] μ := by
  unfold fX8_fits_J101
  refine tt_iincB (d := (1 : Int32)) C 6 (fun y1 => [(6, .int y1), (0, .ref (ad 0)), (1, .int x1), (2, .int x2), (3, .int x3), (4, .int x4), (5, .int x5)]) dX8_fits_101 rfl (by decide) (by decide) (fun _ => rfl) (fun y1 => ?_)
  refine tt_goto (tgt := 33) C dX8_fits_104 (by decide) ?_
  refine tt_sub [1, 2, 3, 4, 5, 6, 0] (L2 := [(0, .ref (ad 0)), (1, .int x1), (2, .int x2), (3, .int x3), (4, .int x4), (5, .int x5), (6, .int y1)]) rfl ?_
  exact hk33 x1 x2 x3 x4 x5 y1 μ

def fX8_fits_J95 (k33 : Int32 → Int32 → Int32 → Int32 → Int32 → Int32 → Mem → Option (Int32 × Mem)) (x1 : Int32) (x2 : Int32) (x3 : Int32) (x4 : Int32) (x6 : Int32) (z0 : Int32) (z1 : Int32) (μ : Mem) : Option (Int32 × Mem) := lb (z0 ||| z1) fun (y1 : Int32) => lb (x3 + (1 : Int32)) fun (y2 : Int32) => fX8_fits_J101 k33 x1 x2 y2 x4 y1 x6 μ
set_option maxHeartbeats 4000000 in
set_option maxRecDepth 100000 in
theorem wX8_fits_J95 {p : Program} {l : Launch} {e : Env} {s : State} {m : MethodId} {args : Array Value} {below : List Frame} {meth : Method} {c : Code} {A : Nat → Prop} {D : va_G} {ad : Nat → Nat} {cA : Nat → ClassId} (C : Cx p s m args meth c cX8_fits RX8 7 A dsM D ad cA EM) (hr : meth.sig.returnType = some .int) (k33 : Int32 → Int32 → Int32 → Int32 → Int32 → Int32 → Mem → Option (Int32 × Mem)) (hk33 : ∀ (x1 : Int32) (x2 : Int32) (x3 : Int32) (x4 : Int32) (x5 : Int32) (x6 : Int32) (μ : Mem), T p l e (rmD 5) s m args below meth c 7 A dsM D ad cA enI (k33 x1 x2 x3 x4 x5 x6 μ) 33 [(0, .ref (ad 0)), (1, .int x1), (2, .int x2), (3, .int x3), (4, .int x4), (5, .int x5), (6, .int x6)] [] μ) (x1 : Int32) (x2 : Int32) (x3 : Int32) (x4 : Int32) (x6 : Int32) (z0 : Int32) (z1 : Int32) (μ : Mem) : T p l e (rmD 5) s m args below meth c 7 A dsM D ad cA enI (fX8_fits_J95 k33 x1 x2 x3 x4 x6 z0 z1 μ) 95 [(0, .ref (ad 0)), (1, .int x1), (2, .int x2), (3, .int x3), (4, .int x4), (6, .int x6)] [.int z1, .int z0] μ := by
  unfold fX8_fits_J95
  refine tt_ior C dX8_fits_95 ?_
  refine tt_lbi (fun y1 => ?_)
  refine tt_istore (L2 := [(5, .int y1), (0, .ref (ad 0)), (1, .int x1), (2, .int x2), (3, .int x3), (4, .int x4), (6, .int x6)]) C dX8_fits_96 (by decide) rfl ?_
  refine tt_iincB (d := (1 : Int32)) C 4 (fun y2 => [(3, .int y2), (5, .int y1), (0, .ref (ad 0)), (1, .int x1), (2, .int x2), (4, .int x4), (6, .int x6)]) dX8_fits_98 rfl (by decide) (by decide) (fun _ => rfl) (fun y2 => ?_)
  refine tt_sub [2, 3, 4, 0, 5, 1, 6] (L2 := [(0, .ref (ad 0)), (1, .int x1), (2, .int x2), (3, .int y2), (4, .int x4), (5, .int y1), (6, .int x6)]) rfl ?_
  exact wX8_fits_J101 C hr k33 hk33 x1 x2 y2 x4 y1 x6 μ

def fX8_fits_J71 (k33 : Int32 → Int32 → Int32 → Int32 → Int32 → Int32 → Mem → Option (Int32 × Mem)) (x1 : Int32) (x2 : Int32) (x3 : Int32) (x5 : Int32) (x6 : Int32) (z0 : Int32) (μ : Mem) : Option (Int32 × Mem) := if (μ 0 5) = (0 : Int32) then (fX8_fits_J95 k33 x1 x2 x3 z0 x6 x5 (0 : Int32) μ) else (bi (fX8_at (25 : Int32) (0 : Int32) μ) fun v2 m1 => fX8_fits_J95 k33 x1 x2 x3 z0 x6 x5 ((1 : Int32) <<< (v2 &&& 31)) m1)
set_option maxHeartbeats 4000000 in
set_option maxRecDepth 100000 in
theorem wX8_fits_J71 {p : Program} {l : Launch} {e : Env} {s : State} {m : MethodId} {args : Array Value} {below : List Frame} {meth : Method} {c : Code} {A : Nat → Prop} {D : va_G} {ad : Nat → Nat} {cA : Nat → ClassId} (C : Cx p s m args meth c cX8_fits RX8 7 A dsM D ad cA EM) (hr : meth.sig.returnType = some .int) (k33 : Int32 → Int32 → Int32 → Int32 → Int32 → Int32 → Mem → Option (Int32 × Mem)) (hk33 : ∀ (x1 : Int32) (x2 : Int32) (x3 : Int32) (x4 : Int32) (x5 : Int32) (x6 : Int32) (μ : Mem), T p l e (rmD 5) s m args below meth c 7 A dsM D ad cA enI (k33 x1 x2 x3 x4 x5 x6 μ) 33 [(0, .ref (ad 0)), (1, .int x1), (2, .int x2), (3, .int x3), (4, .int x4), (5, .int x5), (6, .int x6)] [] μ) (x1 : Int32) (x2 : Int32) (x3 : Int32) (x5 : Int32) (x6 : Int32) (z0 : Int32) (μ : Mem) : T p l e (rmD 5) s m args below meth c 7 A dsM D ad cA enI (fX8_fits_J71 k33 x1 x2 x3 x5 x6 z0 μ) 71 [(0, .ref (ad 0)), (1, .int x1), (2, .int x2), (3, .int x3), (5, .int x5), (6, .int x6)] [.int z0] μ := by
  unfold fX8_fits_J71
  refine tt_istore (L2 := [(4, .int z0), (0, .ref (ad 0)), (1, .int x1), (2, .int x2), (3, .int x3), (5, .int x5), (6, .int x6)]) C dX8_fits_71 (by decide) rfl ?_
  refine tt_iload C 5 dX8_fits_73 rfl ?_
  refine tt_aload_n C 1 dX8_fits_75 rfl rfl ?_
  refine tt_getI C (j := 5) dM_0 rfl fl_RX8_167 dX8_fits_76 ?_
  refine tt_if (fun h1 => ?_) (fun h1 => ?_)
  · refine tt_if_neF C 86 h1 dX8_fits_79 (by decide) ?_
    refine tt_iconst (v := (0 : Int32)) C dX8_fits_82 (by decide) ?_
    refine tt_goto (tgt := 95) C dX8_fits_83 (by decide) ?_
    refine tt_sub [1, 2, 3, 4, 0, 6] (L2 := [(0, .ref (ad 0)), (1, .int x1), (2, .int x2), (3, .int x3), (4, .int z0), (6, .int x6)]) rfl ?_
    exact wX8_fits_J95 C hr k33 hk33 x1 x2 x3 z0 x6 x5 (0 : Int32) μ
  · refine tt_if_neT (tgt := 86) C h1 dX8_fits_79 (by decide) ?_
    refine tt_iconst (v := (1 : Int32)) C dX8_fits_86 (by decide) ?_
    refine tt_aload_n C 1 dX8_fits_87 rfl rfl ?_
    refine tt_bipush (v := (25 : Int32)) C dX8_fits_88 (by decide) ?_
    refine tt_iconst (v := (0 : Int32)) C dX8_fits_90 (by decide) ?_
    refine tt_bi (fun v2 m1 h2 => ?_)
    refine tt_callV (st := [.int (1 : Int32), .int x5]) (As := [.int (25 : Int32), .int (0 : Int32)]) C (kX8_at C.2.2.2.2.2.2.2.1 h2) mi_X8_at ml_RX8_173 mv_X8_at ms_X8_at (q := (RX8, TX8, 45)) dM_0 rfl rfl (by decide) (by decide) (Nat.le_of_ble_eq_true rfl) dX8_fits_91 ?_
    refine tt_ishl C dX8_fits_94 ?_
    refine tt_sub [1, 2, 3, 4, 0, 6] (L2 := [(0, .ref (ad 0)), (1, .int x1), (2, .int x2), (3, .int x3), (4, .int z0), (6, .int x6)]) rfl ?_
    exact wX8_fits_J95 C hr k33 hk33 x1 x2 x3 z0 x6 x5 ((1 : Int32) <<< (v2 &&& 31)) m1

def fX8_fits_L33 : Nat → Int32 → Int32 → Int32 → Int32 → Int32 → Int32 → Mem → Option (Int32 × Mem)
  | 0, _, _, _, _, _, _, _ => none
  | fu + 1, x1, x2, x3, x4, x5, x6, μ => bi (fX8_codes μ) fun v2 m1 => if v2 ≤ x6 then (bi (fX8_laysCode (25 : Int32) x2 m1) fun v4 m3 => if x1 = (0 : Int32) then (fX8_fits_J135 x3 m3) else (if x1 = (1 : Int32) then (fX8_fits_J135 x4 m3) else (fX8_fits_J135 x5 m3))) else (bi (fX8_laysCode (25 : Int32) x6 m1) fun v6 m5 => if v6 = (0 : Int32) then (fX8_fits_J101 (fun x1 x2 x3 x4 x5 x6 μ => fX8_fits_L33 fu x1 x2 x3 x4 x5 x6 μ) x1 x2 x3 x4 x5 x6 m5) else (bi (fX8_isAsSeen m5) fun v8 m7 => if v8 = (0 : Int32) then (fX8_fits_J101 (fun x1 x2 x3 x4 x5 x6 μ => fX8_fits_L33 fu x1 x2 x3 x4 x5 x6 μ) x1 x2 x3 x4 x5 x6 m7) else (if x3 = (0 : Int32) then (fX8_fits_J71 (fun x1 x2 x3 x4 x5 x6 μ => fX8_fits_L33 fu x1 x2 x3 x4 x5 x6 μ) x1 x2 x3 x5 x6 x6 m7) else (fX8_fits_J71 (fun x1 x2 x3 x4 x5 x6 μ => fX8_fits_L33 fu x1 x2 x3 x4 x5 x6 μ) x1 x2 x3 x5 x6 x4 m7))))
set_option maxHeartbeats 4000000 in
set_option maxRecDepth 100000 in
theorem wX8_fits_L33 {p : Program} {l : Launch} {e : Env} {s : State} {m : MethodId} {args : Array Value} {below : List Frame} {meth : Method} {c : Code} {A : Nat → Prop} {D : va_G} {ad : Nat → Nat} {cA : Nat → ClassId} (C : Cx p s m args meth c cX8_fits RX8 7 A dsM D ad cA EM) (hr : meth.sig.returnType = some .int) : ∀ (fu : Nat) (x1 : Int32) (x2 : Int32) (x3 : Int32) (x4 : Int32) (x5 : Int32) (x6 : Int32) (μ : Mem), T p l e (rmD 5) s m args below meth c 7 A dsM D ad cA enI (fX8_fits_L33 fu x1 x2 x3 x4 x5 x6 μ) 33 [(0, .ref (ad 0)), (1, .int x1), (2, .int x2), (3, .int x3), (4, .int x4), (5, .int x5), (6, .int x6)] [] μ
  | 0, _, _, _, _, _, _, _ => tt_none
  | fu + 1, x1, x2, x3, x4, x5, x6, μ => by
    have ih := fun (x1 : Int32) (x2 : Int32) (x3 : Int32) (x4 : Int32) (x5 : Int32) (x6 : Int32) (μ : Mem) => wX8_fits_L33 (l := l) (e := e) (below := below) C hr fu x1 x2 x3 x4 x5 x6 μ
    show T p l e (rmD 5) s m args below meth c 7 A dsM D ad cA enI (bi (fX8_codes μ) fun v2 m1 => if v2 ≤ x6 then (bi (fX8_laysCode (25 : Int32) x2 m1) fun v4 m3 => if x1 = (0 : Int32) then (fX8_fits_J135 x3 m3) else (if x1 = (1 : Int32) then (fX8_fits_J135 x4 m3) else (fX8_fits_J135 x5 m3))) else (bi (fX8_laysCode (25 : Int32) x6 m1) fun v6 m5 => if v6 = (0 : Int32) then (fX8_fits_J101 (fun x1 x2 x3 x4 x5 x6 μ => fX8_fits_L33 fu x1 x2 x3 x4 x5 x6 μ) x1 x2 x3 x4 x5 x6 m5) else (bi (fX8_isAsSeen m5) fun v8 m7 => if v8 = (0 : Int32) then (fX8_fits_J101 (fun x1 x2 x3 x4 x5 x6 μ => fX8_fits_L33 fu x1 x2 x3 x4 x5 x6 μ) x1 x2 x3 x4 x5 x6 m7) else (if x3 = (0 : Int32) then (fX8_fits_J71 (fun x1 x2 x3 x4 x5 x6 μ => fX8_fits_L33 fu x1 x2 x3 x4 x5 x6 μ) x1 x2 x3 x5 x6 x6 m7) else (fX8_fits_J71 (fun x1 x2 x3 x4 x5 x6 μ => fX8_fits_L33 fu x1 x2 x3 x4 x5 x6 μ) x1 x2 x3 x5 x6 x4 m7))))) 33 [(0, .ref (ad 0)), (1, .int x1), (2, .int x2), (3, .int x3), (4, .int x4), (5, .int x5), (6, .int x6)] [] μ
    refine tt_iload C 6 dX8_fits_33 rfl ?_
    refine tt_aload_n C 0 dX8_fits_35 rfl rfl ?_
    refine tt_bi (fun v2 m1 h1 => ?_)
    refine tt_callV (st := [.int x6]) (As := []) C (kX8_codes C.2.2.2.2.2.2.2.1 h1) mi_X8_codes ml_RX8_265 mv_X8_codes ms_X8_codes (q := (RX8, TX8, 45)) dM_0 rfl rfl (by decide) (by decide) (Nat.le_of_ble_eq_true rfl) dX8_fits_36 ?_
    refine tt_if (fun h2 => ?_) (fun h2 => ?_)
    · refine tt_icmp_geT (tgt := 107) C h2 dX8_fits_39 (by decide) ?_
      refine tt_aload_n C 0 dX8_fits_107 rfl rfl ?_
      refine tt_bipush (v := (25 : Int32)) C dX8_fits_108 (by decide) ?_
      refine tt_iload_n C 2 dX8_fits_110 rfl rfl ?_
      refine tt_bi (fun v4 m3 h3 => ?_)
      refine tt_callV (st := []) (As := [.int (25 : Int32), .int x2]) C (kX8_laysCode C.2.2.2.2.2.2.2.1 h3) mi_X8_laysCode ml_RX8_268 mv_X8_laysCode ms_X8_laysCode (q := (RX8, TX8, 45)) dM_0 rfl rfl (by decide) (by decide) (Nat.le_of_ble_eq_true rfl) dX8_fits_111 ?_
      refine tt_pop C dX8_fits_114 rfl ?_
      refine tt_iload_n C 1 dX8_fits_115 rfl rfl ?_
      refine tt_if (fun h4 => ?_) (fun h4 => ?_)
      · refine tt_if_neF C 123 h4 dX8_fits_116 (by decide) ?_
        refine tt_iload_n C 3 dX8_fits_119 rfl rfl ?_
        refine tt_goto (tgt := 135) C dX8_fits_120 (by decide) ?_
        refine tt_sub [] (L2 := []) rfl ?_
        exact wX8_fits_J135 C hr x3 m3
      · refine tt_if_neT (tgt := 123) C h4 dX8_fits_116 (by decide) ?_
        refine tt_iload_n C 1 dX8_fits_123 rfl rfl ?_
        refine tt_iconst (v := (1 : Int32)) C dX8_fits_124 (by decide) ?_
        refine tt_if (fun h5 => ?_) (fun h5 => ?_)
        · refine tt_icmp_neF C 133 h5 dX8_fits_125 (by decide) ?_
          refine tt_iload C 4 dX8_fits_128 rfl ?_
          refine tt_goto (tgt := 135) C dX8_fits_130 (by decide) ?_
          refine tt_sub [] (L2 := []) rfl ?_
          exact wX8_fits_J135 C hr x4 m3
        · refine tt_icmp_neT (tgt := 133) C h5 dX8_fits_125 (by decide) ?_
          refine tt_iload C 5 dX8_fits_133 rfl ?_
          refine tt_sub [] (L2 := []) rfl ?_
          exact wX8_fits_J135 C hr x5 m3
    · refine tt_icmp_geF C 107 h2 dX8_fits_39 (by decide) ?_
      refine tt_aload_n C 0 dX8_fits_42 rfl rfl ?_
      refine tt_bipush (v := (25 : Int32)) C dX8_fits_43 (by decide) ?_
      refine tt_iload C 6 dX8_fits_45 rfl ?_
      refine tt_bi (fun v6 m5 h6 => ?_)
      refine tt_callV (st := []) (As := [.int (25 : Int32), .int x6]) C (kX8_laysCode C.2.2.2.2.2.2.2.1 h6) mi_X8_laysCode ml_RX8_268 mv_X8_laysCode ms_X8_laysCode (q := (RX8, TX8, 45)) dM_0 rfl rfl (by decide) (by decide) (Nat.le_of_ble_eq_true rfl) dX8_fits_47 ?_
      refine tt_if (fun h7 => ?_) (fun h7 => ?_)
      · refine tt_if_eqT (tgt := 101) C h7 dX8_fits_50 (by decide) ?_
        refine tt_sub [0, 1, 2, 3, 4, 5, 6] (L2 := [(0, .ref (ad 0)), (1, .int x1), (2, .int x2), (3, .int x3), (4, .int x4), (5, .int x5), (6, .int x6)]) rfl ?_
        exact wX8_fits_J101 C hr (fun x1 x2 x3 x4 x5 x6 μ => fX8_fits_L33 fu x1 x2 x3 x4 x5 x6 μ) (fun x1 x2 x3 x4 x5 x6 μ => ih x1 x2 x3 x4 x5 x6 μ) x1 x2 x3 x4 x5 x6 m5
      · refine tt_if_eqF C 101 h7 dX8_fits_50 (by decide) ?_
        refine tt_aload_n C 0 dX8_fits_53 rfl rfl ?_
        refine tt_bi (fun v8 m7 h8 => ?_)
        refine tt_callV (st := []) (As := []) C (kX8_isAsSeen C.2.2.2.2.2.2.2.1 h8) mi_X8_isAsSeen ml_RX8_296 mv_X8_isAsSeen ms_X8_isAsSeen (q := (RX8, TX8, 45)) dM_0 rfl rfl (by decide) (by decide) (Nat.le_of_ble_eq_true rfl) dX8_fits_54 ?_
        refine tt_if (fun h9 => ?_) (fun h9 => ?_)
        · refine tt_if_eqT (tgt := 101) C h9 dX8_fits_57 (by decide) ?_
          refine tt_sub [0, 1, 2, 3, 4, 5, 6] (L2 := [(0, .ref (ad 0)), (1, .int x1), (2, .int x2), (3, .int x3), (4, .int x4), (5, .int x5), (6, .int x6)]) rfl ?_
          exact wX8_fits_J101 C hr (fun x1 x2 x3 x4 x5 x6 μ => fX8_fits_L33 fu x1 x2 x3 x4 x5 x6 μ) (fun x1 x2 x3 x4 x5 x6 μ => ih x1 x2 x3 x4 x5 x6 μ) x1 x2 x3 x4 x5 x6 m7
        · refine tt_if_eqF C 101 h9 dX8_fits_57 (by decide) ?_
          refine tt_iload_n C 3 dX8_fits_60 rfl rfl ?_
          refine tt_if (fun h10 => ?_) (fun h10 => ?_)
          · refine tt_if_neF C 69 h10 dX8_fits_61 (by decide) ?_
            refine tt_iload C 6 dX8_fits_64 rfl ?_
            refine tt_goto (tgt := 71) C dX8_fits_66 (by decide) ?_
            refine tt_sub [0, 1, 2, 3, 5, 6] (L2 := [(0, .ref (ad 0)), (1, .int x1), (2, .int x2), (3, .int x3), (5, .int x5), (6, .int x6)]) rfl ?_
            exact wX8_fits_J71 C hr (fun x1 x2 x3 x4 x5 x6 μ => fX8_fits_L33 fu x1 x2 x3 x4 x5 x6 μ) (fun x1 x2 x3 x4 x5 x6 μ => ih x1 x2 x3 x4 x5 x6 μ) x1 x2 x3 x5 x6 x6 m7
          · refine tt_if_neT (tgt := 69) C h10 dX8_fits_61 (by decide) ?_
            refine tt_iload C 4 dX8_fits_69 rfl ?_
            refine tt_sub [0, 1, 2, 3, 5, 6] (L2 := [(0, .ref (ad 0)), (1, .int x1), (2, .int x2), (3, .int x3), (5, .int x5), (6, .int x6)]) rfl ?_
            exact wX8_fits_J71 C hr (fun x1 x2 x3 x4 x5 x6 μ => fX8_fits_L33 fu x1 x2 x3 x4 x5 x6 μ) (fun x1 x2 x3 x4 x5 x6 μ => ih x1 x2 x3 x4 x5 x6 μ) x1 x2 x3 x5 x6 x4 m7

def fX8_fits (x1 : Int32) (μ : Mem) : Option (Int32 × Mem) := bi (fX8_in x1.toInt64 (0 : Int64) (2 : Int64) μ) fun v2 m1 => if v2 = (0 : Int32) then (some ((-1 : Int32), m1)) else (bi (fX8_codeOf (25 : Int32) m1) fun v4 m3 => lb (0 : Int32) fun (y5 : Int32) => lb (-4 : Int32) fun (y6 : Int32) => lb (0 : Int32) fun (y7 : Int32) => lb (0 : Int32) fun (y8 : Int32) => fX8_fits_L33 FU x1 v4 y5 y6 y7 y8 m3)
set_option maxHeartbeats 4000000 in
set_option maxRecDepth 100000 in
theorem wX8_fits {p : Program} {l : Launch} {e : Env} {s : State} {m : MethodId} {args : Array Value} {below : List Frame} {meth : Method} {c : Code} {A : Nat → Prop} {D : va_G} {ad : Nat → Nat} {cA : Nat → ClassId} (C : Cx p s m args meth c cX8_fits RX8 7 A dsM D ad cA EM) (hr : meth.sig.returnType = some .int) (x1 : Int32) (μ : Mem) : T p l e (rmD 5) s m args below meth c 7 A dsM D ad cA enI (fX8_fits x1 μ) 0 [(0, .ref (ad 0)), (1, .int x1)] [] μ := by
  unfold fX8_fits
  refine tt_iload_n C 1 dX8_fits_0 rfl rfl ?_
  refine tt_i2l C dX8_fits_1 ?_
  refine tt_lconst (v := (0 : Int64)) C dX8_fits_2 (by decide) ?_
  refine tt_ldc2 (v := (2 : Int64)) C kL_RX8_251 dX8_fits_3 ?_
  refine tt_bi (fun v2 m1 h1 => ?_)
  refine tt_callS (st := []) (As := [.long x1.toInt64, .long (0 : Int64), .long (2 : Int64)]) C (kX8_in C.2.2.2.2.2.2.2.1 h1) mi_X8_in ml_RX8_70 mt_X8_in rfl (by decide) (by decide) (Nat.le_of_ble_eq_true rfl) dX8_fits_6 ?_
  refine tt_if (fun h2 => ?_) (fun h2 => ?_)
  · refine tt_if_neF C 14 h2 dX8_fits_9 (by decide) ?_
    refine tt_iconst (v := (-1 : Int32)) C dX8_fits_12 (by decide) ?_
    exact tt_iret rfl C hr dX8_fits_13
  · refine tt_if_neT (tgt := 14) C h2 dX8_fits_9 (by decide) ?_
    refine tt_aload_n C 0 dX8_fits_14 rfl rfl ?_
    refine tt_bipush (v := (25 : Int32)) C dX8_fits_15 (by decide) ?_
    refine tt_bi (fun v4 m3 h3 => ?_)
    refine tt_callV (st := []) (As := [.int (25 : Int32)]) C (kX8_codeOf C.2.2.2.2.2.2.2.1 h3) mi_X8_codeOf ml_RX8_179 mv_X8_codeOf ms_X8_codeOf (q := (RX8, TX8, 45)) dM_0 rfl rfl (by decide) (by decide) (Nat.le_of_ble_eq_true rfl) dX8_fits_17 ?_
    refine tt_istore_n (L2 := [(2, .int v4), (0, .ref (ad 0)), (1, .int x1)]) C dX8_fits_20 rfl (by decide) rfl ?_
    refine tt_iconst (v := (0 : Int32)) C dX8_fits_21 (by decide) ?_
    refine tt_lbi (fun y5 => ?_)
    refine tt_istore_n (L2 := [(3, .int y5), (2, .int v4), (0, .ref (ad 0)), (1, .int x1)]) C dX8_fits_22 rfl (by decide) rfl ?_
    refine tt_bipush (v := (-4 : Int32)) C dX8_fits_23 (by decide) ?_
    refine tt_lbi (fun y6 => ?_)
    refine tt_istore (L2 := [(4, .int y6), (3, .int y5), (2, .int v4), (0, .ref (ad 0)), (1, .int x1)]) C dX8_fits_25 (by decide) rfl ?_
    refine tt_iconst (v := (0 : Int32)) C dX8_fits_27 (by decide) ?_
    refine tt_lbi (fun y7 => ?_)
    refine tt_istore (L2 := [(5, .int y7), (4, .int y6), (3, .int y5), (2, .int v4), (0, .ref (ad 0)), (1, .int x1)]) C dX8_fits_28 (by decide) rfl ?_
    refine tt_iconst (v := (0 : Int32)) C dX8_fits_30 (by decide) ?_
    refine tt_lbi (fun y8 => ?_)
    refine tt_istore (L2 := [(6, .int y8), (5, .int y7), (4, .int y6), (3, .int y5), (2, .int v4), (0, .ref (ad 0)), (1, .int x1)]) C dX8_fits_31 (by decide) rfl ?_
    refine tt_sub [5, 6, 4, 3, 2, 1, 0] (L2 := [(0, .ref (ad 0)), (1, .int x1), (2, .int v4), (3, .int y5), (4, .int y6), (5, .int y7), (6, .int y8)]) rfl ?_
    exact wX8_fits_L33 C hr FU x1 v4 y5 y6 y7 y8 m3
theorem kX8_fits {l : Launch} {A : Nat → Prop} {D : va_G} {ad : Nat → Nat} {cA : Nat → ClassId} (hPk : Pk A dsM ad cA EM) {x1 : Int32} {μ : Mem} {v : Int32} {ν : Mem} (h : fX8_fits x1 μ = some (v, ν)) : Ct l A dsM D ad cA EM yX8_fits cX8_fits 7 (some .int) 5 [.ref (ad 0), .int x1] μ (enI (v, ν)) :=
  ct_of (by decide) (Nat.le_of_ble_eq_true rfl) hPk rfl (fun p e s m args below meth c C hr => wX8_fits C hr x1 μ) h

/-! BasketRoundModel.forget(I)I -/
def fX8_forget (x1 : Int32) (μ : Mem) : Option (Int32 × Mem) := bi (fX8_in x1.toInt64 (0 : Int64) ((μ 0 39).toInt64) μ) fun v2 m1 => if v2 = (0 : Int32) then (some ((-1 : Int32), m1)) else (lb (m1 0 39) fun (y3 : Int32) => lb (wr m1 0 39 x1) fun m4 => some (y3, m4))
set_option maxHeartbeats 4000000 in
set_option maxRecDepth 100000 in
theorem wX8_forget {p : Program} {l : Launch} {e : Env} {s : State} {m : MethodId} {args : Array Value} {below : List Frame} {meth : Method} {c : Code} {A : Nat → Prop} {D : va_G} {ad : Nat → Nat} {cA : Nat → ClassId} (C : Cx p s m args meth c cX8_forget RX8 3 A dsM D ad cA EM) (hr : meth.sig.returnType = some .int) (x1 : Int32) (μ : Mem) : T p l e (rmD 1) s m args below meth c 3 A dsM D ad cA enI (fX8_forget x1 μ) 0 [(0, .ref (ad 0)), (1, .int x1)] [] μ := by
  unfold fX8_forget
  refine tt_iload_n C 1 dX8_forget_0 rfl rfl ?_
  refine tt_i2l C dX8_forget_1 ?_
  refine tt_lconst (v := (0 : Int64)) C dX8_forget_2 (by decide) ?_
  refine tt_aload_n C 0 dX8_forget_3 rfl rfl ?_
  refine tt_getI C (j := 39) dM_0 rfl fl_RX8_170 dX8_forget_4 ?_
  refine tt_i2l C dX8_forget_7 ?_
  refine tt_bi (fun v2 m1 h1 => ?_)
  refine tt_callS (st := []) (As := [.long x1.toInt64, .long (0 : Int64), .long ((μ 0 39).toInt64)]) C (kX8_in C.2.2.2.2.2.2.2.1 h1) mi_X8_in ml_RX8_70 mt_X8_in rfl (by decide) (by decide) (Nat.le_of_ble_eq_true rfl) dX8_forget_8 ?_
  refine tt_if (fun h2 => ?_) (fun h2 => ?_)
  · refine tt_if_neF C 16 h2 dX8_forget_11 (by decide) ?_
    refine tt_iconst (v := (-1 : Int32)) C dX8_forget_14 (by decide) ?_
    exact tt_iret rfl C hr dX8_forget_15
  · refine tt_if_neT (tgt := 16) C h2 dX8_forget_11 (by decide) ?_
    refine tt_aload_n C 0 dX8_forget_16 rfl rfl ?_
    refine tt_getI C (j := 39) dM_0 rfl fl_RX8_170 dX8_forget_17 ?_
    refine tt_lbi (fun y3 => ?_)
    refine tt_istore_n (L2 := [(2, .int y3), (0, .ref (ad 0)), (1, .int x1)]) C dX8_forget_20 rfl (by decide) rfl ?_
    refine tt_aload_n C 1 dX8_forget_21 rfl rfl ?_
    refine tt_iload_n C 2 dX8_forget_22 rfl rfl ?_
    refine tt_putI C (j := 39) dM_0 rfl fl_RX8_170 fw_8_39 dX8_forget_23 ?_
    refine tt_lbm (fun m4 => ?_)
    refine tt_iload_n C 0 dX8_forget_26 rfl rfl ?_
    exact tt_iret rfl C hr dX8_forget_27
theorem kX8_forget {l : Launch} {A : Nat → Prop} {D : va_G} {ad : Nat → Nat} {cA : Nat → ClassId} (hPk : Pk A dsM ad cA EM) {x1 : Int32} {μ : Mem} {v : Int32} {ν : Mem} (h : fX8_forget x1 μ = some (v, ν)) : Ct l A dsM D ad cA EM yX8_forget cX8_forget 3 (some .int) 1 [.ref (ad 0), .int x1] μ (enI (v, ν)) :=
  ct_of (by decide) (Nat.le_of_ble_eq_true rfl) hPk rfl (fun p e s m args below meth c C hr => wX8_forget C hr x1 μ) h

