/-! BasketRound.see(II)I -/
def fX7_see_J19 (μ : Mem) : Option (Int32 × Mem) := some ((-1 : Int32), μ)
set_option maxHeartbeats 4000000 in
set_option maxRecDepth 100000 in
theorem wX7_see_J19 {p : Program} {l : Launch} {e : Env} {s : State} {m : MethodId} {args : Array Value} {below : List Frame} {meth : Method} {c : Code} {A : Nat → Prop} {D : va_G} {ad : Nat → Nat} {cA : Nat → ClassId} (C : Cx p s m args meth c cX7_see RX7 3 A dsX D ad cA (EX A ad)) (hr : meth.sig.returnType = some .int) (μ : Mem) : T p l e (rmD 2) s m args below meth c 3 A dsX D ad cA enI (fX7_see_J19 μ) 19 [] [] μ := by
  unfold fX7_see_J19
  refine tt_iconst (v := (-1 : Int32)) C dX7_see_19 (by decide) ?_
  exact tt_iret rfl C hr dX7_see_20

def fX7_see (x1 : Int32) (x2 : Int32) (μ : Mem) : Option (Int32 × Mem) := bi (fX7_isOrder x1 μ) fun v2 m1 => if v2 = (0 : Int32) then (fX7_see_J19 m1) else (bi (fX7_within x2 (0 : Int32) (199 : Int32) m1) fun v4 m3 => if v4 = (0 : Int32) then (fX7_see_J19 m3) else (if (m3 31 2) < (6 : Int32) then (bv (fX2_add x1 x2 m3) fun m5 => some ((m5 31 2), m5)) else (some ((-3 : Int32), m3))))
set_option maxHeartbeats 4000000 in
set_option maxRecDepth 100000 in
theorem wX7_see {p : Program} {l : Launch} {e : Env} {s : State} {m : MethodId} {args : Array Value} {below : List Frame} {meth : Method} {c : Code} {A : Nat → Prop} {D : va_G} {ad : Nat → Nat} {cA : Nat → ClassId} (C : Cx p s m args meth c cX7_see RX7 3 A dsX D ad cA (EX A ad)) (hr : meth.sig.returnType = some .int) (x1 : Int32) (x2 : Int32) (μ : Mem) : T p l e (rmD 2) s m args below meth c 3 A dsX D ad cA enI (fX7_see x1 x2 μ) 0 [(0, .ref (ad 0)), (1, .int x1), (2, .int x2)] [] μ := by
  unfold fX7_see
  refine tt_aload_n C 0 dX7_see_0 rfl rfl ?_
  refine tt_iload_n C 1 dX7_see_1 rfl rfl ?_
  refine tt_bi (fun v2 m1 h1 => ?_)
  refine tt_callV (st := []) (As := [.int x1]) C (kX7_isOrder C.2.2.2.2.2.2.2.1 h1) mi_X7_isOrder ml_RX7_137 mv_X7_isOrder ms_X7_isOrder (q := (RX7, TX7, 11)) dX_0 rfl rfl (by decide) (by decide) (Nat.le_of_ble_eq_true rfl) dX7_see_2 ?_
  refine tt_if (fun h2 => ?_) (fun h2 => ?_)
  · refine tt_if_eqT (tgt := 19) C h2 dX7_see_5 (by decide) ?_
    refine tt_sub [] (L2 := []) rfl ?_
    exact wX7_see_J19 C hr m1
  · refine tt_if_eqF C 19 h2 dX7_see_5 (by decide) ?_
    refine tt_iload_n C 2 dX7_see_8 rfl rfl ?_
    refine tt_iconst (v := (0 : Int32)) C dX7_see_9 (by decide) ?_
    refine tt_sipush (v := (199 : Int32)) C dX7_see_10 (by decide) ?_
    refine tt_bi (fun v4 m3 h3 => ?_)
    refine tt_callS (st := []) (As := [.int x2, .int (0 : Int32), .int (199 : Int32)]) C (kX7_within C.2.2.2.2.2.2.2.1 h3) mi_X7_within ml_RX7_70 mt_X7_within rfl (by decide) (by decide) (Nat.le_of_ble_eq_true rfl) dX7_see_13 ?_
    refine tt_if (fun h4 => ?_) (fun h4 => ?_)
    · refine tt_if_neF C 21 h4 dX7_see_16 (by decide) ?_
      refine tt_sub [] (L2 := []) rfl ?_
      exact wX7_see_J19 C hr m3
    · refine tt_if_neT (tgt := 21) C h4 dX7_see_16 (by decide) ?_
      refine tt_aload_n C 0 dX7_see_21 rfl rfl ?_
      refine tt_getR C (j := 5) (r0 := 31) dX_0 rfl fl_RX7_51 dX7_see_22 ?_
      refine tt_getI C (j := 2) dX_31 rfl fl_RX7_100 dX7_see_25 ?_
      refine tt_bipush (v := (6 : Int32)) C dX7_see_28 (by decide) ?_
      refine tt_if (fun h5 => ?_) (fun h5 => ?_)
      · refine tt_icmp_ltT (tgt := 36) C h5 dX7_see_30 (by decide) ?_
        refine tt_aload_n C 0 dX7_see_36 rfl rfl ?_
        refine tt_getR C (j := 5) (r0 := 31) dX_0 rfl fl_RX7_51 dX7_see_37 ?_
        refine tt_iload_n C 1 dX7_see_40 rfl rfl ?_
        refine tt_iload_n C 2 dX7_see_41 rfl rfl ?_
        refine tt_bv (fun m5 h6 => ?_)
        refine tt_callV (st := []) (As := [.int x1, .int x2]) C (kX2_add C.2.2.2.2.2.2.2.1 h6) mi_X2_add ml_RX7_275 mv_X2_add ms_X2_add (q := (RX2, TX2, 3)) dX_31 rfl rfl (by decide) (by decide) (Nat.le_of_ble_eq_true rfl) dX7_see_42 ?_
        refine tt_aload_n C 0 dX7_see_45 rfl rfl ?_
        refine tt_getR C (j := 5) (r0 := 31) dX_0 rfl fl_RX7_51 dX7_see_46 ?_
        refine tt_getI C (j := 2) dX_31 rfl fl_RX7_100 dX7_see_49 ?_
        exact tt_iret rfl C hr dX7_see_52
      · refine tt_icmp_ltF C 36 h5 dX7_see_30 (by decide) ?_
        refine tt_bipush (v := (-3 : Int32)) C dX7_see_33 (by decide) ?_
        exact tt_iret rfl C hr dX7_see_35
theorem kX7_see {l : Launch} {A : Nat → Prop} {D : va_G} {ad : Nat → Nat} {cA : Nat → ClassId} (hPk : Pk A dsX ad cA (EX A ad)) {x1 : Int32} {x2 : Int32} {μ : Mem} {v : Int32} {ν : Mem} (h : fX7_see x1 x2 μ = some (v, ν)) : Ct l A dsX D ad cA (EX A ad) yX7_see cX7_see 3 (some .int) 2 [.ref (ad 0), .int x1, .int x2] μ (enI (v, ν)) :=
  ct_of (by decide) (Nat.le_of_ble_eq_true rfl) hPk rfl (fun p e s m args below meth c C hr => wX7_see C hr x1 x2 μ) h

/-! BasketRound.set(II)I -/
def fX7_set_J75 (x3 : Int32) (μ : Mem) : Option (Int32 × Mem) := some (x3, μ)
set_option maxHeartbeats 4000000 in
set_option maxRecDepth 100000 in
theorem wX7_set_J75 {p : Program} {l : Launch} {e : Env} {s : State} {m : MethodId} {args : Array Value} {below : List Frame} {meth : Method} {c : Code} {A : Nat → Prop} {D : va_G} {ad : Nat → Nat} {cA : Nat → ClassId} (C : Cx p s m args meth c cX7_set RX7 4 A dsX D ad cA (EX A ad)) (hr : meth.sig.returnType = some .int) (x3 : Int32) (μ : Mem) : T p l e (rmD 1) s m args below meth c 4 A dsX D ad cA enI (fX7_set_J75 x3 μ) 75 [(3, .int x3)] [] μ := by
  unfold fX7_set_J75
  refine tt_iload_n C 0 dX7_set_75 rfl rfl ?_
  exact tt_iret rfl C hr dX7_set_76

def fX7_set_J51 (x1 : Int32) (x2 : Int32) (z0 : Int32) (μ : Mem) : Option (Int32 × Mem) := if x1 = (0 : Int32) then (lb (wr μ 3 6 x2) fun m2 => fX7_set_J75 z0 m2) else (lb (wr μ 3 7 x2) fun m1 => fX7_set_J75 z0 m1)
set_option maxHeartbeats 4000000 in
set_option maxRecDepth 100000 in
theorem wX7_set_J51 {p : Program} {l : Launch} {e : Env} {s : State} {m : MethodId} {args : Array Value} {below : List Frame} {meth : Method} {c : Code} {A : Nat → Prop} {D : va_G} {ad : Nat → Nat} {cA : Nat → ClassId} (C : Cx p s m args meth c cX7_set RX7 4 A dsX D ad cA (EX A ad)) (hr : meth.sig.returnType = some .int) (x1 : Int32) (x2 : Int32) (z0 : Int32) (μ : Mem) : T p l e (rmD 1) s m args below meth c 4 A dsX D ad cA enI (fX7_set_J51 x1 x2 z0 μ) 51 [(0, .ref (ad 0)), (1, .int x1), (2, .int x2)] [.int z0] μ := by
  unfold fX7_set_J51
  refine tt_istore_n (L2 := [(3, .int z0), (0, .ref (ad 0)), (1, .int x1), (2, .int x2)]) C dX7_set_51 rfl (by decide) rfl ?_
  refine tt_iload_n C 2 dX7_set_52 rfl rfl ?_
  refine tt_if (fun h1 => ?_) (fun h1 => ?_)
  · refine tt_if_neF C 67 h1 dX7_set_53 (by decide) ?_
    refine tt_aload_n C 1 dX7_set_56 rfl rfl ?_
    refine tt_getR C (j := 1) (r0 := 3) dX_0 rfl fl_RX7_19 dX7_set_57 ?_
    refine tt_iload_n C 3 dX7_set_60 rfl rfl ?_
    refine tt_putI C (j := 6) dX_3 rfl fl_RX7_112 fw_4_6 dX7_set_61 ?_
    refine tt_lbm (fun m2 => ?_)
    refine tt_goto (tgt := 75) C dX7_set_64 (by decide) ?_
    refine tt_sub [0] (L2 := [(3, .int z0)]) rfl ?_
    exact wX7_set_J75 C hr z0 m2
  · refine tt_if_neT (tgt := 67) C h1 dX7_set_53 (by decide) ?_
    refine tt_aload_n C 1 dX7_set_67 rfl rfl ?_
    refine tt_getR C (j := 1) (r0 := 3) dX_0 rfl fl_RX7_19 dX7_set_68 ?_
    refine tt_iload_n C 3 dX7_set_71 rfl rfl ?_
    refine tt_putI C (j := 7) dX_3 rfl fl_RX7_115 fw_4_7 dX7_set_72 ?_
    refine tt_lbm (fun m1 => ?_)
    refine tt_sub [0] (L2 := [(3, .int z0)]) rfl ?_
    exact wX7_set_J75 C hr z0 m1

def fX7_set_J28 (μ : Mem) : Option (Int32 × Mem) := some ((-1 : Int32), μ)
set_option maxHeartbeats 4000000 in
set_option maxRecDepth 100000 in
theorem wX7_set_J28 {p : Program} {l : Launch} {e : Env} {s : State} {m : MethodId} {args : Array Value} {below : List Frame} {meth : Method} {c : Code} {A : Nat → Prop} {D : va_G} {ad : Nat → Nat} {cA : Nat → ClassId} (C : Cx p s m args meth c cX7_set RX7 4 A dsX D ad cA (EX A ad)) (hr : meth.sig.returnType = some .int) (μ : Mem) : T p l e (rmD 1) s m args below meth c 4 A dsX D ad cA enI (fX7_set_J28 μ) 28 [] [] μ := by
  unfold fX7_set_J28
  refine tt_iconst (v := (-1 : Int32)) C dX7_set_28 (by decide) ?_
  exact tt_iret rfl C hr dX7_set_29

def fX7_set_J22 (x1 : Int32) (x2 : Int32) (z0 : Int32) (z1 : Int32) (z2 : Int32) (μ : Mem) : Option (Int32 × Mem) := bi (fX7_within z0 z1 z2 μ) fun v2 m1 => if v2 = (0 : Int32) then (fX7_set_J28 m1) else (if x1 = (0 : Int32) then (fX7_set_J51 x1 x2 (m1 3 6) m1) else (fX7_set_J51 x1 x2 (m1 3 7) m1))
set_option maxHeartbeats 4000000 in
set_option maxRecDepth 100000 in
theorem wX7_set_J22 {p : Program} {l : Launch} {e : Env} {s : State} {m : MethodId} {args : Array Value} {below : List Frame} {meth : Method} {c : Code} {A : Nat → Prop} {D : va_G} {ad : Nat → Nat} {cA : Nat → ClassId} (C : Cx p s m args meth c cX7_set RX7 4 A dsX D ad cA (EX A ad)) (hr : meth.sig.returnType = some .int) (x1 : Int32) (x2 : Int32) (z0 : Int32) (z1 : Int32) (z2 : Int32) (μ : Mem) : T p l e (rmD 1) s m args below meth c 4 A dsX D ad cA enI (fX7_set_J22 x1 x2 z0 z1 z2 μ) 22 [(0, .ref (ad 0)), (1, .int x1), (2, .int x2)] [.int z2, .int z1, .int z0] μ := by
  unfold fX7_set_J22
  refine tt_bi (fun v2 m1 h1 => ?_)
  refine tt_callS (st := []) (As := [.int z0, .int z1, .int z2]) C (kX7_within C.2.2.2.2.2.2.2.1 h1) mi_X7_within ml_RX7_70 mt_X7_within rfl (by decide) (by decide) (Nat.le_of_ble_eq_true rfl) dX7_set_22 ?_
  refine tt_if (fun h2 => ?_) (fun h2 => ?_)
  · refine tt_if_neF C 30 h2 dX7_set_25 (by decide) ?_
    refine tt_sub [] (L2 := []) rfl ?_
    exact wX7_set_J28 C hr m1
  · refine tt_if_neT (tgt := 30) C h2 dX7_set_25 (by decide) ?_
    refine tt_iload_n C 1 dX7_set_30 rfl rfl ?_
    refine tt_if (fun h3 => ?_) (fun h3 => ?_)
    · refine tt_if_neF C 44 h3 dX7_set_31 (by decide) ?_
      refine tt_aload_n C 0 dX7_set_34 rfl rfl ?_
      refine tt_getR C (j := 1) (r0 := 3) dX_0 rfl fl_RX7_19 dX7_set_35 ?_
      refine tt_getI C (j := 6) dX_3 rfl fl_RX7_112 dX7_set_38 ?_
      refine tt_goto (tgt := 51) C dX7_set_41 (by decide) ?_
      refine tt_sub [0, 1, 2] (L2 := [(0, .ref (ad 0)), (1, .int x1), (2, .int x2)]) rfl ?_
      exact wX7_set_J51 C hr x1 x2 (m1 3 6) m1
    · refine tt_if_neT (tgt := 44) C h3 dX7_set_31 (by decide) ?_
      refine tt_aload_n C 0 dX7_set_44 rfl rfl ?_
      refine tt_getR C (j := 1) (r0 := 3) dX_0 rfl fl_RX7_19 dX7_set_45 ?_
      refine tt_getI C (j := 7) dX_3 rfl fl_RX7_115 dX7_set_48 ?_
      refine tt_sub [0, 1, 2] (L2 := [(0, .ref (ad 0)), (1, .int x1), (2, .int x2)]) rfl ?_
      exact wX7_set_J51 C hr x1 x2 (m1 3 7) m1

def fX7_set (x1 : Int32) (x2 : Int32) (μ : Mem) : Option (Int32 × Mem) := bi (fX7_within x1 (0 : Int32) (1 : Int32) μ) fun v2 m1 => if v2 = (0 : Int32) then (fX7_set_J28 m1) else (if x1 = (0 : Int32) then (fX7_set_J22 x1 x2 x2 (0 : Int32) (60 : Int32) m1) else (fX7_set_J22 x1 x2 x2 (0 : Int32) (60 : Int32) m1))
set_option maxHeartbeats 4000000 in
set_option maxRecDepth 100000 in
theorem wX7_set {p : Program} {l : Launch} {e : Env} {s : State} {m : MethodId} {args : Array Value} {below : List Frame} {meth : Method} {c : Code} {A : Nat → Prop} {D : va_G} {ad : Nat → Nat} {cA : Nat → ClassId} (C : Cx p s m args meth c cX7_set RX7 4 A dsX D ad cA (EX A ad)) (hr : meth.sig.returnType = some .int) (x1 : Int32) (x2 : Int32) (μ : Mem) : T p l e (rmD 1) s m args below meth c 4 A dsX D ad cA enI (fX7_set x1 x2 μ) 0 [(0, .ref (ad 0)), (1, .int x1), (2, .int x2)] [] μ := by
  unfold fX7_set
  refine tt_iload_n C 1 dX7_set_0 rfl rfl ?_
  refine tt_iconst (v := (0 : Int32)) C dX7_set_1 (by decide) ?_
  refine tt_iconst (v := (1 : Int32)) C dX7_set_2 (by decide) ?_
  refine tt_bi (fun v2 m1 h1 => ?_)
  refine tt_callS (st := []) (As := [.int x1, .int (0 : Int32), .int (1 : Int32)]) C (kX7_within C.2.2.2.2.2.2.2.1 h1) mi_X7_within ml_RX7_70 mt_X7_within rfl (by decide) (by decide) (Nat.le_of_ble_eq_true rfl) dX7_set_3 ?_
  refine tt_if (fun h2 => ?_) (fun h2 => ?_)
  · refine tt_if_eqT (tgt := 28) C h2 dX7_set_6 (by decide) ?_
    refine tt_sub [] (L2 := []) rfl ?_
    exact wX7_set_J28 C hr m1
  · refine tt_if_eqF C 28 h2 dX7_set_6 (by decide) ?_
    refine tt_iload_n C 2 dX7_set_9 rfl rfl ?_
    refine tt_iconst (v := (0 : Int32)) C dX7_set_10 (by decide) ?_
    refine tt_iload_n C 1 dX7_set_11 rfl rfl ?_
    refine tt_if (fun h3 => ?_) (fun h3 => ?_)
    · refine tt_if_neF C 20 h3 dX7_set_12 (by decide) ?_
      refine tt_bipush (v := (60 : Int32)) C dX7_set_15 (by decide) ?_
      refine tt_goto (tgt := 22) C dX7_set_17 (by decide) ?_
      refine tt_sub [0, 1, 2] (L2 := [(0, .ref (ad 0)), (1, .int x1), (2, .int x2)]) rfl ?_
      exact wX7_set_J22 C hr x1 x2 x2 (0 : Int32) (60 : Int32) m1
    · refine tt_if_neT (tgt := 20) C h3 dX7_set_12 (by decide) ?_
      refine tt_bipush (v := (60 : Int32)) C dX7_set_20 (by decide) ?_
      refine tt_sub [0, 1, 2] (L2 := [(0, .ref (ad 0)), (1, .int x1), (2, .int x2)]) rfl ?_
      exact wX7_set_J22 C hr x1 x2 x2 (0 : Int32) (60 : Int32) m1
theorem kX7_set {l : Launch} {A : Nat → Prop} {D : va_G} {ad : Nat → Nat} {cA : Nat → ClassId} (hPk : Pk A dsX ad cA (EX A ad)) {x1 : Int32} {x2 : Int32} {μ : Mem} {v : Int32} {ν : Mem} (h : fX7_set x1 x2 μ = some (v, ν)) : Ct l A dsX D ad cA (EX A ad) yX7_set cX7_set 4 (some .int) 1 [.ref (ad 0), .int x1, .int x2] μ (enI (v, ν)) :=
  ct_of (by decide) (Nat.le_of_ble_eq_true rfl) hPk rfl (fun p e s m args below meth c C hr => wX7_set C hr x1 x2 μ) h

/-! BasketRound.sheet(III)I -/
def fX7_sheet_J24 (μ : Mem) : Option (Int32 × Mem) := some ((-1 : Int32), μ)
set_option maxHeartbeats 4000000 in
set_option maxRecDepth 100000 in
theorem wX7_sheet_J24 {p : Program} {l : Launch} {e : Env} {s : State} {m : MethodId} {args : Array Value} {below : List Frame} {meth : Method} {c : Code} {A : Nat → Prop} {D : va_G} {ad : Nat → Nat} {cA : Nat → ClassId} (C : Cx p s m args meth c cX7_sheet RX7 4 A dsX D ad cA (EX A ad)) (hr : meth.sig.returnType = some .int) (μ : Mem) : T p l e (rmD 2) s m args below meth c 4 A dsX D ad cA enI (fX7_sheet_J24 μ) 24 [] [] μ := by
  unfold fX7_sheet_J24
  refine tt_iconst (v := (-1 : Int32)) C dX7_sheet_24 (by decide) ?_
  exact tt_iret rfl C hr dX7_sheet_25

def fX7_sheet (x1 : Int32) (x2 : Int32) (x3 : Int32) (μ : Mem) : Option (Int32 × Mem) := bi (fX7_within x1 (0 : Int32) (3 : Int32) μ) fun v2 m1 => if v2 = (0 : Int32) then (fX7_sheet_J24 m1) else (bi (fX7_within x2 (0 : Int32) (2 : Int32) m1) fun v4 m3 => if v4 = (0 : Int32) then (fX7_sheet_J24 m3) else (if x3 ≤ (40 : Int32) then (if (0 : Int32) ≤ x3 then (bv (fX3_renew x1 x2 x3 m3) fun m5 => some ((1 : Int32), m5)) else (some ((-14 : Int32), m3))) else (fX7_sheet_J24 m3)))
set_option maxHeartbeats 4000000 in
set_option maxRecDepth 100000 in
theorem wX7_sheet {p : Program} {l : Launch} {e : Env} {s : State} {m : MethodId} {args : Array Value} {below : List Frame} {meth : Method} {c : Code} {A : Nat → Prop} {D : va_G} {ad : Nat → Nat} {cA : Nat → ClassId} (C : Cx p s m args meth c cX7_sheet RX7 4 A dsX D ad cA (EX A ad)) (hr : meth.sig.returnType = some .int) (x1 : Int32) (x2 : Int32) (x3 : Int32) (μ : Mem) : T p l e (rmD 2) s m args below meth c 4 A dsX D ad cA enI (fX7_sheet x1 x2 x3 μ) 0 [(0, .ref (ad 0)), (1, .int x1), (2, .int x2), (3, .int x3)] [] μ := by
  unfold fX7_sheet
  refine tt_iload_n C 1 dX7_sheet_0 rfl rfl ?_
  refine tt_iconst (v := (0 : Int32)) C dX7_sheet_1 (by decide) ?_
  refine tt_iconst (v := (3 : Int32)) C dX7_sheet_2 (by decide) ?_
  refine tt_bi (fun v2 m1 h1 => ?_)
  refine tt_callS (st := []) (As := [.int x1, .int (0 : Int32), .int (3 : Int32)]) C (kX7_within C.2.2.2.2.2.2.2.1 h1) mi_X7_within ml_RX7_70 mt_X7_within rfl (by decide) (by decide) (Nat.le_of_ble_eq_true rfl) dX7_sheet_3 ?_
  refine tt_if (fun h2 => ?_) (fun h2 => ?_)
  · refine tt_if_eqT (tgt := 24) C h2 dX7_sheet_6 (by decide) ?_
    refine tt_sub [] (L2 := []) rfl ?_
    exact wX7_sheet_J24 C hr m1
  · refine tt_if_eqF C 24 h2 dX7_sheet_6 (by decide) ?_
    refine tt_iload_n C 2 dX7_sheet_9 rfl rfl ?_
    refine tt_iconst (v := (0 : Int32)) C dX7_sheet_10 (by decide) ?_
    refine tt_iconst (v := (2 : Int32)) C dX7_sheet_11 (by decide) ?_
    refine tt_bi (fun v4 m3 h3 => ?_)
    refine tt_callS (st := []) (As := [.int x2, .int (0 : Int32), .int (2 : Int32)]) C (kX7_within C.2.2.2.2.2.2.2.1 h3) mi_X7_within ml_RX7_70 mt_X7_within rfl (by decide) (by decide) (Nat.le_of_ble_eq_true rfl) dX7_sheet_12 ?_
    refine tt_if (fun h4 => ?_) (fun h4 => ?_)
    · refine tt_if_eqT (tgt := 24) C h4 dX7_sheet_15 (by decide) ?_
      refine tt_sub [] (L2 := []) rfl ?_
      exact wX7_sheet_J24 C hr m3
    · refine tt_if_eqF C 24 h4 dX7_sheet_15 (by decide) ?_
      refine tt_iload_n C 3 dX7_sheet_18 rfl rfl ?_
      refine tt_bipush (v := (40 : Int32)) C dX7_sheet_19 (by decide) ?_
      refine tt_if (fun h5 => ?_) (fun h5 => ?_)
      · refine tt_icmp_leT (tgt := 26) C h5 dX7_sheet_21 (by decide) ?_
        refine tt_iload_n C 3 dX7_sheet_26 rfl rfl ?_
        refine tt_if (fun h6 => ?_) (fun h6 => ?_)
        · refine tt_if_geT (tgt := 33) C h6 dX7_sheet_27 (by decide) ?_
          refine tt_aload_n C 0 dX7_sheet_33 rfl rfl ?_
          refine tt_getR C (j := 8) (r0 := 36) dX_0 rfl fl_RX7_66 dX7_sheet_34 ?_
          refine tt_iload_n C 1 dX7_sheet_37 rfl rfl ?_
          refine tt_iload_n C 2 dX7_sheet_38 rfl rfl ?_
          refine tt_iload_n C 3 dX7_sheet_39 rfl rfl ?_
          refine tt_bv (fun m5 h7 => ?_)
          refine tt_callV (st := []) (As := [.int x1, .int x2, .int x3]) C (kX3_renew C.2.2.2.2.2.2.2.1 h7) mi_X3_renew ml_RX7_295 mv_X3_renew ms_X3_renew (q := (RX3, TX3, 3)) dX_36 rfl rfl (by decide) (by decide) (Nat.le_of_ble_eq_true rfl) dX7_sheet_40 ?_
          refine tt_iconst (v := (1 : Int32)) C dX7_sheet_43 (by decide) ?_
          exact tt_iret rfl C hr dX7_sheet_44
        · refine tt_if_geF C 33 h6 dX7_sheet_27 (by decide) ?_
          refine tt_bipush (v := (-14 : Int32)) C dX7_sheet_30 (by decide) ?_
          exact tt_iret rfl C hr dX7_sheet_32
      · refine tt_icmp_leF C 26 h5 dX7_sheet_21 (by decide) ?_
        refine tt_sub [] (L2 := []) rfl ?_
        exact wX7_sheet_J24 C hr m3
theorem kX7_sheet {l : Launch} {A : Nat → Prop} {D : va_G} {ad : Nat → Nat} {cA : Nat → ClassId} (hPk : Pk A dsX ad cA (EX A ad)) {x1 : Int32} {x2 : Int32} {x3 : Int32} {μ : Mem} {v : Int32} {ν : Mem} (h : fX7_sheet x1 x2 x3 μ = some (v, ν)) : Ct l A dsX D ad cA (EX A ad) yX7_sheet cX7_sheet 4 (some .int) 2 [.ref (ad 0), .int x1, .int x2, .int x3] μ (enI (v, ν)) :=
  ct_of (by decide) (Nat.le_of_ble_eq_true rfl) hPk rfl (fun p e s m args below meth c C hr => wX7_sheet C hr x1 x2 x3 μ) h

/-! BasketRound.soonest(I)I -/
def fX7_soonest_J124 (z0 : Int32) (μ : Mem) : Option (Int32 × Mem) := some (z0, μ)
set_option maxHeartbeats 4000000 in
set_option maxRecDepth 100000 in
theorem wX7_soonest_J124 {p : Program} {l : Launch} {e : Env} {s : State} {m : MethodId} {args : Array Value} {below : List Frame} {meth : Method} {c : Code} {A : Nat → Prop} {D : va_G} {ad : Nat → Nat} {cA : Nat → ClassId} (C : Cx p s m args meth c cX7_soonest RX7 7 A dsX D ad cA (EX A ad)) (hr : meth.sig.returnType = some .int) (z0 : Int32) (μ : Mem) : T p l e (rmD 3) s m args below meth c 7 A dsX D ad cA enI (fX7_soonest_J124 z0 μ) 124 [] [.int z0] μ := by
  unfold fX7_soonest_J124
  exact tt_iret rfl C hr dX7_soonest_124

def fX7_soonest_J96 (k37 : Int32 → Int32 → Int32 → Int32 → Int32 → Int32 → Mem → Option (Int32 × Mem)) (x1 : Int32) (x2 : Int32) (x3 : Int32) (x4 : Int32) (x5 : Int32) (x6 : Int32) (μ : Mem) : Option (Int32 × Mem) := bv (fX7_toNextArrangement 25 x2 μ) fun m1 => lb (x6 + (1 : Int32)) fun (y2 : Int32) => k37 x1 x2 x3 x4 x5 y2 m1
set_option maxHeartbeats 4000000 in
set_option maxRecDepth 100000 in
theorem wX7_soonest_J96 {p : Program} {l : Launch} {e : Env} {s : State} {m : MethodId} {args : Array Value} {below : List Frame} {meth : Method} {c : Code} {A : Nat → Prop} {D : va_G} {ad : Nat → Nat} {cA : Nat → ClassId} (C : Cx p s m args meth c cX7_soonest RX7 7 A dsX D ad cA (EX A ad)) (hr : meth.sig.returnType = some .int) (k37 : Int32 → Int32 → Int32 → Int32 → Int32 → Int32 → Mem → Option (Int32 × Mem)) (hk37 : ∀ (x1 : Int32) (x2 : Int32) (x3 : Int32) (x4 : Int32) (x5 : Int32) (x6 : Int32) (μ : Mem), T p l e (rmD 3) s m args below meth c 7 A dsX D ad cA enI (k37 x1 x2 x3 x4 x5 x6 μ) 37 [(0, .ref (ad 0)), (1, .int x1), (2, .int x2), (3, .int x3), (4, .int x4), (5, .int x5), (6, .int x6)] [] μ) (x1 : Int32) (x2 : Int32) (x3 : Int32) (x4 : Int32) (x5 : Int32) (x6 : Int32) (μ : Mem) : T p l e (rmD 3) s m args below meth c 7 A dsX D ad cA enI (fX7_soonest_J96 k37 x1 x2 x3 x4 x5 x6 μ) 96 [(0, .ref (ad 0)), (1, .int x1), (2, .int x2), (3, .int x3), (4, .int x4), (5, .int x5), (6, .int x6)] [] μ := by
  unfold fX7_soonest_J96
  refine tt_aload_n C 0 dX7_soonest_96 rfl rfl ?_
  refine tt_getR C (j := 3) (r0 := 24) dX_0 rfl fl_RX7_37 dX7_soonest_97 ?_
  refine tt_getR C (j := 1) (r0 := 25) dX_24 rfl fl_RX7_227 dX7_soonest_100 ?_
  refine tt_iload_n C 2 dX7_soonest_103 rfl rfl ?_
  refine tt_bv (fun m1 h1 => ?_)
  refine tt_callS (st := []) (As := [.ref (ad 25), .int x2]) C (kX7_toNextArrangement C.2.2.2.2.2.2.2.1 25 dX_25 h1) mi_X7_toNextArrangement ml_RX7_230 mt_X7_toNextArrangement rfl (by decide) (by decide) (Nat.le_of_ble_eq_true rfl) dX7_soonest_104 ?_
  refine tt_iincB (d := (1 : Int32)) C 6 (fun y2 => [(6, .int y2), (0, .ref (ad 0)), (1, .int x1), (2, .int x2), (3, .int x3), (4, .int x4), (5, .int x5)]) dX7_soonest_107 rfl (by decide) (by decide) (fun _ => rfl) (fun y2 => ?_)
  refine tt_goto (tgt := 37) C dX7_soonest_110 (by decide) ?_
  refine tt_sub [1, 2, 3, 4, 5, 6, 0] (L2 := [(0, .ref (ad 0)), (1, .int x1), (2, .int x2), (3, .int x3), (4, .int x4), (5, .int x5), (6, .int y2)]) rfl ?_
  exact hk37 x1 x2 x3 x4 x5 y2 m1

def fX7_soonest_J74 (k37 : Int32 → Int32 → Int32 → Int32 → Int32 → Int32 → Mem → Option (Int32 × Mem)) (x1 : Int32) (x2 : Int32) (x3 : Int32) (x6 : Int32) (μ : Mem) : Option (Int32 × Mem) := lb (μ 24 13) fun (y1 : Int32) => bi (fX7_numberOf 25 x2 μ) fun v3 m2 => fX7_soonest_J96 k37 x1 x2 x3 y1 v3 x6 m2
set_option maxHeartbeats 4000000 in
set_option maxRecDepth 100000 in
theorem wX7_soonest_J74 {p : Program} {l : Launch} {e : Env} {s : State} {m : MethodId} {args : Array Value} {below : List Frame} {meth : Method} {c : Code} {A : Nat → Prop} {D : va_G} {ad : Nat → Nat} {cA : Nat → ClassId} (C : Cx p s m args meth c cX7_soonest RX7 7 A dsX D ad cA (EX A ad)) (hr : meth.sig.returnType = some .int) (k37 : Int32 → Int32 → Int32 → Int32 → Int32 → Int32 → Mem → Option (Int32 × Mem)) (hk37 : ∀ (x1 : Int32) (x2 : Int32) (x3 : Int32) (x4 : Int32) (x5 : Int32) (x6 : Int32) (μ : Mem), T p l e (rmD 3) s m args below meth c 7 A dsX D ad cA enI (k37 x1 x2 x3 x4 x5 x6 μ) 37 [(0, .ref (ad 0)), (1, .int x1), (2, .int x2), (3, .int x3), (4, .int x4), (5, .int x5), (6, .int x6)] [] μ) (x1 : Int32) (x2 : Int32) (x3 : Int32) (x6 : Int32) (μ : Mem) : T p l e (rmD 3) s m args below meth c 7 A dsX D ad cA enI (fX7_soonest_J74 k37 x1 x2 x3 x6 μ) 74 [(0, .ref (ad 0)), (1, .int x1), (2, .int x2), (3, .int x3), (6, .int x6)] [] μ := by
  unfold fX7_soonest_J74
  refine tt_aload_n C 0 dX7_soonest_74 rfl rfl ?_
  refine tt_getR C (j := 3) (r0 := 24) dX_0 rfl fl_RX7_37 dX7_soonest_75 ?_
  refine tt_getI C (j := 13) dX_24 rfl fl_RX7_168 dX7_soonest_78 ?_
  refine tt_lbi (fun y1 => ?_)
  refine tt_istore (L2 := [(4, .int y1), (0, .ref (ad 0)), (1, .int x1), (2, .int x2), (3, .int x3), (6, .int x6)]) C dX7_soonest_81 (by decide) rfl ?_
  refine tt_aload_n C 1 dX7_soonest_83 rfl rfl ?_
  refine tt_getR C (j := 3) (r0 := 24) dX_0 rfl fl_RX7_37 dX7_soonest_84 ?_
  refine tt_getR C (j := 1) (r0 := 25) dX_24 rfl fl_RX7_227 dX7_soonest_87 ?_
  refine tt_iload_n C 3 dX7_soonest_90 rfl rfl ?_
  refine tt_bi (fun v3 m2 h1 => ?_)
  refine tt_callS (st := []) (As := [.ref (ad 25), .int x2]) C (kX7_numberOf C.2.2.2.2.2.2.2.1 25 dX_25 h1) mi_X7_numberOf ml_RX7_122 mt_X7_numberOf rfl (by decide) (by decide) (Nat.le_of_ble_eq_true rfl) dX7_soonest_91 ?_
  refine tt_istore (L2 := [(5, .int v3), (4, .int y1), (0, .ref (ad 0)), (1, .int x1), (2, .int x2), (3, .int x3), (6, .int x6)]) C dX7_soonest_94 (by decide) rfl ?_
  refine tt_sub [2, 3, 4, 5, 1, 0, 6] (L2 := [(0, .ref (ad 0)), (1, .int x1), (2, .int x2), (3, .int x3), (4, .int y1), (5, .int v3), (6, .int x6)]) rfl ?_
  exact wX7_soonest_J96 C hr k37 hk37 x1 x2 x3 y1 v3 x6 m2

def fX7_soonest_L37 : Nat → Int32 → Int32 → Int32 → Int32 → Int32 → Int32 → Mem → Option (Int32 × Mem)
  | 0, _, _, _, _, _, _, _ => none
  | fu + 1, x1, x2, x3, x4, x5, x6, μ => if x3 ≤ x6 then (if x1 = (0 : Int32) then (fX7_soonest_J124 x4 μ) else (fX7_soonest_J124 x5 μ)) else (bv (fX6_ride μ) fun m1 => bv (fX6_finish m1) fun m2 => if x6 = (0 : Int32) then (fX7_soonest_J74 (fun x1 x2 x3 x4 x5 x6 μ => fX7_soonest_L37 fu x1 x2 x3 x4 x5 x6 μ) x1 x2 x3 x6 m2) else (if x4 ≤ (m2 24 13) then (fX7_soonest_J96 (fun x1 x2 x3 x4 x5 x6 μ => fX7_soonest_L37 fu x1 x2 x3 x4 x5 x6 μ) x1 x2 x3 x4 x5 x6 m2) else (fX7_soonest_J74 (fun x1 x2 x3 x4 x5 x6 μ => fX7_soonest_L37 fu x1 x2 x3 x4 x5 x6 μ) x1 x2 x3 x6 m2)))
set_option maxHeartbeats 4000000 in
set_option maxRecDepth 100000 in
theorem wX7_soonest_L37 {p : Program} {l : Launch} {e : Env} {s : State} {m : MethodId} {args : Array Value} {below : List Frame} {meth : Method} {c : Code} {A : Nat → Prop} {D : va_G} {ad : Nat → Nat} {cA : Nat → ClassId} (C : Cx p s m args meth c cX7_soonest RX7 7 A dsX D ad cA (EX A ad)) (hr : meth.sig.returnType = some .int) : ∀ (fu : Nat) (x1 : Int32) (x2 : Int32) (x3 : Int32) (x4 : Int32) (x5 : Int32) (x6 : Int32) (μ : Mem), T p l e (rmD 3) s m args below meth c 7 A dsX D ad cA enI (fX7_soonest_L37 fu x1 x2 x3 x4 x5 x6 μ) 37 [(0, .ref (ad 0)), (1, .int x1), (2, .int x2), (3, .int x3), (4, .int x4), (5, .int x5), (6, .int x6)] [] μ
  | 0, _, _, _, _, _, _, _ => tt_none
  | fu + 1, x1, x2, x3, x4, x5, x6, μ => by
    have ih := fun (x1 : Int32) (x2 : Int32) (x3 : Int32) (x4 : Int32) (x5 : Int32) (x6 : Int32) (μ : Mem) => wX7_soonest_L37 (l := l) (e := e) (below := below) C hr fu x1 x2 x3 x4 x5 x6 μ
    show T p l e (rmD 3) s m args below meth c 7 A dsX D ad cA enI (if x3 ≤ x6 then (if x1 = (0 : Int32) then (fX7_soonest_J124 x4 μ) else (fX7_soonest_J124 x5 μ)) else (bv (fX6_ride μ) fun m1 => bv (fX6_finish m1) fun m2 => if x6 = (0 : Int32) then (fX7_soonest_J74 (fun x1 x2 x3 x4 x5 x6 μ => fX7_soonest_L37 fu x1 x2 x3 x4 x5 x6 μ) x1 x2 x3 x6 m2) else (if x4 ≤ (m2 24 13) then (fX7_soonest_J96 (fun x1 x2 x3 x4 x5 x6 μ => fX7_soonest_L37 fu x1 x2 x3 x4 x5 x6 μ) x1 x2 x3 x4 x5 x6 m2) else (fX7_soonest_J74 (fun x1 x2 x3 x4 x5 x6 μ => fX7_soonest_L37 fu x1 x2 x3 x4 x5 x6 μ) x1 x2 x3 x6 m2)))) 37 [(0, .ref (ad 0)), (1, .int x1), (2, .int x2), (3, .int x3), (4, .int x4), (5, .int x5), (6, .int x6)] [] μ
    refine tt_iload C 6 dX7_soonest_37 rfl ?_
    refine tt_iload_n C 3 dX7_soonest_39 rfl rfl ?_
    refine tt_if (fun h1 => ?_) (fun h1 => ?_)
    · refine tt_icmp_geT (tgt := 113) C h1 dX7_soonest_40 (by decide) ?_
      refine tt_iload_n C 1 dX7_soonest_113 rfl rfl ?_
      refine tt_if (fun h2 => ?_) (fun h2 => ?_)
      · refine tt_if_neF C 122 h2 dX7_soonest_114 (by decide) ?_
        refine tt_iload C 4 dX7_soonest_117 rfl ?_
        refine tt_goto (tgt := 124) C dX7_soonest_119 (by decide) ?_
        refine tt_sub [] (L2 := []) rfl ?_
        exact wX7_soonest_J124 C hr x4 μ
      · refine tt_if_neT (tgt := 122) C h2 dX7_soonest_114 (by decide) ?_
        refine tt_iload C 5 dX7_soonest_122 rfl ?_
        refine tt_sub [] (L2 := []) rfl ?_
        exact wX7_soonest_J124 C hr x5 μ
    · refine tt_icmp_geF C 113 h1 dX7_soonest_40 (by decide) ?_
      refine tt_aload_n C 0 dX7_soonest_43 rfl rfl ?_
      refine tt_getR C (j := 3) (r0 := 24) dX_0 rfl fl_RX7_37 dX7_soonest_44 ?_
      refine tt_bv (fun m1 h3 => ?_)
      refine tt_callV (st := []) (As := []) C (kX6_ride C.2.2.2.2.2.2.2.1 h3) mi_X6_ride ml_RX7_212 mv_X6_ride ms_X6_ride (q := (RX6, TX6, 17)) dX_24 rfl rfl (by decide) (by decide) (Nat.le_of_ble_eq_true rfl) dX7_soonest_47 ?_
      refine tt_aload_n C 0 dX7_soonest_50 rfl rfl ?_
      refine tt_getR C (j := 3) (r0 := 24) dX_0 rfl fl_RX7_37 dX7_soonest_51 ?_
      refine tt_bv (fun m2 h4 => ?_)
      refine tt_callV (st := []) (As := []) C (kX6_finish C.2.2.2.2.2.2.2.1 h4) mi_X6_finish ml_RX7_224 mv_X6_finish ms_X6_finish (q := (RX6, TX6, 17)) dX_24 rfl rfl (by decide) (by decide) (Nat.le_of_ble_eq_true rfl) dX7_soonest_54 ?_
      refine tt_iload C 6 dX7_soonest_57 rfl ?_
      refine tt_if (fun h5 => ?_) (fun h5 => ?_)
      · refine tt_if_eqT (tgt := 74) C h5 dX7_soonest_59 (by decide) ?_
        refine tt_sub [0, 1, 2, 3, 6] (L2 := [(0, .ref (ad 0)), (1, .int x1), (2, .int x2), (3, .int x3), (6, .int x6)]) rfl ?_
        exact wX7_soonest_J74 C hr (fun x1 x2 x3 x4 x5 x6 μ => fX7_soonest_L37 fu x1 x2 x3 x4 x5 x6 μ) (fun x1 x2 x3 x4 x5 x6 μ => ih x1 x2 x3 x4 x5 x6 μ) x1 x2 x3 x6 m2
      · refine tt_if_eqF C 74 h5 dX7_soonest_59 (by decide) ?_
        refine tt_aload_n C 0 dX7_soonest_62 rfl rfl ?_
        refine tt_getR C (j := 3) (r0 := 24) dX_0 rfl fl_RX7_37 dX7_soonest_63 ?_
        refine tt_getI C (j := 13) dX_24 rfl fl_RX7_168 dX7_soonest_66 ?_
        refine tt_iload C 4 dX7_soonest_69 rfl ?_
        refine tt_if (fun h6 => ?_) (fun h6 => ?_)
        · refine tt_icmp_geT (tgt := 96) C h6 dX7_soonest_71 (by decide) ?_
          refine tt_sub [0, 1, 2, 3, 4, 5, 6] (L2 := [(0, .ref (ad 0)), (1, .int x1), (2, .int x2), (3, .int x3), (4, .int x4), (5, .int x5), (6, .int x6)]) rfl ?_
          exact wX7_soonest_J96 C hr (fun x1 x2 x3 x4 x5 x6 μ => fX7_soonest_L37 fu x1 x2 x3 x4 x5 x6 μ) (fun x1 x2 x3 x4 x5 x6 μ => ih x1 x2 x3 x4 x5 x6 μ) x1 x2 x3 x4 x5 x6 m2
        · refine tt_icmp_geF C 96 h6 dX7_soonest_71 (by decide) ?_
          refine tt_sub [0, 1, 2, 3, 6] (L2 := [(0, .ref (ad 0)), (1, .int x1), (2, .int x2), (3, .int x3), (6, .int x6)]) rfl ?_
          exact wX7_soonest_J74 C hr (fun x1 x2 x3 x4 x5 x6 μ => fX7_soonest_L37 fu x1 x2 x3 x4 x5 x6 μ) (fun x1 x2 x3 x4 x5 x6 μ => ih x1 x2 x3 x4 x5 x6 μ) x1 x2 x3 x6 m2

def fX7_soonest (x1 : Int32) (μ : Mem) : Option (Int32 × Mem) := bi (fX7_within x1 (0 : Int32) (1 : Int32) μ) fun v2 m1 => if v2 = (0 : Int32) then (some ((-1 : Int32), m1)) else (lb (m1 3 5) fun (y3 : Int32) => bi (fX7_arrangements y3 m1) fun v5 m4 => lb (0 : Int32) fun (y6 : Int32) => lb (0 : Int32) fun (y7 : Int32) => bv (fX7_takeRoundsFromFirst m4) fun m8 => lb (0 : Int32) fun (y9 : Int32) => fX7_soonest_L37 FU x1 y3 v5 y6 y7 y9 m8)
set_option maxHeartbeats 4000000 in
set_option maxRecDepth 100000 in
theorem wX7_soonest {p : Program} {l : Launch} {e : Env} {s : State} {m : MethodId} {args : Array Value} {below : List Frame} {meth : Method} {c : Code} {A : Nat → Prop} {D : va_G} {ad : Nat → Nat} {cA : Nat → ClassId} (C : Cx p s m args meth c cX7_soonest RX7 7 A dsX D ad cA (EX A ad)) (hr : meth.sig.returnType = some .int) (x1 : Int32) (μ : Mem) : T p l e (rmD 3) s m args below meth c 7 A dsX D ad cA enI (fX7_soonest x1 μ) 0 [(0, .ref (ad 0)), (1, .int x1)] [] μ := by
  unfold fX7_soonest
  refine tt_iload_n C 1 dX7_soonest_0 rfl rfl ?_
  refine tt_iconst (v := (0 : Int32)) C dX7_soonest_1 (by decide) ?_
  refine tt_iconst (v := (1 : Int32)) C dX7_soonest_2 (by decide) ?_
  refine tt_bi (fun v2 m1 h1 => ?_)
  refine tt_callS (st := []) (As := [.int x1, .int (0 : Int32), .int (1 : Int32)]) C (kX7_within C.2.2.2.2.2.2.2.1 h1) mi_X7_within ml_RX7_70 mt_X7_within rfl (by decide) (by decide) (Nat.le_of_ble_eq_true rfl) dX7_soonest_3 ?_
  refine tt_if (fun h2 => ?_) (fun h2 => ?_)
  · refine tt_if_neF C 11 h2 dX7_soonest_6 (by decide) ?_
    refine tt_iconst (v := (-1 : Int32)) C dX7_soonest_9 (by decide) ?_
    exact tt_iret rfl C hr dX7_soonest_10
  · refine tt_if_neT (tgt := 11) C h2 dX7_soonest_6 (by decide) ?_
    refine tt_aload_n C 0 dX7_soonest_11 rfl rfl ?_
    refine tt_getR C (j := 1) (r0 := 3) dX_0 rfl fl_RX7_19 dX7_soonest_12 ?_
    refine tt_getI C (j := 5) dX_3 rfl fl_RX7_109 dX7_soonest_15 ?_
    refine tt_lbi (fun y3 => ?_)
    refine tt_istore_n (L2 := [(2, .int y3), (0, .ref (ad 0)), (1, .int x1)]) C dX7_soonest_18 rfl (by decide) rfl ?_
    refine tt_iload_n C 0 dX7_soonest_19 rfl rfl ?_
    refine tt_bi (fun v5 m4 h3 => ?_)
    refine tt_callS (st := []) (As := [.int y3]) C (kX7_arrangements C.2.2.2.2.2.2.2.1 h3) mi_X7_arrangements ml_RX7_218 mt_X7_arrangements rfl (by decide) (by decide) (Nat.le_of_ble_eq_true rfl) dX7_soonest_20 ?_
    refine tt_istore_n (L2 := [(3, .int v5), (2, .int y3), (0, .ref (ad 0)), (1, .int x1)]) C dX7_soonest_23 rfl (by decide) rfl ?_
    refine tt_iconst (v := (0 : Int32)) C dX7_soonest_24 (by decide) ?_
    refine tt_lbi (fun y6 => ?_)
    refine tt_istore (L2 := [(4, .int y6), (3, .int v5), (2, .int y3), (0, .ref (ad 0)), (1, .int x1)]) C dX7_soonest_25 (by decide) rfl ?_
    refine tt_iconst (v := (0 : Int32)) C dX7_soonest_27 (by decide) ?_
    refine tt_lbi (fun y7 => ?_)
    refine tt_istore (L2 := [(5, .int y7), (4, .int y6), (3, .int v5), (2, .int y3), (0, .ref (ad 0)), (1, .int x1)]) C dX7_soonest_28 (by decide) rfl ?_
    refine tt_aload_n C 4 dX7_soonest_30 rfl rfl ?_
    refine tt_bv (fun m8 h4 => ?_)
    refine tt_callV (st := []) (As := []) C (kX7_takeRoundsFromFirst C.2.2.2.2.2.2.2.1 h4) mi_X7_takeRoundsFromFirst ml_RX7_221 mv_X7_takeRoundsFromFirst ms_X7_takeRoundsFromFirst (q := (RX7, TX7, 11)) dX_0 rfl rfl (by decide) (by decide) (Nat.le_of_ble_eq_true rfl) dX7_soonest_31 ?_
    refine tt_iconst (v := (0 : Int32)) C dX7_soonest_34 (by decide) ?_
    refine tt_lbi (fun y9 => ?_)
    refine tt_istore (L2 := [(6, .int y9), (5, .int y7), (4, .int y6), (3, .int v5), (2, .int y3), (0, .ref (ad 0)), (1, .int x1)]) C dX7_soonest_35 (by decide) rfl ?_
    refine tt_sub [5, 6, 4, 3, 2, 1, 0] (L2 := [(0, .ref (ad 0)), (1, .int x1), (2, .int y3), (3, .int v5), (4, .int y6), (5, .int y7), (6, .int y9)]) rfl ?_
    exact wX7_soonest_L37 C hr FU x1 y3 v5 y6 y7 y9 m8
theorem kX7_soonest {l : Launch} {A : Nat → Prop} {D : va_G} {ad : Nat → Nat} {cA : Nat → ClassId} (hPk : Pk A dsX ad cA (EX A ad)) {x1 : Int32} {μ : Mem} {v : Int32} {ν : Mem} (h : fX7_soonest x1 μ = some (v, ν)) : Ct l A dsX D ad cA (EX A ad) yX7_soonest cX7_soonest 7 (some .int) 3 [.ref (ad 0), .int x1] μ (enI (v, ν)) :=
  ct_of (by decide) (Nat.le_of_ble_eq_true rfl) hPk rfl (fun p e s m args below meth c C hr => wX7_soonest C hr x1 μ) h

/-! BasketRound.spent(I)I -/
def fX7_spent (x1 : Int32) (μ : Mem) : Option (Int32 × Mem) := bi (fX7_within x1 (0 : Int32) (2 : Int32) μ) fun v2 m1 => if v2 = (0 : Int32) then (some ((-1 : Int32), m1)) else (bv (fX7_goRound m1) fun m3 => if x1 = (0 : Int32) then (some ((m3 24 12), m3)) else (if x1 = (1 : Int32) then (some ((m3 24 10), m3)) else (some ((m3 24 11), m3))))
set_option maxHeartbeats 4000000 in
set_option maxRecDepth 100000 in
theorem wX7_spent {p : Program} {l : Launch} {e : Env} {s : State} {m : MethodId} {args : Array Value} {below : List Frame} {meth : Method} {c : Code} {A : Nat → Prop} {D : va_G} {ad : Nat → Nat} {cA : Nat → ClassId} (C : Cx p s m args meth c cX7_spent RX7 2 A dsX D ad cA (EX A ad)) (hr : meth.sig.returnType = some .int) (x1 : Int32) (μ : Mem) : T p l e (rmD 5) s m args below meth c 2 A dsX D ad cA enI (fX7_spent x1 μ) 0 [(0, .ref (ad 0)), (1, .int x1)] [] μ := by
  unfold fX7_spent
  refine tt_iload_n C 1 dX7_spent_0 rfl rfl ?_
  refine tt_iconst (v := (0 : Int32)) C dX7_spent_1 (by decide) ?_
  refine tt_iconst (v := (2 : Int32)) C dX7_spent_2 (by decide) ?_
  refine tt_bi (fun v2 m1 h1 => ?_)
  refine tt_callS (st := []) (As := [.int x1, .int (0 : Int32), .int (2 : Int32)]) C (kX7_within C.2.2.2.2.2.2.2.1 h1) mi_X7_within ml_RX7_70 mt_X7_within rfl (by decide) (by decide) (Nat.le_of_ble_eq_true rfl) dX7_spent_3 ?_
  refine tt_if (fun h2 => ?_) (fun h2 => ?_)
  · refine tt_if_neF C 11 h2 dX7_spent_6 (by decide) ?_
    refine tt_iconst (v := (-1 : Int32)) C dX7_spent_9 (by decide) ?_
    exact tt_iret rfl C hr dX7_spent_10
  · refine tt_if_neT (tgt := 11) C h2 dX7_spent_6 (by decide) ?_
    refine tt_aload_n C 0 dX7_spent_11 rfl rfl ?_
    refine tt_bv (fun m3 h3 => ?_)
    refine tt_callV (st := []) (As := []) C (kX7_goRound C.2.2.2.2.2.2.2.1 h3) mi_X7_goRound ml_RX7_162 mv_X7_goRound ms_X7_goRound (q := (RX7, TX7, 11)) dX_0 rfl rfl (by decide) (by decide) (Nat.le_of_ble_eq_true rfl) dX7_spent_12 ?_
    refine tt_iload_n C 1 dX7_spent_15 rfl rfl ?_
    refine tt_if (fun h4 => ?_) (fun h4 => ?_)
    · refine tt_look (off := 28) (tgt := 44) C dX7_spent_16 (by decide) (by rw [h4]; decide) (by decide) ?_
      refine tt_aload_n C 0 dX7_spent_44 rfl rfl ?_
      refine tt_getR C (j := 3) (r0 := 24) dX_0 rfl fl_RX7_37 dX7_spent_45 ?_
      refine tt_getI C (j := 12) dX_24 rfl fl_RX7_180 dX7_spent_48 ?_
      exact tt_iret rfl C hr dX7_spent_51
    · skip
      refine tt_if (fun h5 => ?_) (fun h5 => ?_)
      · refine tt_look (off := 36) (tgt := 52) C dX7_spent_16 (by decide) (by rw [h5]; decide) (by decide) ?_
        refine tt_aload_n C 0 dX7_spent_52 rfl rfl ?_
        refine tt_getR C (j := 3) (r0 := 24) dX_0 rfl fl_RX7_37 dX7_spent_53 ?_
        refine tt_getI C (j := 10) dX_24 rfl fl_RX7_183 dX7_spent_56 ?_
        exact tt_iret rfl C hr dX7_spent_59
      · skip
        refine tt_look (off := 44) (tgt := 60) C dX7_spent_16 (by decide) (by show Op.lookupswitch.offset [(0, 28), (1, 36)] 44 _ = _; rw [lv_osw h4 (show (0 : Int32).toInt = 0 by decide), lv_osw h5 (show (1 : Int32).toInt = 1 by decide)]; rfl) (by decide) ?_
        refine tt_aload_n C 0 dX7_spent_60 rfl rfl ?_
        refine tt_getR C (j := 3) (r0 := 24) dX_0 rfl fl_RX7_37 dX7_spent_61 ?_
        refine tt_getI C (j := 11) dX_24 rfl fl_RX7_186 dX7_spent_64 ?_
        exact tt_iret rfl C hr dX7_spent_67
theorem kX7_spent {l : Launch} {A : Nat → Prop} {D : va_G} {ad : Nat → Nat} {cA : Nat → ClassId} (hPk : Pk A dsX ad cA (EX A ad)) {x1 : Int32} {μ : Mem} {v : Int32} {ν : Mem} (h : fX7_spent x1 μ = some (v, ν)) : Ct l A dsX D ad cA (EX A ad) yX7_spent cX7_spent 2 (some .int) 5 [.ref (ad 0), .int x1] μ (enI (v, ν)) :=
  ct_of (by decide) (Nat.le_of_ble_eq_true rfl) hPk rfl (fun p e s m args below meth c C hr => wX7_spent C hr x1 μ) h

/-! BasketRound.split(I)I -/
def fX7_split_J74 (k25 : Int32 → Int32 → Int32 → Mem → Option (Int32 × Mem)) (x1 : Int32) (x2 : Int32) (x3 : Int32) (μ : Mem) : Option (Int32 × Mem) := lb (x3 + (1 : Int32)) fun (y1 : Int32) => k25 x1 x2 y1 μ
set_option maxHeartbeats 4000000 in
set_option maxRecDepth 100000 in
theorem wX7_split_J74 {p : Program} {l : Launch} {e : Env} {s : State} {m : MethodId} {args : Array Value} {below : List Frame} {meth : Method} {c : Code} {A : Nat → Prop} {D : va_G} {ad : Nat → Nat} {cA : Nat → ClassId} (C : Cx p s m args meth c cX7_split RX7 5 A dsX D ad cA (EX A ad)) (hr : meth.sig.returnType = some .int) (k25 : Int32 → Int32 → Int32 → Mem → Option (Int32 × Mem)) (hk25 : ∀ (x1 : Int32) (x2 : Int32) (x3 : Int32) (μ : Mem), T p l e (rmD 5) s m args below meth c 5 A dsX D ad cA enI (k25 x1 x2 x3 μ) 25 [(0, .ref (ad 0)), (1, .int x1), (2, .int x2), (3, .int x3)] [] μ) (x1 : Int32) (x2 : Int32) (x3 : Int32) (μ : Mem) : T p l e (rmD 5) s m args below meth c 5 A dsX D ad cA enI (fX7_split_J74 k25 x1 x2 x3 μ) 74 [(0, .ref (ad 0)), (1, .int x1), (2, .int x2), (3, .int x3)] [] μ := by
  unfold fX7_split_J74
  refine tt_iincB (d := (1 : Int32)) C 3 (fun y1 => [(3, .int y1), (0, .ref (ad 0)), (1, .int x1), (2, .int x2)]) dX7_split_74 rfl (by decide) (by decide) (fun _ => rfl) (fun y1 => ?_)
  refine tt_goto (tgt := 25) C dX7_split_77 (by decide) ?_
  refine tt_sub [1, 2, 3, 0] (L2 := [(0, .ref (ad 0)), (1, .int x1), (2, .int x2), (3, .int y1)]) rfl ?_
  exact hk25 x1 x2 y1 μ

def fX7_split_L25 : Nat → Int32 → Int32 → Int32 → Mem → Option (Int32 × Mem)
  | 0, _, _, _, _ => none
  | fu + 1, x1, x2, x3, μ => if x2 < x3 then (if x1 = (0 : Int32) then (some ((μ 30 4), μ)) else (if x1 = (1 : Int32) then (some ((μ 30 1), μ)) else (some ((μ 30 2), μ)))) else (bi (fX7_goTwice x3 μ) fun v2 m1 => bi (fX0_isBeatenBy v2 (m1 24 13) m1) fun v4 m3 => if v4 = (0 : Int32) then (fX7_split_J74 (fun x1 x2 x3 μ => fX7_split_L25 fu x1 x2 x3 μ) x1 x2 x3 m3) else (bv (fX0_become v2 (m3 24 13) (0 : Int32) x3 m3) fun m5 => fX7_split_J74 (fun x1 x2 x3 μ => fX7_split_L25 fu x1 x2 x3 μ) x1 x2 x3 m5))
set_option maxHeartbeats 4000000 in
set_option maxRecDepth 100000 in
theorem wX7_split_L25 {p : Program} {l : Launch} {e : Env} {s : State} {m : MethodId} {args : Array Value} {below : List Frame} {meth : Method} {c : Code} {A : Nat → Prop} {D : va_G} {ad : Nat → Nat} {cA : Nat → ClassId} (C : Cx p s m args meth c cX7_split RX7 5 A dsX D ad cA (EX A ad)) (hr : meth.sig.returnType = some .int) : ∀ (fu : Nat) (x1 : Int32) (x2 : Int32) (x3 : Int32) (μ : Mem), T p l e (rmD 5) s m args below meth c 5 A dsX D ad cA enI (fX7_split_L25 fu x1 x2 x3 μ) 25 [(0, .ref (ad 0)), (1, .int x1), (2, .int x2), (3, .int x3)] [] μ
  | 0, _, _, _, _ => tt_none
  | fu + 1, x1, x2, x3, μ => by
    have ih := fun (x1 : Int32) (x2 : Int32) (x3 : Int32) (μ : Mem) => wX7_split_L25 (l := l) (e := e) (below := below) C hr fu x1 x2 x3 μ
    show T p l e (rmD 5) s m args below meth c 5 A dsX D ad cA enI (if x2 < x3 then (if x1 = (0 : Int32) then (some ((μ 30 4), μ)) else (if x1 = (1 : Int32) then (some ((μ 30 1), μ)) else (some ((μ 30 2), μ)))) else (bi (fX7_goTwice x3 μ) fun v2 m1 => bi (fX0_isBeatenBy v2 (m1 24 13) m1) fun v4 m3 => if v4 = (0 : Int32) then (fX7_split_J74 (fun x1 x2 x3 μ => fX7_split_L25 fu x1 x2 x3 μ) x1 x2 x3 m3) else (bv (fX0_become v2 (m3 24 13) (0 : Int32) x3 m3) fun m5 => fX7_split_J74 (fun x1 x2 x3 μ => fX7_split_L25 fu x1 x2 x3 μ) x1 x2 x3 m5))) 25 [(0, .ref (ad 0)), (1, .int x1), (2, .int x2), (3, .int x3)] [] μ
    refine tt_iload_n C 3 dX7_split_25 rfl rfl ?_
    refine tt_iload_n C 2 dX7_split_26 rfl rfl ?_
    refine tt_if (fun h1 => ?_) (fun h1 => ?_)
    · refine tt_icmp_gtT (tgt := 80) C h1 dX7_split_27 (by decide) ?_
      refine tt_iload_n C 1 dX7_split_80 rfl rfl ?_
      refine tt_if (fun h2 => ?_) (fun h2 => ?_)
      · refine tt_look (off := 27) (tgt := 108) C dX7_split_81 (by decide) (by rw [h2]; decide) (by decide) ?_
        refine tt_aload_n C 0 dX7_split_108 rfl rfl ?_
        refine tt_getR C (j := 4) (r0 := 30) dX_0 rfl fl_RX7_44 dX7_split_109 ?_
        refine tt_getI C (j := 4) dX_30 rfl fl_RX7_198 dX7_split_112 ?_
        exact tt_iret rfl C hr dX7_split_115
      · skip
        refine tt_if (fun h3 => ?_) (fun h3 => ?_)
        · refine tt_look (off := 35) (tgt := 116) C dX7_split_81 (by decide) (by rw [h3]; decide) (by decide) ?_
          refine tt_aload_n C 0 dX7_split_116 rfl rfl ?_
          refine tt_getR C (j := 4) (r0 := 30) dX_0 rfl fl_RX7_44 dX7_split_117 ?_
          refine tt_getI C (j := 1) dX_30 rfl fl_RX7_192 dX7_split_120 ?_
          exact tt_iret rfl C hr dX7_split_123
        · skip
          refine tt_look (off := 43) (tgt := 124) C dX7_split_81 (by decide) (by show Op.lookupswitch.offset [(0, 27), (1, 35)] 43 _ = _; rw [lv_osw h2 (show (0 : Int32).toInt = 0 by decide), lv_osw h3 (show (1 : Int32).toInt = 1 by decide)]; rfl) (by decide) ?_
          refine tt_aload_n C 0 dX7_split_124 rfl rfl ?_
          refine tt_getR C (j := 4) (r0 := 30) dX_0 rfl fl_RX7_44 dX7_split_125 ?_
          refine tt_getI C (j := 2) dX_30 rfl fl_RX7_195 dX7_split_128 ?_
          exact tt_iret rfl C hr dX7_split_131
    · refine tt_icmp_gtF C 80 h1 dX7_split_27 (by decide) ?_
      refine tt_aload_n C 0 dX7_split_30 rfl rfl ?_
      refine tt_iload_n C 3 dX7_split_31 rfl rfl ?_
      refine tt_bi (fun v2 m1 h4 => ?_)
      refine tt_callV (st := []) (As := [.int x3]) C (kX7_goTwice C.2.2.2.2.2.2.2.1 h4) mi_X7_goTwice ml_RX7_234 mv_X7_goTwice ms_X7_goTwice (q := (RX7, TX7, 11)) dX_0 rfl rfl (by decide) (by decide) (Nat.le_of_ble_eq_true rfl) dX7_split_32 ?_
      refine tt_istore (L2 := [(4, .int v2), (0, .ref (ad 0)), (1, .int x1), (2, .int x2), (3, .int x3)]) C dX7_split_35 (by decide) rfl ?_
      refine tt_aload_n C 1 dX7_split_37 rfl rfl ?_
      refine tt_getR C (j := 4) (r0 := 30) dX_0 rfl fl_RX7_44 dX7_split_38 ?_
      refine tt_iload C 0 dX7_split_41 rfl ?_
      refine tt_aload_n C 1 dX7_split_43 rfl rfl ?_
      refine tt_getR C (j := 3) (r0 := 24) dX_0 rfl fl_RX7_37 dX7_split_44 ?_
      refine tt_getI C (j := 13) dX_24 rfl fl_RX7_168 dX7_split_47 ?_
      refine tt_bi (fun v4 m3 h5 => ?_)
      refine tt_callV (st := []) (As := [.int v2, .int (m1 24 13)]) C (kX0_isBeatenBy C.2.2.2.2.2.2.2.1 h5) mi_X0_isBeatenBy ml_RX7_237 mv_X0_isBeatenBy ms_X0_isBeatenBy (q := (RX0, TX0, 5)) dX_30 rfl rfl (by decide) (by decide) (Nat.le_of_ble_eq_true rfl) dX7_split_50 ?_
      refine tt_if (fun h6 => ?_) (fun h6 => ?_)
      · refine tt_if_eqT (tgt := 74) C h6 dX7_split_53 (by decide) ?_
        refine tt_sub [1, 2, 3, 4] (L2 := [(0, .ref (ad 0)), (1, .int x1), (2, .int x2), (3, .int x3)]) rfl ?_
        exact wX7_split_J74 C hr (fun x1 x2 x3 μ => fX7_split_L25 fu x1 x2 x3 μ) (fun x1 x2 x3 μ => ih x1 x2 x3 μ) x1 x2 x3 m3
      · refine tt_if_eqF C 74 h6 dX7_split_53 (by decide) ?_
        refine tt_aload_n C 1 dX7_split_56 rfl rfl ?_
        refine tt_getR C (j := 4) (r0 := 30) dX_0 rfl fl_RX7_44 dX7_split_57 ?_
        refine tt_iload C 0 dX7_split_60 rfl ?_
        refine tt_aload_n C 1 dX7_split_62 rfl rfl ?_
        refine tt_getR C (j := 3) (r0 := 24) dX_0 rfl fl_RX7_37 dX7_split_63 ?_
        refine tt_getI C (j := 13) dX_24 rfl fl_RX7_168 dX7_split_66 ?_
        refine tt_iconst (v := (0 : Int32)) C dX7_split_69 (by decide) ?_
        refine tt_iload_n C 4 dX7_split_70 rfl rfl ?_
        refine tt_bv (fun m5 h7 => ?_)
        refine tt_callV (st := []) (As := [.int v2, .int (m3 24 13), .int (0 : Int32), .int x3]) C (kX0_become C.2.2.2.2.2.2.2.1 h7) mi_X0_become ml_RX7_241 mv_X0_become ms_X0_become (q := (RX0, TX0, 5)) dX_30 rfl rfl (by decide) (by decide) (Nat.le_of_ble_eq_true rfl) dX7_split_71 ?_
        refine tt_sub [1, 2, 3, 4] (L2 := [(0, .ref (ad 0)), (1, .int x1), (2, .int x2), (3, .int x3)]) rfl ?_
        exact wX7_split_J74 C hr (fun x1 x2 x3 μ => fX7_split_L25 fu x1 x2 x3 μ) (fun x1 x2 x3 μ => ih x1 x2 x3 μ) x1 x2 x3 m5

def fX7_split (x1 : Int32) (μ : Mem) : Option (Int32 × Mem) := bi (fX7_within x1 (0 : Int32) (2 : Int32) μ) fun v2 m1 => if v2 = (0 : Int32) then (some ((-1 : Int32), m1)) else (bv (fX0_clear m1) fun m3 => bi (fX7_allBits m3) fun v5 m4 => lb (0 : Int32) fun (y6 : Int32) => fX7_split_L25 FU x1 v5 y6 m4)
set_option maxHeartbeats 4000000 in
set_option maxRecDepth 100000 in
theorem wX7_split {p : Program} {l : Launch} {e : Env} {s : State} {m : MethodId} {args : Array Value} {below : List Frame} {meth : Method} {c : Code} {A : Nat → Prop} {D : va_G} {ad : Nat → Nat} {cA : Nat → ClassId} (C : Cx p s m args meth c cX7_split RX7 5 A dsX D ad cA (EX A ad)) (hr : meth.sig.returnType = some .int) (x1 : Int32) (μ : Mem) : T p l e (rmD 5) s m args below meth c 5 A dsX D ad cA enI (fX7_split x1 μ) 0 [(0, .ref (ad 0)), (1, .int x1)] [] μ := by
  unfold fX7_split
  refine tt_iload_n C 1 dX7_split_0 rfl rfl ?_
  refine tt_iconst (v := (0 : Int32)) C dX7_split_1 (by decide) ?_
  refine tt_iconst (v := (2 : Int32)) C dX7_split_2 (by decide) ?_
  refine tt_bi (fun v2 m1 h1 => ?_)
  refine tt_callS (st := []) (As := [.int x1, .int (0 : Int32), .int (2 : Int32)]) C (kX7_within C.2.2.2.2.2.2.2.1 h1) mi_X7_within ml_RX7_70 mt_X7_within rfl (by decide) (by decide) (Nat.le_of_ble_eq_true rfl) dX7_split_3 ?_
  refine tt_if (fun h2 => ?_) (fun h2 => ?_)
  · refine tt_if_neF C 11 h2 dX7_split_6 (by decide) ?_
    refine tt_iconst (v := (-1 : Int32)) C dX7_split_9 (by decide) ?_
    exact tt_iret rfl C hr dX7_split_10
  · refine tt_if_neT (tgt := 11) C h2 dX7_split_6 (by decide) ?_
    refine tt_aload_n C 0 dX7_split_11 rfl rfl ?_
    refine tt_getR C (j := 4) (r0 := 30) dX_0 rfl fl_RX7_44 dX7_split_12 ?_
    refine tt_bv (fun m3 h3 => ?_)
    refine tt_callV (st := []) (As := []) C (kX0_clear C.2.2.2.2.2.2.2.1 h3) mi_X0_clear ml_RX7_201 mv_X0_clear ms_X0_clear (q := (RX0, TX0, 5)) dX_30 rfl rfl (by decide) (by decide) (Nat.le_of_ble_eq_true rfl) dX7_split_15 ?_
    refine tt_aload_n C 0 dX7_split_18 rfl rfl ?_
    refine tt_bi (fun v5 m4 h4 => ?_)
    refine tt_callV (st := []) (As := []) C (kX7_allBits C.2.2.2.2.2.2.2.1 h4) mi_X7_allBits ml_RX7_204 mv_X7_allBits ms_X7_allBits (q := (RX7, TX7, 11)) dX_0 rfl rfl (by decide) (by decide) (Nat.le_of_ble_eq_true rfl) dX7_split_19 ?_
    refine tt_istore_n (L2 := [(2, .int v5), (0, .ref (ad 0)), (1, .int x1)]) C dX7_split_22 rfl (by decide) rfl ?_
    refine tt_iconst (v := (0 : Int32)) C dX7_split_23 (by decide) ?_
    refine tt_lbi (fun y6 => ?_)
    refine tt_istore_n (L2 := [(3, .int y6), (2, .int v5), (0, .ref (ad 0)), (1, .int x1)]) C dX7_split_24 rfl (by decide) rfl ?_
    refine tt_sub [2, 3, 1, 0] (L2 := [(0, .ref (ad 0)), (1, .int x1), (2, .int v5), (3, .int y6)]) rfl ?_
    exact wX7_split_L25 C hr FU x1 v5 y6 m4
theorem kX7_split {l : Launch} {A : Nat → Prop} {D : va_G} {ad : Nat → Nat} {cA : Nat → ClassId} (hPk : Pk A dsX ad cA (EX A ad)) {x1 : Int32} {μ : Mem} {v : Int32} {ν : Mem} (h : fX7_split x1 μ = some (v, ν)) : Ct l A dsX D ad cA (EX A ad) yX7_split cX7_split 5 (some .int) 5 [.ref (ad 0), .int x1] μ (enI (v, ν)) :=
  ct_of (by decide) (Nat.le_of_ble_eq_true rfl) hPk rfl (fun p e s m args below meth c C hr => wX7_split C hr x1 μ) h

/-! BasketRound.spoilt()I -/
def fX7_spoilt (μ : Mem) : Option (Int32 × Mem) := bv (fX7_goRound μ) fun m1 => some ((m1 24 14), m1)
set_option maxHeartbeats 4000000 in
set_option maxRecDepth 100000 in
theorem wX7_spoilt {p : Program} {l : Launch} {e : Env} {s : State} {m : MethodId} {args : Array Value} {below : List Frame} {meth : Method} {c : Code} {A : Nat → Prop} {D : va_G} {ad : Nat → Nat} {cA : Nat → ClassId} (C : Cx p s m args meth c cX7_spoilt RX7 1 A dsX D ad cA (EX A ad)) (hr : meth.sig.returnType = some .int) (μ : Mem) : T p l e (rmD 5) s m args below meth c 1 A dsX D ad cA enI (fX7_spoilt μ) 0 [(0, .ref (ad 0))] [] μ := by
  unfold fX7_spoilt
  refine tt_aload_n C 0 dX7_spoilt_0 rfl rfl ?_
  refine tt_bv (fun m1 h1 => ?_)
  refine tt_callV (st := []) (As := []) C (kX7_goRound C.2.2.2.2.2.2.2.1 h1) mi_X7_goRound ml_RX7_162 mv_X7_goRound ms_X7_goRound (q := (RX7, TX7, 11)) dX_0 rfl rfl (by decide) (by decide) (Nat.le_of_ble_eq_true rfl) dX7_spoilt_1 ?_
  refine tt_aload_n C 0 dX7_spoilt_4 rfl rfl ?_
  refine tt_getR C (j := 3) (r0 := 24) dX_0 rfl fl_RX7_37 dX7_spoilt_5 ?_
  refine tt_getI C (j := 14) dX_24 rfl fl_RX7_171 dX7_spoilt_8 ?_
  exact tt_iret rfl C hr dX7_spoilt_11
theorem kX7_spoilt {l : Launch} {A : Nat → Prop} {D : va_G} {ad : Nat → Nat} {cA : Nat → ClassId} (hPk : Pk A dsX ad cA (EX A ad)) {μ : Mem} {v : Int32} {ν : Mem} (h : fX7_spoilt μ = some (v, ν)) : Ct l A dsX D ad cA (EX A ad) yX7_spoilt cX7_spoilt 1 (some .int) 5 [.ref (ad 0)] μ (enI (v, ν)) :=
  ct_of (by decide) (Nat.le_of_ble_eq_true rfl) hPk rfl (fun p e s m args below meth c C hr => wX7_spoilt C hr μ) h

/-! BasketRound.strength()I -/
def fX7_strength_L27 : Nat → Int32 → Mem → Option (Int32 × Mem)
  | 0, _, _ => none
  | fu + 1, x1, μ => if (60 : Int32) < x1 then (some ((-4 : Int32), μ)) else (lb (wr μ 24 7 x1) fun m1 => bv (fX6_ride m1) fun m2 => bv (fX6_finish m2) fun m3 => if (m3 24 15) = (0 : Int32) then (some (x1, m3)) else (lb (x1 + (1 : Int32)) fun (y4 : Int32) => fX7_strength_L27 fu y4 m3))
set_option maxHeartbeats 4000000 in
set_option maxRecDepth 100000 in
theorem wX7_strength_L27 {p : Program} {l : Launch} {e : Env} {s : State} {m : MethodId} {args : Array Value} {below : List Frame} {meth : Method} {c : Code} {A : Nat → Prop} {D : va_G} {ad : Nat → Nat} {cA : Nat → ClassId} (C : Cx p s m args meth c cX7_strength RX7 2 A dsX D ad cA (EX A ad)) (hr : meth.sig.returnType = some .int) : ∀ (fu : Nat) (x1 : Int32) (μ : Mem), T p l e (rmD 3) s m args below meth c 2 A dsX D ad cA enI (fX7_strength_L27 fu x1 μ) 27 [(0, .ref (ad 0)), (1, .int x1)] [] μ
  | 0, _, _ => tt_none
  | fu + 1, x1, μ => by
    have ih := fun (x1 : Int32) (μ : Mem) => wX7_strength_L27 (l := l) (e := e) (below := below) C hr fu x1 μ
    show T p l e (rmD 3) s m args below meth c 2 A dsX D ad cA enI (if (60 : Int32) < x1 then (some ((-4 : Int32), μ)) else (lb (wr μ 24 7 x1) fun m1 => bv (fX6_ride m1) fun m2 => bv (fX6_finish m2) fun m3 => if (m3 24 15) = (0 : Int32) then (some (x1, m3)) else (lb (x1 + (1 : Int32)) fun (y4 : Int32) => fX7_strength_L27 fu y4 m3))) 27 [(0, .ref (ad 0)), (1, .int x1)] [] μ
    refine tt_iload_n C 1 dX7_strength_27 rfl rfl ?_
    refine tt_bipush (v := (60 : Int32)) C dX7_strength_28 (by decide) ?_
    refine tt_if (fun h1 => ?_) (fun h1 => ?_)
    · refine tt_icmp_gtT (tgt := 73) C h1 dX7_strength_30 (by decide) ?_
      refine tt_bipush (v := (-4 : Int32)) C dX7_strength_73 (by decide) ?_
      exact tt_iret rfl C hr dX7_strength_75
    · refine tt_icmp_gtF C 73 h1 dX7_strength_30 (by decide) ?_
      refine tt_aload_n C 0 dX7_strength_33 rfl rfl ?_
      refine tt_getR C (j := 3) (r0 := 24) dX_0 rfl fl_RX7_37 dX7_strength_34 ?_
      refine tt_iload_n C 1 dX7_strength_37 rfl rfl ?_
      refine tt_putI C (j := 7) dX_24 rfl fl_RX7_247 fw_6_7 dX7_strength_38 ?_
      refine tt_lbm (fun m1 => ?_)
      refine tt_aload_n C 0 dX7_strength_41 rfl rfl ?_
      refine tt_getR C (j := 3) (r0 := 24) dX_0 rfl fl_RX7_37 dX7_strength_42 ?_
      refine tt_bv (fun m2 h2 => ?_)
      refine tt_callV (st := []) (As := []) C (kX6_ride C.2.2.2.2.2.2.2.1 h2) mi_X6_ride ml_RX7_212 mv_X6_ride ms_X6_ride (q := (RX6, TX6, 17)) dX_24 rfl rfl (by decide) (by decide) (Nat.le_of_ble_eq_true rfl) dX7_strength_45 ?_
      refine tt_aload_n C 0 dX7_strength_48 rfl rfl ?_
      refine tt_getR C (j := 3) (r0 := 24) dX_0 rfl fl_RX7_37 dX7_strength_49 ?_
      refine tt_bv (fun m3 h3 => ?_)
      refine tt_callV (st := []) (As := []) C (kX6_finish C.2.2.2.2.2.2.2.1 h3) mi_X6_finish ml_RX7_224 mv_X6_finish ms_X6_finish (q := (RX6, TX6, 17)) dX_24 rfl rfl (by decide) (by decide) (Nat.le_of_ble_eq_true rfl) dX7_strength_52 ?_
      refine tt_aload_n C 0 dX7_strength_55 rfl rfl ?_
      refine tt_getR C (j := 3) (r0 := 24) dX_0 rfl fl_RX7_37 dX7_strength_56 ?_
      refine tt_getI C (j := 15) dX_24 rfl fl_RX7_174 dX7_strength_59 ?_
      refine tt_if (fun h4 => ?_) (fun h4 => ?_)
      · refine tt_if_neF C 67 h4 dX7_strength_62 (by decide) ?_
        refine tt_iload_n C 1 dX7_strength_65 rfl rfl ?_
        exact tt_iret rfl C hr dX7_strength_66
      · refine tt_if_neT (tgt := 67) C h4 dX7_strength_62 (by decide) ?_
        refine tt_iincB (d := (1 : Int32)) C 1 (fun y4 => [(1, .int y4), (0, .ref (ad 0))]) dX7_strength_67 rfl (by decide) (by decide) (fun _ => rfl) (fun y4 => ?_)
        refine tt_goto (tgt := 27) C dX7_strength_70 (by decide) ?_
        refine tt_sub [1, 0] (L2 := [(0, .ref (ad 0)), (1, .int y4)]) rfl ?_
        exact ih y4 m3

def fX7_strength (μ : Mem) : Option (Int32 × Mem) := bi (fX7_allBits μ) fun v2 m1 => bv (fX6_take v2 (m1 3 7) m1) fun m3 => bv (fX6_stow m3) fun m4 => lb (0 : Int32) fun (y5 : Int32) => fX7_strength_L27 FU y5 m4
set_option maxHeartbeats 4000000 in
set_option maxRecDepth 100000 in
theorem wX7_strength {p : Program} {l : Launch} {e : Env} {s : State} {m : MethodId} {args : Array Value} {below : List Frame} {meth : Method} {c : Code} {A : Nat → Prop} {D : va_G} {ad : Nat → Nat} {cA : Nat → ClassId} (C : Cx p s m args meth c cX7_strength RX7 2 A dsX D ad cA (EX A ad)) (hr : meth.sig.returnType = some .int) (μ : Mem) : T p l e (rmD 3) s m args below meth c 2 A dsX D ad cA enI (fX7_strength μ) 0 [(0, .ref (ad 0))] [] μ := by
  unfold fX7_strength
  refine tt_aload_n C 0 dX7_strength_0 rfl rfl ?_
  refine tt_getR C (j := 3) (r0 := 24) dX_0 rfl fl_RX7_37 dX7_strength_1 ?_
  refine tt_aload_n C 0 dX7_strength_4 rfl rfl ?_
  refine tt_bi (fun v2 m1 h1 => ?_)
  refine tt_callV (st := [.ref (ad 24)]) (As := []) C (kX7_allBits C.2.2.2.2.2.2.2.1 h1) mi_X7_allBits ml_RX7_204 mv_X7_allBits ms_X7_allBits (q := (RX7, TX7, 11)) dX_0 rfl rfl (by decide) (by decide) (Nat.le_of_ble_eq_true rfl) dX7_strength_5 ?_
  refine tt_aload_n C 0 dX7_strength_8 rfl rfl ?_
  refine tt_getR C (j := 1) (r0 := 3) dX_0 rfl fl_RX7_19 dX7_strength_9 ?_
  refine tt_getI C (j := 7) dX_3 rfl fl_RX7_115 dX7_strength_12 ?_
  refine tt_bv (fun m3 h2 => ?_)
  refine tt_callV (st := []) (As := [.int v2, .int (m1 3 7)]) C (kX6_take C.2.2.2.2.2.2.2.1 h2) mi_X6_take ml_RX7_208 mv_X6_take ms_X6_take (q := (RX6, TX6, 17)) dX_24 rfl rfl (by decide) (by decide) (Nat.le_of_ble_eq_true rfl) dX7_strength_15 ?_
  refine tt_aload_n C 0 dX7_strength_18 rfl rfl ?_
  refine tt_getR C (j := 3) (r0 := 24) dX_0 rfl fl_RX7_37 dX7_strength_19 ?_
  refine tt_bv (fun m4 h3 => ?_)
  refine tt_callV (st := []) (As := []) C (kX6_stow C.2.2.2.2.2.2.2.1 h3) mi_X6_stow ml_RX7_244 mv_X6_stow ms_X6_stow (q := (RX6, TX6, 17)) dX_24 rfl rfl (by decide) (by decide) (Nat.le_of_ble_eq_true rfl) dX7_strength_22 ?_
  refine tt_iconst (v := (0 : Int32)) C dX7_strength_25 (by decide) ?_
  refine tt_lbi (fun y5 => ?_)
  refine tt_istore_n (L2 := [(1, .int y5), (0, .ref (ad 0))]) C dX7_strength_26 rfl (by decide) rfl ?_
  refine tt_sub [1, 0] (L2 := [(0, .ref (ad 0)), (1, .int y5)]) rfl ?_
  exact wX7_strength_L27 C hr FU y5 m4
theorem kX7_strength {l : Launch} {A : Nat → Prop} {D : va_G} {ad : Nat → Nat} {cA : Nat → ClassId} (hPk : Pk A dsX ad cA (EX A ad)) {μ : Mem} {v : Int32} {ν : Mem} (h : fX7_strength μ = some (v, ν)) : Ct l A dsX D ad cA (EX A ad) yX7_strength cX7_strength 2 (some .int) 3 [.ref (ad 0)] μ (enI (v, ν)) :=
  ct_of (by decide) (Nat.le_of_ble_eq_true rfl) hPk rfl (fun p e s m args below meth c C hr => wX7_strength C hr μ) h

/-! BasketRound.swap(II)I -/
def fX7_swap (x1 : Int32) (x2 : Int32) (μ : Mem) : Option (Int32 × Mem) := bi (fX7_exchangeOrders 7 x1 x2 μ) fun v2 m1 => some (v2, m1)
set_option maxHeartbeats 4000000 in
set_option maxRecDepth 100000 in
theorem wX7_swap {p : Program} {l : Launch} {e : Env} {s : State} {m : MethodId} {args : Array Value} {below : List Frame} {meth : Method} {c : Code} {A : Nat → Prop} {D : va_G} {ad : Nat → Nat} {cA : Nat → ClassId} (C : Cx p s m args meth c cX7_swap RX7 3 A dsX D ad cA (EX A ad)) (hr : meth.sig.returnType = some .int) (x1 : Int32) (x2 : Int32) (μ : Mem) : T p l e (rmD 3) s m args below meth c 3 A dsX D ad cA enI (fX7_swap x1 x2 μ) 0 [(0, .ref (ad 0)), (1, .int x1), (2, .int x2)] [] μ := by
  unfold fX7_swap
  refine tt_aload_n C 0 dX7_swap_0 rfl rfl ?_
  refine tt_aload_n C 0 dX7_swap_1 rfl rfl ?_
  refine tt_getR C (j := 1) (r0 := 3) dX_0 rfl fl_RX7_19 dX7_swap_2 ?_
  refine tt_getR C (j := 3) (r0 := 7) dX_3 rfl fl_RX7_126 dX7_swap_5 ?_
  refine tt_iload_n C 1 dX7_swap_8 rfl rfl ?_
  refine tt_iload_n C 2 dX7_swap_9 rfl rfl ?_
  refine tt_bi (fun v2 m1 h1 => ?_)
  refine tt_callV (st := []) (As := [.ref (ad 7), .int x1, .int x2]) C (kX7_exchangeOrders C.2.2.2.2.2.2.2.1 7 dX_7 h1) mi_X7_exchangeOrders ml_RX7_148 mv_X7_exchangeOrders ms_X7_exchangeOrders (q := (RX7, TX7, 11)) dX_0 rfl rfl (by decide) (by decide) (Nat.le_of_ble_eq_true rfl) dX7_swap_10 ?_
  exact tt_iret rfl C hr dX7_swap_13
theorem kX7_swap {l : Launch} {A : Nat → Prop} {D : va_G} {ad : Nat → Nat} {cA : Nat → ClassId} (hPk : Pk A dsX ad cA (EX A ad)) {x1 : Int32} {x2 : Int32} {μ : Mem} {v : Int32} {ν : Mem} (h : fX7_swap x1 x2 μ = some (v, ν)) : Ct l A dsX D ad cA (EX A ad) yX7_swap cX7_swap 3 (some .int) 3 [.ref (ad 0), .int x1, .int x2] μ (enI (v, ν)) :=
  ct_of (by decide) (Nat.le_of_ble_eq_true rfl) hPk rfl (fun p e s m args below meth c C hr => wX7_swap C hr x1 x2 μ) h

/-! BasketRound.time(I)I -/
def fX7_time (x1 : Int32) (μ : Mem) : Option (Int32 × Mem) := bi (fX7_isOrder x1 μ) fun v2 m1 => if v2 = (0 : Int32) then (some ((-1 : Int32), m1)) else (bv (fX7_goRound m1) fun m3 => gr x1 5 <| some ((m3 29 x1.toNatClampNeg), m3))
set_option maxHeartbeats 4000000 in
set_option maxRecDepth 100000 in
theorem wX7_time {p : Program} {l : Launch} {e : Env} {s : State} {m : MethodId} {args : Array Value} {below : List Frame} {meth : Method} {c : Code} {A : Nat → Prop} {D : va_G} {ad : Nat → Nat} {cA : Nat → ClassId} (C : Cx p s m args meth c cX7_time RX7 2 A dsX D ad cA (EX A ad)) (hr : meth.sig.returnType = some .int) (x1 : Int32) (μ : Mem) : T p l e (rmD 5) s m args below meth c 2 A dsX D ad cA enI (fX7_time x1 μ) 0 [(0, .ref (ad 0)), (1, .int x1)] [] μ := by
  unfold fX7_time
  refine tt_aload_n C 0 dX7_time_0 rfl rfl ?_
  refine tt_iload_n C 1 dX7_time_1 rfl rfl ?_
  refine tt_bi (fun v2 m1 h1 => ?_)
  refine tt_callV (st := []) (As := [.int x1]) C (kX7_isOrder C.2.2.2.2.2.2.2.1 h1) mi_X7_isOrder ml_RX7_137 mv_X7_isOrder ms_X7_isOrder (q := (RX7, TX7, 11)) dX_0 rfl rfl (by decide) (by decide) (Nat.le_of_ble_eq_true rfl) dX7_time_2 ?_
  refine tt_if (fun h2 => ?_) (fun h2 => ?_)
  · refine tt_if_neF C 10 h2 dX7_time_5 (by decide) ?_
    refine tt_iconst (v := (-1 : Int32)) C dX7_time_8 (by decide) ?_
    exact tt_iret rfl C hr dX7_time_9
  · refine tt_if_neT (tgt := 10) C h2 dX7_time_5 (by decide) ?_
    refine tt_aload_n C 0 dX7_time_10 rfl rfl ?_
    refine tt_bv (fun m3 h3 => ?_)
    refine tt_callV (st := []) (As := []) C (kX7_goRound C.2.2.2.2.2.2.2.1 h3) mi_X7_goRound ml_RX7_162 mv_X7_goRound ms_X7_goRound (q := (RX7, TX7, 11)) dX_0 rfl rfl (by decide) (by decide) (Nat.le_of_ble_eq_true rfl) dX7_time_11 ?_
    refine tt_aload_n C 0 dX7_time_14 rfl rfl ?_
    refine tt_getR C (j := 3) (r0 := 24) dX_0 rfl fl_RX7_37 dX7_time_15 ?_
    refine tt_getR C (j := 5) (r0 := 29) dX_24 rfl fl_RX7_165 dX7_time_18 ?_
    refine tt_iload_n C 1 dX7_time_21 rfl rfl ?_
    refine tt_gr (fun h4 => ?_)
    refine tt_iald C dX_29 h4 dX7_time_22 ?_
    exact tt_iret rfl C hr dX7_time_23
theorem kX7_time {l : Launch} {A : Nat → Prop} {D : va_G} {ad : Nat → Nat} {cA : Nat → ClassId} (hPk : Pk A dsX ad cA (EX A ad)) {x1 : Int32} {μ : Mem} {v : Int32} {ν : Mem} (h : fX7_time x1 μ = some (v, ν)) : Ct l A dsX D ad cA (EX A ad) yX7_time cX7_time 2 (some .int) 5 [.ref (ad 0), .int x1] μ (enI (v, ν)) :=
  ct_of (by decide) (Nat.le_of_ble_eq_true rfl) hPk rfl (fun p e s m args below meth c C hr => wX7_time C hr x1 μ) h

/-! BasketRound.top(I)I -/
def fX7_top (x1 : Int32) (μ : Mem) : Option (Int32 × Mem) := bi (fX7_bringAhead 6 x1 μ) fun v2 m1 => some (v2, m1)
set_option maxHeartbeats 4000000 in
set_option maxRecDepth 100000 in
theorem wX7_top {p : Program} {l : Launch} {e : Env} {s : State} {m : MethodId} {args : Array Value} {below : List Frame} {meth : Method} {c : Code} {A : Nat → Prop} {D : va_G} {ad : Nat → Nat} {cA : Nat → ClassId} (C : Cx p s m args meth c cX7_top RX7 2 A dsX D ad cA (EX A ad)) (hr : meth.sig.returnType = some .int) (x1 : Int32) (μ : Mem) : T p l e (rmD 3) s m args below meth c 2 A dsX D ad cA enI (fX7_top x1 μ) 0 [(0, .ref (ad 0)), (1, .int x1)] [] μ := by
  unfold fX7_top
  refine tt_aload_n C 0 dX7_top_0 rfl rfl ?_
  refine tt_aload_n C 0 dX7_top_1 rfl rfl ?_
  refine tt_getR C (j := 1) (r0 := 3) dX_0 rfl fl_RX7_19 dX7_top_2 ?_
  refine tt_getR C (j := 2) (r0 := 6) dX_3 rfl fl_RX7_118 dX7_top_5 ?_
  refine tt_iload_n C 1 dX7_top_8 rfl rfl ?_
  refine tt_bi (fun v2 m1 h1 => ?_)
  refine tt_callV (st := []) (As := [.ref (ad 6), .int x1]) C (kX7_bringAhead C.2.2.2.2.2.2.2.1 6 dX_6 h1) mi_X7_bringAhead ml_RX7_151 mv_X7_bringAhead ms_X7_bringAhead (q := (RX7, TX7, 11)) dX_0 rfl rfl (by decide) (by decide) (Nat.le_of_ble_eq_true rfl) dX7_top_9 ?_
  exact tt_iret rfl C hr dX7_top_12
theorem kX7_top {l : Launch} {A : Nat → Prop} {D : va_G} {ad : Nat → Nat} {cA : Nat → ClassId} (hPk : Pk A dsX ad cA (EX A ad)) {x1 : Int32} {μ : Mem} {v : Int32} {ν : Mem} (h : fX7_top x1 μ = some (v, ν)) : Ct l A dsX D ad cA (EX A ad) yX7_top cX7_top 2 (some .int) 3 [.ref (ad 0), .int x1] μ (enI (v, ν)) :=
  ct_of (by decide) (Nat.le_of_ble_eq_true rfl) hPk rfl (fun p e s m args below meth c C hr => wX7_top C hr x1 μ) h

/-! BasketRound.torn()I -/
def fX7_torn (μ : Mem) : Option (Int32 × Mem) := some ((μ 0 10), μ)
set_option maxHeartbeats 4000000 in
set_option maxRecDepth 100000 in
theorem wX7_torn {p : Program} {l : Launch} {e : Env} {s : State} {m : MethodId} {args : Array Value} {below : List Frame} {meth : Method} {c : Code} {A : Nat → Prop} {D : va_G} {ad : Nat → Nat} {cA : Nat → ClassId} (C : Cx p s m args meth c cX7_torn RX7 1 A dsX D ad cA (EX A ad)) (hr : meth.sig.returnType = some .int) (μ : Mem) : T p l e (rmD 0) s m args below meth c 1 A dsX D ad cA enI (fX7_torn μ) 0 [(0, .ref (ad 0))] [] μ := by
  unfold fX7_torn
  refine tt_aload_n C 0 dX7_torn_0 rfl rfl ?_
  refine tt_getI C (j := 10) dX_0 rfl fl_RX7_316 dX7_torn_1 ?_
  exact tt_iret rfl C hr dX7_torn_4
theorem kX7_torn {l : Launch} {A : Nat → Prop} {D : va_G} {ad : Nat → Nat} {cA : Nat → ClassId} (hPk : Pk A dsX ad cA (EX A ad)) {μ : Mem} {v : Int32} {ν : Mem} (h : fX7_torn μ = some (v, ν)) : Ct l A dsX D ad cA (EX A ad) yX7_torn cX7_torn 1 (some .int) 0 [.ref (ad 0)] μ (enI (v, ν)) :=
  ct_of (by decide) (Nat.le_of_ble_eq_true rfl) hPk rfl (fun p e s m args below meth c C hr => wX7_torn C hr μ) h

/-! BasketRound.turn(II)I -/
def fX7_turn (x1 : Int32) (x2 : Int32) (μ : Mem) : Option (Int32 × Mem) := bi (fX7_changeOrder x1 (0 : Int32) x2 μ) fun v2 m1 => some (v2, m1)
set_option maxHeartbeats 4000000 in
set_option maxRecDepth 100000 in
theorem wX7_turn {p : Program} {l : Launch} {e : Env} {s : State} {m : MethodId} {args : Array Value} {below : List Frame} {meth : Method} {c : Code} {A : Nat → Prop} {D : va_G} {ad : Nat → Nat} {cA : Nat → ClassId} (C : Cx p s m args meth c cX7_turn RX7 3 A dsX D ad cA (EX A ad)) (hr : meth.sig.returnType = some .int) (x1 : Int32) (x2 : Int32) (μ : Mem) : T p l e (rmD 3) s m args below meth c 3 A dsX D ad cA enI (fX7_turn x1 x2 μ) 0 [(0, .ref (ad 0)), (1, .int x1), (2, .int x2)] [] μ := by
  unfold fX7_turn
  refine tt_aload_n C 0 dX7_turn_0 rfl rfl ?_
  refine tt_iload_n C 1 dX7_turn_1 rfl rfl ?_
  refine tt_iconst (v := (0 : Int32)) C dX7_turn_2 (by decide) ?_
  refine tt_iload_n C 2 dX7_turn_3 rfl rfl ?_
  refine tt_bi (fun v2 m1 h1 => ?_)
  refine tt_callV (st := []) (As := [.int x1, .int (0 : Int32), .int x2]) C (kX7_changeOrder C.2.2.2.2.2.2.2.1 h1) mi_X7_changeOrder ml_RX7_154 mv_X7_changeOrder ms_X7_changeOrder (q := (RX7, TX7, 11)) dX_0 rfl rfl (by decide) (by decide) (Nat.le_of_ble_eq_true rfl) dX7_turn_4 ?_
  exact tt_iret rfl C hr dX7_turn_7
theorem kX7_turn {l : Launch} {A : Nat → Prop} {D : va_G} {ad : Nat → Nat} {cA : Nat → ClassId} (hPk : Pk A dsX ad cA (EX A ad)) {x1 : Int32} {x2 : Int32} {μ : Mem} {v : Int32} {ν : Mem} (h : fX7_turn x1 x2 μ = some (v, ν)) : Ct l A dsX D ad cA (EX A ad) yX7_turn cX7_turn 3 (some .int) 3 [.ref (ad 0), .int x1, .int x2] μ (enI (v, ν)) :=
  ct_of (by decide) (Nat.le_of_ble_eq_true rfl) hPk rfl (fun p e s m args below meth c C hr => wX7_turn C hr x1 x2 μ) h

/-! BasketRound.two(II)I -/
def fX7_two_J44 (z0 : Int32) (μ : Mem) : Option (Int32 × Mem) := some (z0, μ)
set_option maxHeartbeats 4000000 in
set_option maxRecDepth 100000 in
theorem wX7_two_J44 {p : Program} {l : Launch} {e : Env} {s : State} {m : MethodId} {args : Array Value} {below : List Frame} {meth : Method} {c : Code} {A : Nat → Prop} {D : va_G} {ad : Nat → Nat} {cA : Nat → ClassId} (C : Cx p s m args meth c cX7_two RX7 4 A dsX D ad cA (EX A ad)) (hr : meth.sig.returnType = some .int) (z0 : Int32) (μ : Mem) : T p l e (rmD 5) s m args below meth c 4 A dsX D ad cA enI (fX7_two_J44 z0 μ) 44 [] [.int z0] μ := by
  unfold fX7_two_J44
  exact tt_iret rfl C hr dX7_two_44

def fX7_two_J21 (μ : Mem) : Option (Int32 × Mem) := some ((-1 : Int32), μ)
set_option maxHeartbeats 4000000 in
set_option maxRecDepth 100000 in
theorem wX7_two_J21 {p : Program} {l : Launch} {e : Env} {s : State} {m : MethodId} {args : Array Value} {below : List Frame} {meth : Method} {c : Code} {A : Nat → Prop} {D : va_G} {ad : Nat → Nat} {cA : Nat → ClassId} (C : Cx p s m args meth c cX7_two RX7 4 A dsX D ad cA (EX A ad)) (hr : meth.sig.returnType = some .int) (μ : Mem) : T p l e (rmD 5) s m args below meth c 4 A dsX D ad cA enI (fX7_two_J21 μ) 21 [] [] μ := by
  unfold fX7_two_J21
  refine tt_iconst (v := (-1 : Int32)) C dX7_two_21 (by decide) ?_
  exact tt_iret rfl C hr dX7_two_22

def fX7_two (x1 : Int32) (x2 : Int32) (μ : Mem) : Option (Int32 × Mem) := bi (fX7_allBits μ) fun v2 m1 => bi (fX7_within x1 (0 : Int32) v2 m1) fun v4 m3 => if v4 = (0 : Int32) then (fX7_two_J21 m3) else (bi (fX7_within x2 (0 : Int32) (1 : Int32) m3) fun v6 m5 => if v6 = (0 : Int32) then (fX7_two_J21 m5) else (bi (fX7_goTwice x1 m5) fun v8 m7 => if x2 = (0 : Int32) then (fX7_two_J44 v8 m7) else (fX7_two_J44 (m7 24 13) m7)))
set_option maxHeartbeats 4000000 in
set_option maxRecDepth 100000 in
theorem wX7_two {p : Program} {l : Launch} {e : Env} {s : State} {m : MethodId} {args : Array Value} {below : List Frame} {meth : Method} {c : Code} {A : Nat → Prop} {D : va_G} {ad : Nat → Nat} {cA : Nat → ClassId} (C : Cx p s m args meth c cX7_two RX7 4 A dsX D ad cA (EX A ad)) (hr : meth.sig.returnType = some .int) (x1 : Int32) (x2 : Int32) (μ : Mem) : T p l e (rmD 5) s m args below meth c 4 A dsX D ad cA enI (fX7_two x1 x2 μ) 0 [(0, .ref (ad 0)), (1, .int x1), (2, .int x2)] [] μ := by
  unfold fX7_two
  refine tt_iload_n C 1 dX7_two_0 rfl rfl ?_
  refine tt_iconst (v := (0 : Int32)) C dX7_two_1 (by decide) ?_
  refine tt_aload_n C 0 dX7_two_2 rfl rfl ?_
  refine tt_bi (fun v2 m1 h1 => ?_)
  refine tt_callV (st := [.int (0 : Int32), .int x1]) (As := []) C (kX7_allBits C.2.2.2.2.2.2.2.1 h1) mi_X7_allBits ml_RX7_204 mv_X7_allBits ms_X7_allBits (q := (RX7, TX7, 11)) dX_0 rfl rfl (by decide) (by decide) (Nat.le_of_ble_eq_true rfl) dX7_two_3 ?_
  refine tt_bi (fun v4 m3 h2 => ?_)
  refine tt_callS (st := []) (As := [.int x1, .int (0 : Int32), .int v2]) C (kX7_within C.2.2.2.2.2.2.2.1 h2) mi_X7_within ml_RX7_70 mt_X7_within rfl (by decide) (by decide) (Nat.le_of_ble_eq_true rfl) dX7_two_6 ?_
  refine tt_if (fun h3 => ?_) (fun h3 => ?_)
  · refine tt_if_eqT (tgt := 21) C h3 dX7_two_9 (by decide) ?_
    refine tt_sub [] (L2 := []) rfl ?_
    exact wX7_two_J21 C hr m3
  · refine tt_if_eqF C 21 h3 dX7_two_9 (by decide) ?_
    refine tt_iload_n C 2 dX7_two_12 rfl rfl ?_
    refine tt_iconst (v := (0 : Int32)) C dX7_two_13 (by decide) ?_
    refine tt_iconst (v := (1 : Int32)) C dX7_two_14 (by decide) ?_
    refine tt_bi (fun v6 m5 h4 => ?_)
    refine tt_callS (st := []) (As := [.int x2, .int (0 : Int32), .int (1 : Int32)]) C (kX7_within C.2.2.2.2.2.2.2.1 h4) mi_X7_within ml_RX7_70 mt_X7_within rfl (by decide) (by decide) (Nat.le_of_ble_eq_true rfl) dX7_two_15 ?_
    refine tt_if (fun h5 => ?_) (fun h5 => ?_)
    · refine tt_if_neF C 23 h5 dX7_two_18 (by decide) ?_
      refine tt_sub [] (L2 := []) rfl ?_
      exact wX7_two_J21 C hr m5
    · refine tt_if_neT (tgt := 23) C h5 dX7_two_18 (by decide) ?_
      refine tt_aload_n C 0 dX7_two_23 rfl rfl ?_
      refine tt_iload_n C 1 dX7_two_24 rfl rfl ?_
      refine tt_bi (fun v8 m7 h6 => ?_)
      refine tt_callV (st := []) (As := [.int x1]) C (kX7_goTwice C.2.2.2.2.2.2.2.1 h6) mi_X7_goTwice ml_RX7_234 mv_X7_goTwice ms_X7_goTwice (q := (RX7, TX7, 11)) dX_0 rfl rfl (by decide) (by decide) (Nat.le_of_ble_eq_true rfl) dX7_two_25 ?_
      refine tt_istore_n (L2 := [(3, .int v8), (0, .ref (ad 0)), (1, .int x1), (2, .int x2)]) C dX7_two_28 rfl (by decide) rfl ?_
      refine tt_iload_n C 3 dX7_two_29 rfl rfl ?_
      refine tt_if (fun h7 => ?_) (fun h7 => ?_)
      · refine tt_if_neF C 37 h7 dX7_two_30 (by decide) ?_
        refine tt_iload_n C 0 dX7_two_33 rfl rfl ?_
        refine tt_goto (tgt := 44) C dX7_two_34 (by decide) ?_
        refine tt_sub [] (L2 := []) rfl ?_
        exact wX7_two_J44 C hr v8 m7
      · refine tt_if_neT (tgt := 37) C h7 dX7_two_30 (by decide) ?_
        refine tt_aload_n C 1 dX7_two_37 rfl rfl ?_
        refine tt_getR C (j := 3) (r0 := 24) dX_0 rfl fl_RX7_37 dX7_two_38 ?_
        refine tt_getI C (j := 13) dX_24 rfl fl_RX7_168 dX7_two_41 ?_
        refine tt_sub [] (L2 := []) rfl ?_
        exact wX7_two_J44 C hr (m7 24 13) m7
theorem kX7_two {l : Launch} {A : Nat → Prop} {D : va_G} {ad : Nat → Nat} {cA : Nat → ClassId} (hPk : Pk A dsX ad cA (EX A ad)) {x1 : Int32} {x2 : Int32} {μ : Mem} {v : Int32} {ν : Mem} (h : fX7_two x1 x2 μ = some (v, ν)) : Ct l A dsX D ad cA (EX A ad) yX7_two cX7_two 4 (some .int) 5 [.ref (ad 0), .int x1, .int x2] μ (enI (v, ν)) :=
  ct_of (by decide) (Nat.le_of_ble_eq_true rfl) hPk rfl (fun p e s m args below meth c C hr => wX7_two C hr x1 x2 μ) h

/-! BasketRound.undo(I)I -/
def fX7_undo (x1 : Int32) (μ : Mem) : Option (Int32 × Mem) := bi (fX7_within x1 (0 : Int32) (1 : Int32) μ) fun v2 m1 => if v2 = (0 : Int32) then (some ((-1 : Int32), m1)) else (gr x1 2 <| if (m1 35 x1.toNatClampNeg) = (0 : Int32) then (some ((-2 : Int32), m1)) else (gr x1 2 <| if x1.toNatClampNeg = 0 then (bv (fX4_become 3 8 m1) fun m3 => some ((m3 3 7), m3)) else (if x1.toNatClampNeg = 1 then (bv (fX4_become 3 13 m1) fun m4 => some ((m4 3 7), m4)) else (none))))
set_option maxHeartbeats 4000000 in
set_option maxRecDepth 100000 in
theorem wX7_undo {p : Program} {l : Launch} {e : Env} {s : State} {m : MethodId} {args : Array Value} {below : List Frame} {meth : Method} {c : Code} {A : Nat → Prop} {D : va_G} {ad : Nat → Nat} {cA : Nat → ClassId} (C : Cx p s m args meth c cX7_undo RX7 2 A dsX D ad cA (EX A ad)) (hr : meth.sig.returnType = some .int) (x1 : Int32) (μ : Mem) : T p l e (rmD 2) s m args below meth c 2 A dsX D ad cA enI (fX7_undo x1 μ) 0 [(0, .ref (ad 0)), (1, .int x1)] [] μ := by
  unfold fX7_undo
  refine tt_iload_n C 1 dX7_undo_0 rfl rfl ?_
  refine tt_iconst (v := (0 : Int32)) C dX7_undo_1 (by decide) ?_
  refine tt_iconst (v := (1 : Int32)) C dX7_undo_2 (by decide) ?_
  refine tt_bi (fun v2 m1 h1 => ?_)
  refine tt_callS (st := []) (As := [.int x1, .int (0 : Int32), .int (1 : Int32)]) C (kX7_within C.2.2.2.2.2.2.2.1 h1) mi_X7_within ml_RX7_70 mt_X7_within rfl (by decide) (by decide) (Nat.le_of_ble_eq_true rfl) dX7_undo_3 ?_
  refine tt_if (fun h2 => ?_) (fun h2 => ?_)
  · refine tt_if_neF C 11 h2 dX7_undo_6 (by decide) ?_
    refine tt_iconst (v := (-1 : Int32)) C dX7_undo_9 (by decide) ?_
    exact tt_iret rfl C hr dX7_undo_10
  · refine tt_if_neT (tgt := 11) C h2 dX7_undo_6 (by decide) ?_
    refine tt_aload_n C 0 dX7_undo_11 rfl rfl ?_
    refine tt_getR C (j := 7) (r0 := 35) dX_0 rfl fl_RX7_59 dX7_undo_12 ?_
    refine tt_iload_n C 1 dX7_undo_15 rfl rfl ?_
    refine tt_gr (fun h3 => ?_)
    refine tt_zald C dX_35 h3 dX7_undo_16 ?_
    refine tt_if (fun h4 => ?_) (fun h4 => ?_)
    · refine tt_if_neF C 23 h4 dX7_undo_17 (by decide) ?_
      refine tt_bipush (v := (-2 : Int32)) C dX7_undo_20 (by decide) ?_
      exact tt_iret rfl C hr dX7_undo_22
    · refine tt_if_neT (tgt := 23) C h4 dX7_undo_17 (by decide) ?_
      refine tt_aload_n C 0 dX7_undo_23 rfl rfl ?_
      refine tt_getR C (j := 1) (r0 := 3) dX_0 rfl fl_RX7_19 dX7_undo_24 ?_
      refine tt_aload_n C 0 dX7_undo_27 rfl rfl ?_
      refine tt_getR C (j := 6) (r0 := 34) dX_0 rfl fl_RX7_55 dX7_undo_28 ?_
      refine tt_iload_n C 1 dX7_undo_31 rfl rfl ?_
      refine tt_gr (fun h5 => ?_)
      refine tt_if (fun h6 => ?_) (fun h6 => ?_)
      · refine tt_aald (r0 := 8) C dX_34 h5 (by rw [h6]; rfl) dX7_undo_32 ?_
        refine tt_bv (fun m3 h7 => ?_)
        refine tt_callV (st := []) (As := [.ref (ad 8)]) C (kX4_become C.2.2.2.2.2.2.2.1 3 8 hSh_3 hSh_8 h7) mi_X4_become ml_RX7_97 mv_X4_become ms_X4_become (q := (RX4, TX4, 8)) dX_3 rfl rfl (by decide) (by decide) (Nat.le_of_ble_eq_true rfl) dX7_undo_33 ?_
        refine tt_aload_n C 0 dX7_undo_36 rfl rfl ?_
        refine tt_getR C (j := 1) (r0 := 3) dX_0 rfl fl_RX7_19 dX7_undo_37 ?_
        refine tt_getI C (j := 7) dX_3 rfl fl_RX7_115 dX7_undo_40 ?_
        exact tt_iret rfl C hr dX7_undo_43
      · skip
        refine tt_if (fun h8 => ?_) (fun h8 => ?_)
        · refine tt_aald (r0 := 13) C dX_34 h5 (by rw [h8]; rfl) dX7_undo_32 ?_
          refine tt_bv (fun m4 h9 => ?_)
          refine tt_callV (st := []) (As := [.ref (ad 13)]) C (kX4_become C.2.2.2.2.2.2.2.1 3 13 hSh_3 hSh_13 h9) mi_X4_become ml_RX7_97 mv_X4_become ms_X4_become (q := (RX4, TX4, 8)) dX_3 rfl rfl (by decide) (by decide) (Nat.le_of_ble_eq_true rfl) dX7_undo_33 ?_
          refine tt_aload_n C 0 dX7_undo_36 rfl rfl ?_
          refine tt_getR C (j := 1) (r0 := 3) dX_0 rfl fl_RX7_19 dX7_undo_37 ?_
          refine tt_getI C (j := 7) dX_3 rfl fl_RX7_115 dX7_undo_40 ?_
          exact tt_iret rfl C hr dX7_undo_43
        · skip
          exact tt_none
theorem kX7_undo {l : Launch} {A : Nat → Prop} {D : va_G} {ad : Nat → Nat} {cA : Nat → ClassId} (hPk : Pk A dsX ad cA (EX A ad)) {x1 : Int32} {μ : Mem} {v : Int32} {ν : Mem} (h : fX7_undo x1 μ = some (v, ν)) : Ct l A dsX D ad cA (EX A ad) yX7_undo cX7_undo 2 (some .int) 2 [.ref (ad 0), .int x1] μ (enI (v, ν)) :=
  ct_of (by decide) (Nat.le_of_ble_eq_true rfl) hPk rfl (fun p e s m args below meth c C hr => wX7_undo C hr x1 μ) h

/-! BasketRound.way(III)I -/
def fX7_way_J64 (z1 : Int32) (z2 : Int32) (z3 : Int32) (μ : Mem) : Option (Int32 × Mem) := bi (fX4_minutesBetween 3 z1 z2 z3 μ) fun v2 m1 => some (v2, m1)
set_option maxHeartbeats 4000000 in
set_option maxRecDepth 100000 in
theorem wX7_way_J64 {p : Program} {l : Launch} {e : Env} {s : State} {m : MethodId} {args : Array Value} {below : List Frame} {meth : Method} {c : Code} {A : Nat → Prop} {D : va_G} {ad : Nat → Nat} {cA : Nat → ClassId} (C : Cx p s m args meth c cX7_way RX7 4 A dsX D ad cA (EX A ad)) (hr : meth.sig.returnType = some .int) (z1 : Int32) (z2 : Int32) (z3 : Int32) (μ : Mem) : T p l e (rmD 2) s m args below meth c 4 A dsX D ad cA enI (fX7_way_J64 z1 z2 z3 μ) 64 [] [.int z3, .int z2, .int z1, .ref (ad 3)] μ := by
  unfold fX7_way_J64
  refine tt_bi (fun v2 m1 h1 => ?_)
  refine tt_callV (st := []) (As := [.int z1, .int z2, .int z3]) C (kX4_minutesBetween C.2.2.2.2.2.2.2.1 3 hSh_3 h1) mi_X4_minutesBetween ml_RX7_158 mv_X4_minutesBetween ms_X4_minutesBetween (q := (RX4, TX4, 8)) dX_3 rfl rfl (by decide) (by decide) (Nat.le_of_ble_eq_true rfl) dX7_way_64 ?_
  exact tt_iret rfl C hr dX7_way_67

def fX7_way_J40 (μ : Mem) : Option (Int32 × Mem) := some ((-1 : Int32), μ)
set_option maxHeartbeats 4000000 in
set_option maxRecDepth 100000 in
theorem wX7_way_J40 {p : Program} {l : Launch} {e : Env} {s : State} {m : MethodId} {args : Array Value} {below : List Frame} {meth : Method} {c : Code} {A : Nat → Prop} {D : va_G} {ad : Nat → Nat} {cA : Nat → ClassId} (C : Cx p s m args meth c cX7_way RX7 4 A dsX D ad cA (EX A ad)) (hr : meth.sig.returnType = some .int) (μ : Mem) : T p l e (rmD 2) s m args below meth c 4 A dsX D ad cA enI (fX7_way_J40 μ) 40 [] [] μ := by
  unfold fX7_way_J40
  refine tt_iconst (v := (-1 : Int32)) C dX7_way_40 (by decide) ?_
  exact tt_iret rfl C hr dX7_way_41

def fX7_way (x1 : Int32) (x2 : Int32) (x3 : Int32) (μ : Mem) : Option (Int32 × Mem) := bi (fX7_within x1 (0 : Int32) (μ 3 4) μ) fun v2 m1 => if v2 = (0 : Int32) then (fX7_way_J40 m1) else (bi (fX7_within x2 (0 : Int32) (m1 3 4) m1) fun v4 m3 => if v4 = (0 : Int32) then (fX7_way_J40 m3) else (bi (fX7_within x3 (0 : Int32) (60 : Int32) m3) fun v6 m5 => if v6 = (0 : Int32) then (fX7_way_J40 m5) else (if x3 ≤ (m5 3 6) then (fX7_way_J64 x1 x2 (0 : Int32) m5) else (fX7_way_J64 x1 x2 (1 : Int32) m5))))
set_option maxHeartbeats 4000000 in
set_option maxRecDepth 100000 in
theorem wX7_way {p : Program} {l : Launch} {e : Env} {s : State} {m : MethodId} {args : Array Value} {below : List Frame} {meth : Method} {c : Code} {A : Nat → Prop} {D : va_G} {ad : Nat → Nat} {cA : Nat → ClassId} (C : Cx p s m args meth c cX7_way RX7 4 A dsX D ad cA (EX A ad)) (hr : meth.sig.returnType = some .int) (x1 : Int32) (x2 : Int32) (x3 : Int32) (μ : Mem) : T p l e (rmD 2) s m args below meth c 4 A dsX D ad cA enI (fX7_way x1 x2 x3 μ) 0 [(0, .ref (ad 0)), (1, .int x1), (2, .int x2), (3, .int x3)] [] μ := by
  unfold fX7_way
  refine tt_iload_n C 1 dX7_way_0 rfl rfl ?_
  refine tt_iconst (v := (0 : Int32)) C dX7_way_1 (by decide) ?_
  refine tt_aload_n C 0 dX7_way_2 rfl rfl ?_
  refine tt_getR C (j := 1) (r0 := 3) dX_0 rfl fl_RX7_19 dX7_way_3 ?_
  refine tt_getI C (j := 4) dX_3 rfl fl_RX7_106 dX7_way_6 ?_
  refine tt_bi (fun v2 m1 h1 => ?_)
  refine tt_callS (st := []) (As := [.int x1, .int (0 : Int32), .int (μ 3 4)]) C (kX7_within C.2.2.2.2.2.2.2.1 h1) mi_X7_within ml_RX7_70 mt_X7_within rfl (by decide) (by decide) (Nat.le_of_ble_eq_true rfl) dX7_way_9 ?_
  refine tt_if (fun h2 => ?_) (fun h2 => ?_)
  · refine tt_if_eqT (tgt := 40) C h2 dX7_way_12 (by decide) ?_
    refine tt_sub [] (L2 := []) rfl ?_
    exact wX7_way_J40 C hr m1
  · refine tt_if_eqF C 40 h2 dX7_way_12 (by decide) ?_
    refine tt_iload_n C 2 dX7_way_15 rfl rfl ?_
    refine tt_iconst (v := (0 : Int32)) C dX7_way_16 (by decide) ?_
    refine tt_aload_n C 0 dX7_way_17 rfl rfl ?_
    refine tt_getR C (j := 1) (r0 := 3) dX_0 rfl fl_RX7_19 dX7_way_18 ?_
    refine tt_getI C (j := 4) dX_3 rfl fl_RX7_106 dX7_way_21 ?_
    refine tt_bi (fun v4 m3 h3 => ?_)
    refine tt_callS (st := []) (As := [.int x2, .int (0 : Int32), .int (m1 3 4)]) C (kX7_within C.2.2.2.2.2.2.2.1 h3) mi_X7_within ml_RX7_70 mt_X7_within rfl (by decide) (by decide) (Nat.le_of_ble_eq_true rfl) dX7_way_24 ?_
    refine tt_if (fun h4 => ?_) (fun h4 => ?_)
    · refine tt_if_eqT (tgt := 40) C h4 dX7_way_27 (by decide) ?_
      refine tt_sub [] (L2 := []) rfl ?_
      exact wX7_way_J40 C hr m3
    · refine tt_if_eqF C 40 h4 dX7_way_27 (by decide) ?_
      refine tt_iload_n C 3 dX7_way_30 rfl rfl ?_
      refine tt_iconst (v := (0 : Int32)) C dX7_way_31 (by decide) ?_
      refine tt_bipush (v := (60 : Int32)) C dX7_way_32 (by decide) ?_
      refine tt_bi (fun v6 m5 h5 => ?_)
      refine tt_callS (st := []) (As := [.int x3, .int (0 : Int32), .int (60 : Int32)]) C (kX7_within C.2.2.2.2.2.2.2.1 h5) mi_X7_within ml_RX7_70 mt_X7_within rfl (by decide) (by decide) (Nat.le_of_ble_eq_true rfl) dX7_way_34 ?_
      refine tt_if (fun h6 => ?_) (fun h6 => ?_)
      · refine tt_if_neF C 42 h6 dX7_way_37 (by decide) ?_
        refine tt_sub [] (L2 := []) rfl ?_
        exact wX7_way_J40 C hr m5
      · refine tt_if_neT (tgt := 42) C h6 dX7_way_37 (by decide) ?_
        refine tt_aload_n C 0 dX7_way_42 rfl rfl ?_
        refine tt_getR C (j := 1) (r0 := 3) dX_0 rfl fl_RX7_19 dX7_way_43 ?_
        refine tt_iload_n C 1 dX7_way_46 rfl rfl ?_
        refine tt_iload_n C 2 dX7_way_47 rfl rfl ?_
        refine tt_iload_n C 3 dX7_way_48 rfl rfl ?_
        refine tt_aload_n C 0 dX7_way_49 rfl rfl ?_
        refine tt_getR C (j := 1) (r0 := 3) dX_0 rfl fl_RX7_19 dX7_way_50 ?_
        refine tt_getI C (j := 6) dX_3 rfl fl_RX7_112 dX7_way_53 ?_
        refine tt_if (fun h7 => ?_) (fun h7 => ?_)
        · refine tt_icmp_leT (tgt := 63) C h7 dX7_way_56 (by decide) ?_
          refine tt_iconst (v := (0 : Int32)) C dX7_way_63 (by decide) ?_
          refine tt_sub [] (L2 := []) rfl ?_
          exact wX7_way_J64 C hr x1 x2 (0 : Int32) m5
        · refine tt_icmp_leF C 63 h7 dX7_way_56 (by decide) ?_
          refine tt_iconst (v := (1 : Int32)) C dX7_way_59 (by decide) ?_
          refine tt_goto (tgt := 64) C dX7_way_60 (by decide) ?_
          refine tt_sub [] (L2 := []) rfl ?_
          exact wX7_way_J64 C hr x1 x2 (1 : Int32) m5
theorem kX7_way {l : Launch} {A : Nat → Prop} {D : va_G} {ad : Nat → Nat} {cA : Nat → ClassId} (hPk : Pk A dsX ad cA (EX A ad)) {x1 : Int32} {x2 : Int32} {x3 : Int32} {μ : Mem} {v : Int32} {ν : Mem} (h : fX7_way x1 x2 x3 μ = some (v, ν)) : Ct l A dsX D ad cA (EX A ad) yX7_way cX7_way 4 (some .int) 2 [.ref (ad 0), .int x1, .int x2, .int x3] μ (enI (v, ν)) :=
  ct_of (by decide) (Nat.le_of_ble_eq_true rfl) hPk rfl (fun p e s m args below meth c C hr => wX7_way C hr x1 x2 x3 μ) h

/-! BasketRound.weigh(II)I -/
def fX7_weigh (x1 : Int32) (x2 : Int32) (μ : Mem) : Option (Int32 × Mem) := bi (fX7_changeOrder x1 (2 : Int32) x2 μ) fun v2 m1 => some (v2, m1)
set_option maxHeartbeats 4000000 in
set_option maxRecDepth 100000 in
theorem wX7_weigh {p : Program} {l : Launch} {e : Env} {s : State} {m : MethodId} {args : Array Value} {below : List Frame} {meth : Method} {c : Code} {A : Nat → Prop} {D : va_G} {ad : Nat → Nat} {cA : Nat → ClassId} (C : Cx p s m args meth c cX7_weigh RX7 3 A dsX D ad cA (EX A ad)) (hr : meth.sig.returnType = some .int) (x1 : Int32) (x2 : Int32) (μ : Mem) : T p l e (rmD 3) s m args below meth c 3 A dsX D ad cA enI (fX7_weigh x1 x2 μ) 0 [(0, .ref (ad 0)), (1, .int x1), (2, .int x2)] [] μ := by
  unfold fX7_weigh
  refine tt_aload_n C 0 dX7_weigh_0 rfl rfl ?_
  refine tt_iload_n C 1 dX7_weigh_1 rfl rfl ?_
  refine tt_iconst (v := (2 : Int32)) C dX7_weigh_2 (by decide) ?_
  refine tt_iload_n C 2 dX7_weigh_3 rfl rfl ?_
  refine tt_bi (fun v2 m1 h1 => ?_)
  refine tt_callV (st := []) (As := [.int x1, .int (2 : Int32), .int x2]) C (kX7_changeOrder C.2.2.2.2.2.2.2.1 h1) mi_X7_changeOrder ml_RX7_154 mv_X7_changeOrder ms_X7_changeOrder (q := (RX7, TX7, 11)) dX_0 rfl rfl (by decide) (by decide) (Nat.le_of_ble_eq_true rfl) dX7_weigh_4 ?_
  exact tt_iret rfl C hr dX7_weigh_7
theorem kX7_weigh {l : Launch} {A : Nat → Prop} {D : va_G} {ad : Nat → Nat} {cA : Nat → ClassId} (hPk : Pk A dsX ad cA (EX A ad)) {x1 : Int32} {x2 : Int32} {μ : Mem} {v : Int32} {ν : Mem} (h : fX7_weigh x1 x2 μ = some (v, ν)) : Ct l A dsX D ad cA (EX A ad) yX7_weigh cX7_weigh 3 (some .int) 3 [.ref (ad 0), .int x1, .int x2] μ (enI (v, ν)) :=
  ct_of (by decide) (Nat.le_of_ble_eq_true rfl) hPk rfl (fun p e s m args below meth c C hr => wX7_weigh C hr x1 x2 μ) h

