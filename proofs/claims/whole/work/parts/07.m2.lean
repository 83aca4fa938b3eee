/-! BasketRoundModel.house(II)I -/
def fX8_house_J51 (z0 : Int32) (μ : Mem) : Option (Int32 × Mem) := some (z0, μ)
set_option maxHeartbeats 4000000 in
set_option maxRecDepth 100000 in
theorem wX8_house_J51 {p : Program} {l : Launch} {e : Env} {s : State} {m : MethodId} {args : Array Value} {below : List Frame} {meth : Method} {c : Code} {A : Nat → Prop} {D : va_G} {ad : Nat → Nat} {cA : Nat → ClassId} (C : Cx p s m args meth c cX8_house RX8 3 A dsM D ad cA EM) (hr : meth.sig.returnType = some .int) (z0 : Int32) (μ : Mem) : T p l e (rmD 1) s m args below meth c 3 A dsM D ad cA enI (fX8_house_J51 z0 μ) 51 [] [.int z0] μ := by
  unfold fX8_house_J51
  exact tt_iret rfl C hr dX8_house_51

def fX8_house_J24 (μ : Mem) : Option (Int32 × Mem) := fX8_house_J51 (-1 : Int32) μ
set_option maxHeartbeats 4000000 in
set_option maxRecDepth 100000 in
theorem wX8_house_J24 {p : Program} {l : Launch} {e : Env} {s : State} {m : MethodId} {args : Array Value} {below : List Frame} {meth : Method} {c : Code} {A : Nat → Prop} {D : va_G} {ad : Nat → Nat} {cA : Nat → ClassId} (C : Cx p s m args meth c cX8_house RX8 3 A dsM D ad cA EM) (hr : meth.sig.returnType = some .int) (μ : Mem) : T p l e (rmD 1) s m args below meth c 3 A dsM D ad cA enI (fX8_house_J24 μ) 24 [] [] μ := by
  unfold fX8_house_J24
  refine tt_iconst (v := (-1 : Int32)) C dX8_house_24 (by decide) ?_
  refine tt_goto (tgt := 51) C dX8_house_25 (by decide) ?_
  refine tt_sub [] (L2 := []) rfl ?_
  exact wX8_house_J51 C hr (-1 : Int32) μ

def fX8_house (x1 : Int32) (x2 : Int32) (μ : Mem) : Option (Int32 × Mem) := bi (fX8_in x1.toInt64 (1 : Int64) ((μ 0 3).toInt64) μ) fun v2 m1 => if v2 = (0 : Int32) then (fX8_house_J24 m1) else (bi (fX8_in x2.toInt64 (0 : Int64) (1 : Int64) m1) fun v4 m3 => if v4 = (0 : Int32) then (fX8_house_J24 m3) else (if x2 = (0 : Int32) then (gr (x1 - (1 : Int32)) 6 <| fX8_house_J51 (m3 2 (x1 - (1 : Int32)).toNatClampNeg) m3) else (gr (x1 - (1 : Int32)) 6 <| fX8_house_J51 (m3 3 (x1 - (1 : Int32)).toNatClampNeg) m3)))
set_option maxHeartbeats 4000000 in
set_option maxRecDepth 100000 in
theorem wX8_house {p : Program} {l : Launch} {e : Env} {s : State} {m : MethodId} {args : Array Value} {below : List Frame} {meth : Method} {c : Code} {A : Nat → Prop} {D : va_G} {ad : Nat → Nat} {cA : Nat → ClassId} (C : Cx p s m args meth c cX8_house RX8 3 A dsM D ad cA EM) (hr : meth.sig.returnType = some .int) (x1 : Int32) (x2 : Int32) (μ : Mem) : T p l e (rmD 1) s m args below meth c 3 A dsM D ad cA enI (fX8_house x1 x2 μ) 0 [(0, .ref (ad 0)), (1, .int x1), (2, .int x2)] [] μ := by
  unfold fX8_house
  refine tt_iload_n C 1 dX8_house_0 rfl rfl ?_
  refine tt_i2l C dX8_house_1 ?_
  refine tt_lconst (v := (1 : Int64)) C dX8_house_2 (by decide) ?_
  refine tt_aload_n C 0 dX8_house_3 rfl rfl ?_
  refine tt_getI C (j := 3) dM_0 rfl fl_RX8_164 dX8_house_4 ?_
  refine tt_i2l C dX8_house_7 ?_
  refine tt_bi (fun v2 m1 h1 => ?_)
  refine tt_callS (st := []) (As := [.long x1.toInt64, .long (1 : Int64), .long ((μ 0 3).toInt64)]) C (kX8_in C.2.2.2.2.2.2.2.1 h1) mi_X8_in ml_RX8_70 mt_X8_in rfl (by decide) (by decide) (Nat.le_of_ble_eq_true rfl) dX8_house_8 ?_
  refine tt_if (fun h2 => ?_) (fun h2 => ?_)
  · refine tt_if_eqT (tgt := 24) C h2 dX8_house_11 (by decide) ?_
    refine tt_sub [] (L2 := []) rfl ?_
    exact wX8_house_J24 C hr m1
  · refine tt_if_eqF C 24 h2 dX8_house_11 (by decide) ?_
    refine tt_iload_n C 2 dX8_house_14 rfl rfl ?_
    refine tt_i2l C dX8_house_15 ?_
    refine tt_lconst (v := (0 : Int64)) C dX8_house_16 (by decide) ?_
    refine tt_lconst (v := (1 : Int64)) C dX8_house_17 (by decide) ?_
    refine tt_bi (fun v4 m3 h3 => ?_)
    refine tt_callS (st := []) (As := [.long x2.toInt64, .long (0 : Int64), .long (1 : Int64)]) C (kX8_in C.2.2.2.2.2.2.2.1 h3) mi_X8_in ml_RX8_70 mt_X8_in rfl (by decide) (by decide) (Nat.le_of_ble_eq_true rfl) dX8_house_18 ?_
    refine tt_if (fun h4 => ?_) (fun h4 => ?_)
    · refine tt_if_neF C 28 h4 dX8_house_21 (by decide) ?_
      refine tt_sub [] (L2 := []) rfl ?_
      exact wX8_house_J24 C hr m3
    · refine tt_if_neT (tgt := 28) C h4 dX8_house_21 (by decide) ?_
      refine tt_iload_n C 2 dX8_house_28 rfl rfl ?_
      refine tt_if (fun h5 => ?_) (fun h5 => ?_)
      · refine tt_if_neF C 43 h5 dX8_house_29 (by decide) ?_
        refine tt_aload_n C 0 dX8_house_32 rfl rfl ?_
        refine tt_getR C (j := 1) (r0 := 2) dM_0 rfl fl_RX8_13 dX8_house_33 ?_
        refine tt_iload_n C 1 dX8_house_36 rfl rfl ?_
        refine tt_iconst (v := (1 : Int32)) C dX8_house_37 (by decide) ?_
        refine tt_isub C dX8_house_38 ?_
        refine tt_gr (fun h7 => ?_)
        refine tt_iald C dM_2 h7 dX8_house_39 ?_
        refine tt_goto (tgt := 51) C dX8_house_40 (by decide) ?_
        refine tt_sub [] (L2 := []) rfl ?_
        exact wX8_house_J51 C hr (m3 2 (x1 - (1 : Int32)).toNatClampNeg) m3
      · refine tt_if_neT (tgt := 43) C h5 dX8_house_29 (by decide) ?_
        refine tt_aload_n C 0 dX8_house_43 rfl rfl ?_
        refine tt_getR C (j := 2) (r0 := 3) dM_0 rfl fl_RX8_16 dX8_house_44 ?_
        refine tt_iload_n C 1 dX8_house_47 rfl rfl ?_
        refine tt_iconst (v := (1 : Int32)) C dX8_house_48 (by decide) ?_
        refine tt_isub C dX8_house_49 ?_
        refine tt_gr (fun h6 => ?_)
        refine tt_iald C dM_3 h6 dX8_house_50 ?_
        refine tt_sub [] (L2 := []) rfl ?_
        exact wX8_house_J51 C hr (m3 3 (x1 - (1 : Int32)).toNatClampNeg) m3
theorem kX8_house {l : Launch} {A : Nat → Prop} {D : va_G} {ad : Nat → Nat} {cA : Nat → ClassId} (hPk : Pk A dsM ad cA EM) {x1 : Int32} {x2 : Int32} {μ : Mem} {v : Int32} {ν : Mem} (h : fX8_house x1 x2 μ = some (v, ν)) : Ct l A dsM D ad cA EM yX8_house cX8_house 3 (some .int) 1 [.ref (ad 0), .int x1, .int x2] μ (enI (v, ν)) :=
  ct_of (by decide) (Nat.le_of_ble_eq_true rfl) hPk rfl (fun p e s m args below meth c C hr => wX8_house C hr x1 x2 μ) h

/-! BasketRoundModel.keep(I)I -/
def fX8_keep_J37 (x1 : Int32) (z0 : Int32) (μ : Mem) : Option (Int32 × Mem) := gr x1 2 <| lb (wr μ 16 x1.toNatClampNeg (vp_nar .boolean (1 : Int32))) fun m1 => some (z0, m1)
set_option maxHeartbeats 4000000 in
set_option maxRecDepth 100000 in
theorem wX8_keep_J37 {p : Program} {l : Launch} {e : Env} {s : State} {m : MethodId} {args : Array Value} {below : List Frame} {meth : Method} {c : Code} {A : Nat → Prop} {D : va_G} {ad : Nat → Nat} {cA : Nat → ClassId} (C : Cx p s m args meth c cX8_keep RX8 3 A dsM D ad cA EM) (hr : meth.sig.returnType = some .int) (x1 : Int32) (z0 : Int32) (μ : Mem) : T p l e (rmD 1) s m args below meth c 3 A dsM D ad cA enI (fX8_keep_J37 x1 z0 μ) 37 [(0, .ref (ad 0)), (1, .int x1)] [.int z0] μ := by
  unfold fX8_keep_J37
  refine tt_istore_n (L2 := [(2, .int z0), (0, .ref (ad 0)), (1, .int x1)]) C dX8_keep_37 rfl (by decide) rfl ?_
  refine tt_aload_n C 1 dX8_keep_38 rfl rfl ?_
  refine tt_getR C (j := 40) (r0 := 16) dM_0 rfl fl_RX8_55 dX8_keep_39 ?_
  refine tt_iload_n C 2 dX8_keep_42 rfl rfl ?_
  refine tt_iconst (v := (1 : Int32)) C dX8_keep_43 (by decide) ?_
  refine tt_gr (fun h1 => ?_)
  refine tt_zast C dM_16 h1 dX8_keep_44 ?_
  refine tt_lbm (fun m1 => ?_)
  refine tt_iload_n C 0 dX8_keep_45 rfl rfl ?_
  exact tt_iret rfl C hr dX8_keep_46

def fX8_keep (x1 : Int32) (μ : Mem) : Option (Int32 × Mem) := bi (fX8_in x1.toInt64 (0 : Int64) (1 : Int64) μ) fun v2 m1 => if v2 = (0 : Int32) then (some ((-1 : Int32), m1)) else (bv (fX8_copies (0 : Int32) ((32 : Int32) * (x1 + (1 : Int32))) m1) fun m3 => gr x1 2 <| if (m3 16 x1.toNatClampNeg) = (0 : Int32) then (fX8_keep_J37 x1 (0 : Int32) m3) else (fX8_keep_J37 x1 (1 : Int32) m3))
set_option maxHeartbeats 4000000 in
set_option maxRecDepth 100000 in
theorem wX8_keep {p : Program} {l : Launch} {e : Env} {s : State} {m : MethodId} {args : Array Value} {below : List Frame} {meth : Method} {c : Code} {A : Nat → Prop} {D : va_G} {ad : Nat → Nat} {cA : Nat → ClassId} (C : Cx p s m args meth c cX8_keep RX8 3 A dsM D ad cA EM) (hr : meth.sig.returnType = some .int) (x1 : Int32) (μ : Mem) : T p l e (rmD 1) s m args below meth c 3 A dsM D ad cA enI (fX8_keep x1 μ) 0 [(0, .ref (ad 0)), (1, .int x1)] [] μ := by
  unfold fX8_keep
  refine tt_iload_n C 1 dX8_keep_0 rfl rfl ?_
  refine tt_i2l C dX8_keep_1 ?_
  refine tt_lconst (v := (0 : Int64)) C dX8_keep_2 (by decide) ?_
  refine tt_lconst (v := (1 : Int64)) C dX8_keep_3 (by decide) ?_
  refine tt_bi (fun v2 m1 h1 => ?_)
  refine tt_callS (st := []) (As := [.long x1.toInt64, .long (0 : Int64), .long (1 : Int64)]) C (kX8_in C.2.2.2.2.2.2.2.1 h1) mi_X8_in ml_RX8_70 mt_X8_in rfl (by decide) (by decide) (Nat.le_of_ble_eq_true rfl) dX8_keep_4 ?_
  refine tt_if (fun h2 => ?_) (fun h2 => ?_)
  · refine tt_if_neF C 12 h2 dX8_keep_7 (by decide) ?_
    refine tt_iconst (v := (-1 : Int32)) C dX8_keep_10 (by decide) ?_
    exact tt_iret rfl C hr dX8_keep_11
  · refine tt_if_neT (tgt := 12) C h2 dX8_keep_7 (by decide) ?_
    refine tt_aload_n C 0 dX8_keep_12 rfl rfl ?_
    refine tt_iconst (v := (0 : Int32)) C dX8_keep_13 (by decide) ?_
    refine tt_bipush (v := (32 : Int32)) C dX8_keep_14 (by decide) ?_
    refine tt_iload_n C 1 dX8_keep_16 rfl rfl ?_
    refine tt_iconst (v := (1 : Int32)) C dX8_keep_17 (by decide) ?_
    refine tt_iadd C dX8_keep_18 ?_
    refine tt_imul C dX8_keep_19 ?_
    refine tt_bv (fun m3 h3 => ?_)
    refine tt_callV (st := []) (As := [.int (0 : Int32), .int ((32 : Int32) * (x1 + (1 : Int32)))]) C (kX8_copies C.2.2.2.2.2.2.2.1 h3) mi_X8_copies ml_RX8_300 mv_X8_copies ms_X8_copies (q := (RX8, TX8, 45)) dM_0 rfl rfl (by decide) (by decide) (Nat.le_of_ble_eq_true rfl) dX8_keep_20 ?_
    refine tt_aload_n C 0 dX8_keep_23 rfl rfl ?_
    refine tt_getR C (j := 40) (r0 := 16) dM_0 rfl fl_RX8_55 dX8_keep_24 ?_
    refine tt_iload_n C 1 dX8_keep_27 rfl rfl ?_
    refine tt_gr (fun h4 => ?_)
    refine tt_zald C dM_16 h4 dX8_keep_28 ?_
    refine tt_if (fun h5 => ?_) (fun h5 => ?_)
    · refine tt_if_eqT (tgt := 36) C h5 dX8_keep_29 (by decide) ?_
      refine tt_iconst (v := (0 : Int32)) C dX8_keep_36 (by decide) ?_
      refine tt_sub [0, 1] (L2 := [(0, .ref (ad 0)), (1, .int x1)]) rfl ?_
      exact wX8_keep_J37 C hr x1 (0 : Int32) m3
    · refine tt_if_eqF C 36 h5 dX8_keep_29 (by decide) ?_
      refine tt_iconst (v := (1 : Int32)) C dX8_keep_32 (by decide) ?_
      refine tt_goto (tgt := 37) C dX8_keep_33 (by decide) ?_
      refine tt_sub [0, 1] (L2 := [(0, .ref (ad 0)), (1, .int x1)]) rfl ?_
      exact wX8_keep_J37 C hr x1 (1 : Int32) m3
theorem kX8_keep {l : Launch} {A : Nat → Prop} {D : va_G} {ad : Nat → Nat} {cA : Nat → ClassId} (hPk : Pk A dsM ad cA EM) {x1 : Int32} {μ : Mem} {v : Int32} {ν : Mem} (h : fX8_keep x1 μ = some (v, ν)) : Ct l A dsM D ad cA EM yX8_keep cX8_keep 3 (some .int) 1 [.ref (ad 0), .int x1] μ (enI (v, ν)) :=
  ct_of (by decide) (Nat.le_of_ble_eq_true rfl) hPk rfl (fun p e s m args below meth c C hr => wX8_keep C hr x1 μ) h

/-! BasketRoundModel.late()I -/
def fX8_late (μ : Mem) : Option (Int32 × Mem) := bi (fX8_wholeRound μ) fun v2 m1 => some ((m1 0 33), m1)
set_option maxHeartbeats 4000000 in
set_option maxRecDepth 100000 in
theorem wX8_late {p : Program} {l : Launch} {e : Env} {s : State} {m : MethodId} {args : Array Value} {below : List Frame} {meth : Method} {c : Code} {A : Nat → Prop} {D : va_G} {ad : Nat → Nat} {cA : Nat → ClassId} (C : Cx p s m args meth c cX8_late RX8 1 A dsM D ad cA EM) (hr : meth.sig.returnType = some .int) (μ : Mem) : T p l e (rmD 4) s m args below meth c 1 A dsM D ad cA enI (fX8_late μ) 0 [(0, .ref (ad 0))] [] μ := by
  unfold fX8_late
  refine tt_aload_n C 0 dX8_late_0 rfl rfl ?_
  refine tt_bi (fun v2 m1 h1 => ?_)
  refine tt_callV (st := []) (As := []) C (kX8_wholeRound C.2.2.2.2.2.2.2.1 h1) mi_X8_wholeRound ml_RX8_245 mv_X8_wholeRound ms_X8_wholeRound (q := (RX8, TX8, 45)) dM_0 rfl rfl (by decide) (by decide) (Nat.le_of_ble_eq_true rfl) dX8_late_1 ?_
  refine tt_pop C dX8_late_4 rfl ?_
  refine tt_aload_n C 0 dX8_late_5 rfl rfl ?_
  refine tt_getI C (j := 33) dM_0 rfl fl_RX8_224 dX8_late_6 ?_
  exact tt_iret rfl C hr dX8_late_9
theorem kX8_late {l : Launch} {A : Nat → Prop} {D : va_G} {ad : Nat → Nat} {cA : Nat → ClassId} (hPk : Pk A dsM ad cA EM) {μ : Mem} {v : Int32} {ν : Mem} (h : fX8_late μ = some (v, ν)) : Ct l A dsM D ad cA EM yX8_late cX8_late 1 (some .int) 4 [.ref (ad 0)] μ (enI (v, ν)) :=
  ct_of (by decide) (Nat.le_of_ble_eq_true rfl) hPk rfl (fun p e s m args below meth c C hr => wX8_late C hr μ) h

/-! BasketRoundModel.latest()I -/
def fX8_latest_J44 (k13 : Int32 → Int32 → Int32 → Mem → Option (Int32 × Mem)) (x1 : Int32) (x3 : Int32) (z0 : Int32) (μ : Mem) : Option (Int32 × Mem) := lb (x3 + (1 : Int32)) fun (y1 : Int32) => k13 x1 z0 y1 μ
set_option maxHeartbeats 4000000 in
set_option maxRecDepth 100000 in
theorem wX8_latest_J44 {p : Program} {l : Launch} {e : Env} {s : State} {m : MethodId} {args : Array Value} {below : List Frame} {meth : Method} {c : Code} {A : Nat → Prop} {D : va_G} {ad : Nat → Nat} {cA : Nat → ClassId} (C : Cx p s m args meth c cX8_latest RX8 4 A dsM D ad cA EM) (hr : meth.sig.returnType = some .int) (k13 : Int32 → Int32 → Int32 → Mem → Option (Int32 × Mem)) (hk13 : ∀ (x1 : Int32) (x2 : Int32) (x3 : Int32) (μ : Mem), T p l e (rmD 4) s m args below meth c 4 A dsM D ad cA enI (k13 x1 x2 x3 μ) 13 [(0, .ref (ad 0)), (1, .int x1), (2, .int x2), (3, .int x3)] [] μ) (x1 : Int32) (x3 : Int32) (z0 : Int32) (μ : Mem) : T p l e (rmD 4) s m args below meth c 4 A dsM D ad cA enI (fX8_latest_J44 k13 x1 x3 z0 μ) 44 [(0, .ref (ad 0)), (1, .int x1), (3, .int x3)] [.int z0] μ := by
  unfold fX8_latest_J44
  refine tt_istore_n (L2 := [(2, .int z0), (0, .ref (ad 0)), (1, .int x1), (3, .int x3)]) C dX8_latest_44 rfl (by decide) rfl ?_
  refine tt_iincB (d := (1 : Int32)) C 3 (fun y1 => [(3, .int y1), (2, .int z0), (0, .ref (ad 0)), (1, .int x1)]) dX8_latest_45 rfl (by decide) (by decide) (fun _ => rfl) (fun y1 => ?_)
  refine tt_goto (tgt := 13) C dX8_latest_48 (by decide) ?_
  refine tt_sub [2, 3, 1, 0] (L2 := [(0, .ref (ad 0)), (1, .int x1), (2, .int z0), (3, .int y1)]) rfl ?_
  exact hk13 x1 z0 y1 μ

def fX8_latest_L13 : Nat → Int32 → Int32 → Int32 → Mem → Option (Int32 × Mem)
  | 0, _, _, _, _ => none
  | fu + 1, x1, x2, x3, μ => if (60 : Int32) < x3 then (gr (31 : Int32) 160 <| lb (wr μ 1 (31 : Int32).toNatClampNeg x1) fun m1 => some (x2, m1)) else (gr (31 : Int32) 160 <| lb (wr μ 1 (31 : Int32).toNatClampNeg x3) fun m2 => bi (fX8_wholeRound m2) fun v4 m3 => if (m3 0 33) = (0 : Int32) then (fX8_latest_J44 (fun x1 x2 x3 μ => fX8_latest_L13 fu x1 x2 x3 μ) x1 x3 x3 m3) else (fX8_latest_J44 (fun x1 x2 x3 μ => fX8_latest_L13 fu x1 x2 x3 μ) x1 x3 x2 m3))
set_option maxHeartbeats 4000000 in
set_option maxRecDepth 100000 in
theorem wX8_latest_L13 {p : Program} {l : Launch} {e : Env} {s : State} {m : MethodId} {args : Array Value} {below : List Frame} {meth : Method} {c : Code} {A : Nat → Prop} {D : va_G} {ad : Nat → Nat} {cA : Nat → ClassId} (C : Cx p s m args meth c cX8_latest RX8 4 A dsM D ad cA EM) (hr : meth.sig.returnType = some .int) : ∀ (fu : Nat) (x1 : Int32) (x2 : Int32) (x3 : Int32) (μ : Mem), T p l e (rmD 4) s m args below meth c 4 A dsM D ad cA enI (fX8_latest_L13 fu x1 x2 x3 μ) 13 [(0, .ref (ad 0)), (1, .int x1), (2, .int x2), (3, .int x3)] [] μ
  | 0, _, _, _, _ => tt_none
  | fu + 1, x1, x2, x3, μ => by
    have ih := fun (x1 : Int32) (x2 : Int32) (x3 : Int32) (μ : Mem) => wX8_latest_L13 (l := l) (e := e) (below := below) C hr fu x1 x2 x3 μ
    show T p l e (rmD 4) s m args below meth c 4 A dsM D ad cA enI (if (60 : Int32) < x3 then (gr (31 : Int32) 160 <| lb (wr μ 1 (31 : Int32).toNatClampNeg x1) fun m1 => some (x2, m1)) else (gr (31 : Int32) 160 <| lb (wr μ 1 (31 : Int32).toNatClampNeg x3) fun m2 => bi (fX8_wholeRound m2) fun v4 m3 => if (m3 0 33) = (0 : Int32) then (fX8_latest_J44 (fun x1 x2 x3 μ => fX8_latest_L13 fu x1 x2 x3 μ) x1 x3 x3 m3) else (fX8_latest_J44 (fun x1 x2 x3 μ => fX8_latest_L13 fu x1 x2 x3 μ) x1 x3 x2 m3))) 13 [(0, .ref (ad 0)), (1, .int x1), (2, .int x2), (3, .int x3)] [] μ
    refine tt_iload_n C 3 dX8_latest_13 rfl rfl ?_
    refine tt_bipush (v := (60 : Int32)) C dX8_latest_14 (by decide) ?_
    refine tt_if (fun h1 => ?_) (fun h1 => ?_)
    · refine tt_icmp_gtT (tgt := 51) C h1 dX8_latest_16 (by decide) ?_
      refine tt_aload_n C 0 dX8_latest_51 rfl rfl ?_
      refine tt_getR C (j := 0) (r0 := 1) dM_0 rfl fl_RX8_7 dX8_latest_52 ?_
      refine tt_bipush (v := (31 : Int32)) C dX8_latest_55 (by decide) ?_
      refine tt_iload_n C 1 dX8_latest_57 rfl rfl ?_
      refine tt_gr (fun h2 => ?_)
      refine tt_iast C dM_1 h2 dX8_latest_58 ?_
      refine tt_lbm (fun m1 => ?_)
      refine tt_iload_n C 2 dX8_latest_59 rfl rfl ?_
      exact tt_iret rfl C hr dX8_latest_60
    · refine tt_icmp_gtF C 51 h1 dX8_latest_16 (by decide) ?_
      refine tt_aload_n C 0 dX8_latest_19 rfl rfl ?_
      refine tt_getR C (j := 0) (r0 := 1) dM_0 rfl fl_RX8_7 dX8_latest_20 ?_
      refine tt_bipush (v := (31 : Int32)) C dX8_latest_23 (by decide) ?_
      refine tt_iload_n C 3 dX8_latest_25 rfl rfl ?_
      refine tt_gr (fun h3 => ?_)
      refine tt_iast C dM_1 h3 dX8_latest_26 ?_
      refine tt_lbm (fun m2 => ?_)
      refine tt_aload_n C 0 dX8_latest_27 rfl rfl ?_
      refine tt_bi (fun v4 m3 h4 => ?_)
      refine tt_callV (st := []) (As := []) C (kX8_wholeRound C.2.2.2.2.2.2.2.1 h4) mi_X8_wholeRound ml_RX8_245 mv_X8_wholeRound ms_X8_wholeRound (q := (RX8, TX8, 45)) dM_0 rfl rfl (by decide) (by decide) (Nat.le_of_ble_eq_true rfl) dX8_latest_28 ?_
      refine tt_pop C dX8_latest_31 rfl ?_
      refine tt_aload_n C 0 dX8_latest_32 rfl rfl ?_
      refine tt_getI C (j := 33) dM_0 rfl fl_RX8_224 dX8_latest_33 ?_
      refine tt_if (fun h5 => ?_) (fun h5 => ?_)
      · refine tt_if_neF C 43 h5 dX8_latest_36 (by decide) ?_
        refine tt_iload_n C 3 dX8_latest_39 rfl rfl ?_
        refine tt_goto (tgt := 44) C dX8_latest_40 (by decide) ?_
        refine tt_sub [0, 1, 3] (L2 := [(0, .ref (ad 0)), (1, .int x1), (3, .int x3)]) rfl ?_
        exact wX8_latest_J44 C hr (fun x1 x2 x3 μ => fX8_latest_L13 fu x1 x2 x3 μ) (fun x1 x2 x3 μ => ih x1 x2 x3 μ) x1 x3 x3 m3
      · refine tt_if_neT (tgt := 43) C h5 dX8_latest_36 (by decide) ?_
        refine tt_iload_n C 2 dX8_latest_43 rfl rfl ?_
        refine tt_sub [0, 1, 3] (L2 := [(0, .ref (ad 0)), (1, .int x1), (3, .int x3)]) rfl ?_
        exact wX8_latest_J44 C hr (fun x1 x2 x3 μ => fX8_latest_L13 fu x1 x2 x3 μ) (fun x1 x2 x3 μ => ih x1 x2 x3 μ) x1 x3 x2 m3

def fX8_latest (μ : Mem) : Option (Int32 × Mem) := gr (31 : Int32) 160 <| lb (μ 1 (31 : Int32).toNatClampNeg) fun (y1 : Int32) => lb (-4 : Int32) fun (y2 : Int32) => lb (0 : Int32) fun (y3 : Int32) => fX8_latest_L13 FU y1 y2 y3 μ
set_option maxHeartbeats 4000000 in
set_option maxRecDepth 100000 in
theorem wX8_latest {p : Program} {l : Launch} {e : Env} {s : State} {m : MethodId} {args : Array Value} {below : List Frame} {meth : Method} {c : Code} {A : Nat → Prop} {D : va_G} {ad : Nat → Nat} {cA : Nat → ClassId} (C : Cx p s m args meth c cX8_latest RX8 4 A dsM D ad cA EM) (hr : meth.sig.returnType = some .int) (μ : Mem) : T p l e (rmD 4) s m args below meth c 4 A dsM D ad cA enI (fX8_latest μ) 0 [(0, .ref (ad 0))] [] μ := by
  unfold fX8_latest
  refine tt_aload_n C 0 dX8_latest_0 rfl rfl ?_
  refine tt_getR C (j := 0) (r0 := 1) dM_0 rfl fl_RX8_7 dX8_latest_1 ?_
  refine tt_bipush (v := (31 : Int32)) C dX8_latest_4 (by decide) ?_
  refine tt_gr (fun h1 => ?_)
  refine tt_iald C dM_1 h1 dX8_latest_6 ?_
  refine tt_lbi (fun y1 => ?_)
  refine tt_istore_n (L2 := [(1, .int y1), (0, .ref (ad 0))]) C dX8_latest_7 rfl (by decide) rfl ?_
  refine tt_bipush (v := (-4 : Int32)) C dX8_latest_8 (by decide) ?_
  refine tt_lbi (fun y2 => ?_)
  refine tt_istore_n (L2 := [(2, .int y2), (1, .int y1), (0, .ref (ad 0))]) C dX8_latest_10 rfl (by decide) rfl ?_
  refine tt_iconst (v := (0 : Int32)) C dX8_latest_11 (by decide) ?_
  refine tt_lbi (fun y3 => ?_)
  refine tt_istore_n (L2 := [(3, .int y3), (2, .int y2), (1, .int y1), (0, .ref (ad 0))]) C dX8_latest_12 rfl (by decide) rfl ?_
  refine tt_sub [3, 2, 1, 0] (L2 := [(0, .ref (ad 0)), (1, .int y1), (2, .int y2), (3, .int y3)]) rfl ?_
  exact wX8_latest_L13 C hr FU y1 y2 y3 μ
theorem kX8_latest {l : Launch} {A : Nat → Prop} {D : va_G} {ad : Nat → Nat} {cA : Nat → ClassId} (hPk : Pk A dsM ad cA EM) {μ : Mem} {v : Int32} {ν : Mem} (h : fX8_latest μ = some (v, ν)) : Ct l A dsM D ad cA EM yX8_latest cX8_latest 4 (some .int) 4 [.ref (ad 0)] μ (enI (v, ν)) :=
  ct_of (by decide) (Nat.le_of_ble_eq_true rfl) hPk rfl (fun p e s m args below meth c C hr => wX8_latest C hr μ) h

/-! BasketRoundModel.lay(III)I -/
def fX8_lay_J99 (z1 : Int32) (z2 : Int32) (μ : Mem) : Option (Int32 × Mem) := gr z1 160 <| lb (wr μ 19 z1.toNatClampNeg z2) fun m1 => some ((1 : Int32), m1)
set_option maxHeartbeats 4000000 in
set_option maxRecDepth 100000 in
theorem wX8_lay_J99 {p : Program} {l : Launch} {e : Env} {s : State} {m : MethodId} {args : Array Value} {below : List Frame} {meth : Method} {c : Code} {A : Nat → Prop} {D : va_G} {ad : Nat → Nat} {cA : Nat → ClassId} (C : Cx p s m args meth c cX8_lay RX8 4 A dsM D ad cA EM) (hr : meth.sig.returnType = some .int) (z1 : Int32) (z2 : Int32) (μ : Mem) : T p l e (rmD 1) s m args below meth c 4 A dsM D ad cA enI (fX8_lay_J99 z1 z2 μ) 99 [] [.int z2, .int z1, .ref (ad 19)] μ := by
  unfold fX8_lay_J99
  refine tt_gr (fun h1 => ?_)
  refine tt_iast C dM_19 h1 dX8_lay_99 ?_
  refine tt_lbm (fun m1 => ?_)
  refine tt_iconst (v := (1 : Int32)) C dX8_lay_100 (by decide) ?_
  exact tt_iret rfl C hr dX8_lay_101

def fX8_lay (x1 : Int32) (x2 : Int32) (x3 : Int32) (μ : Mem) : Option (Int32 × Mem) := bi (fX8_in x1.toInt64 (0 : Int64) (3 : Int64) μ) fun v2 m1 => if v2 = (0 : Int32) then (some ((-1 : Int32), m1)) else (gr x1 4 <| if (m1 17 x1.toNatClampNeg) = (-4 : Int32) then (some ((-11 : Int32), m1)) else (gr x1 4 <| bi (fX8_in x2.toInt64 (0 : Int64) (((m1 18 x1.toNatClampNeg) - (1 : Int32)).toInt64) m1) fun v4 m3 => if v4 = (0 : Int32) then (some ((-12 : Int32), m3)) else (gr x1 4 <| if (m3 17 x1.toNatClampNeg) = (0 : Int32) then (fX8_lay_J99 (((40 : Int32) * x1) + x2) ((x3 <<< ((24 : Int32) &&& 31)) >>> ((24 : Int32) &&& 31)) m3) else (gr x1 4 <| if (m3 17 x1.toNatClampNeg) = (1 : Int32) then (fX8_lay_J99 (((40 : Int32) * x1) + x2) ((x3 <<< ((16 : Int32) &&& 31)) >>> ((16 : Int32) &&& 31)) m3) else (fX8_lay_J99 (((40 : Int32) * x1) + x2) x3 m3)))))
set_option maxHeartbeats 4000000 in
set_option maxRecDepth 100000 in
theorem wX8_lay {p : Program} {l : Launch} {e : Env} {s : State} {m : MethodId} {args : Array Value} {below : List Frame} {meth : Method} {c : Code} {A : Nat → Prop} {D : va_G} {ad : Nat → Nat} {cA : Nat → ClassId} (C : Cx p s m args meth c cX8_lay RX8 4 A dsM D ad cA EM) (hr : meth.sig.returnType = some .int) (x1 : Int32) (x2 : Int32) (x3 : Int32) (μ : Mem) : T p l e (rmD 1) s m args below meth c 4 A dsM D ad cA enI (fX8_lay x1 x2 x3 μ) 0 [(0, .ref (ad 0)), (1, .int x1), (2, .int x2), (3, .int x3)] [] μ := by
  unfold fX8_lay
  refine tt_iload_n C 1 dX8_lay_0 rfl rfl ?_
  refine tt_i2l C dX8_lay_1 ?_
  refine tt_lconst (v := (0 : Int64)) C dX8_lay_2 (by decide) ?_
  refine tt_ldc2 (v := (3 : Int64)) C kL_RX8_275 dX8_lay_3 ?_
  refine tt_bi (fun v2 m1 h1 => ?_)
  refine tt_callS (st := []) (As := [.long x1.toInt64, .long (0 : Int64), .long (3 : Int64)]) C (kX8_in C.2.2.2.2.2.2.2.1 h1) mi_X8_in ml_RX8_70 mt_X8_in rfl (by decide) (by decide) (Nat.le_of_ble_eq_true rfl) dX8_lay_6 ?_
  refine tt_if (fun h2 => ?_) (fun h2 => ?_)
  · refine tt_if_neF C 14 h2 dX8_lay_9 (by decide) ?_
    refine tt_iconst (v := (-1 : Int32)) C dX8_lay_12 (by decide) ?_
    exact tt_iret rfl C hr dX8_lay_13
  · refine tt_if_neT (tgt := 14) C h2 dX8_lay_9 (by decide) ?_
    refine tt_aload_n C 0 dX8_lay_14 rfl rfl ?_
    refine tt_getR C (j := 41) (r0 := 17) dM_0 rfl fl_RX8_59 dX8_lay_15 ?_
    refine tt_iload_n C 1 dX8_lay_18 rfl rfl ?_
    refine tt_gr (fun h3 => ?_)
    refine tt_iald C dM_17 h3 dX8_lay_19 ?_
    refine tt_bipush (v := (-4 : Int32)) C dX8_lay_20 (by decide) ?_
    refine tt_if (fun h4 => ?_) (fun h4 => ?_)
    · refine tt_icmp_neF C 28 h4 dX8_lay_22 (by decide) ?_
      refine tt_bipush (v := (-11 : Int32)) C dX8_lay_25 (by decide) ?_
      exact tt_iret rfl C hr dX8_lay_27
    · refine tt_icmp_neT (tgt := 28) C h4 dX8_lay_22 (by decide) ?_
      refine tt_iload_n C 2 dX8_lay_28 rfl rfl ?_
      refine tt_i2l C dX8_lay_29 ?_
      refine tt_lconst (v := (0 : Int64)) C dX8_lay_30 (by decide) ?_
      refine tt_aload_n C 0 dX8_lay_31 rfl rfl ?_
      refine tt_getR C (j := 42) (r0 := 18) dM_0 rfl fl_RX8_62 dX8_lay_32 ?_
      refine tt_iload_n C 1 dX8_lay_35 rfl rfl ?_
      refine tt_gr (fun h5 => ?_)
      refine tt_iald C dM_18 h5 dX8_lay_36 ?_
      refine tt_iconst (v := (1 : Int32)) C dX8_lay_37 (by decide) ?_
      refine tt_isub C dX8_lay_38 ?_
      refine tt_i2l C dX8_lay_39 ?_
      refine tt_bi (fun v4 m3 h6 => ?_)
      refine tt_callS (st := []) (As := [.long x2.toInt64, .long (0 : Int64), .long (((m1 18 x1.toNatClampNeg) - (1 : Int32)).toInt64)]) C (kX8_in C.2.2.2.2.2.2.2.1 h6) mi_X8_in ml_RX8_70 mt_X8_in rfl (by decide) (by decide) (Nat.le_of_ble_eq_true rfl) dX8_lay_40 ?_
      refine tt_if (fun h7 => ?_) (fun h7 => ?_)
      · refine tt_if_neF C 49 h7 dX8_lay_43 (by decide) ?_
        refine tt_bipush (v := (-12 : Int32)) C dX8_lay_46 (by decide) ?_
        exact tt_iret rfl C hr dX8_lay_48
      · refine tt_if_neT (tgt := 49) C h7 dX8_lay_43 (by decide) ?_
        refine tt_aload_n C 0 dX8_lay_49 rfl rfl ?_
        refine tt_getR C (j := 43) (r0 := 19) dM_0 rfl fl_RX8_65 dX8_lay_50 ?_
        refine tt_bipush (v := (40 : Int32)) C dX8_lay_53 (by decide) ?_
        refine tt_iload_n C 1 dX8_lay_55 rfl rfl ?_
        refine tt_imul C dX8_lay_56 ?_
        refine tt_iload_n C 2 dX8_lay_57 rfl rfl ?_
        refine tt_iadd C dX8_lay_58 ?_
        refine tt_aload_n C 0 dX8_lay_59 rfl rfl ?_
        refine tt_getR C (j := 41) (r0 := 17) dM_0 rfl fl_RX8_59 dX8_lay_60 ?_
        refine tt_iload_n C 1 dX8_lay_63 rfl rfl ?_
        refine tt_gr (fun h8 => ?_)
        refine tt_iald C dM_17 h8 dX8_lay_64 ?_
        refine tt_if (fun h9 => ?_) (fun h9 => ?_)
        · refine tt_if_neF C 78 h9 dX8_lay_65 (by decide) ?_
          refine tt_iload_n C 3 dX8_lay_68 rfl rfl ?_
          refine tt_bipush (v := (24 : Int32)) C dX8_lay_69 (by decide) ?_
          refine tt_ishl C dX8_lay_71 ?_
          refine tt_bipush (v := (24 : Int32)) C dX8_lay_72 (by decide) ?_
          refine tt_ishr C dX8_lay_74 ?_
          refine tt_goto (tgt := 99) C dX8_lay_75 (by decide) ?_
          refine tt_sub [] (L2 := []) rfl ?_
          exact wX8_lay_J99 C hr (((40 : Int32) * x1) + x2) ((x3 <<< ((24 : Int32) &&& 31)) >>> ((24 : Int32) &&& 31)) m3
        · refine tt_if_neT (tgt := 78) C h9 dX8_lay_65 (by decide) ?_
          refine tt_aload_n C 0 dX8_lay_78 rfl rfl ?_
          refine tt_getR C (j := 41) (r0 := 17) dM_0 rfl fl_RX8_59 dX8_lay_79 ?_
          refine tt_iload_n C 1 dX8_lay_82 rfl rfl ?_
          refine tt_gr (fun h10 => ?_)
          refine tt_iald C dM_17 h10 dX8_lay_83 ?_
          refine tt_iconst (v := (1 : Int32)) C dX8_lay_84 (by decide) ?_
          refine tt_if (fun h11 => ?_) (fun h11 => ?_)
          · refine tt_icmp_neF C 98 h11 dX8_lay_85 (by decide) ?_
            refine tt_iload_n C 3 dX8_lay_88 rfl rfl ?_
            refine tt_bipush (v := (16 : Int32)) C dX8_lay_89 (by decide) ?_
            refine tt_ishl C dX8_lay_91 ?_
            refine tt_bipush (v := (16 : Int32)) C dX8_lay_92 (by decide) ?_
            refine tt_ishr C dX8_lay_94 ?_
            refine tt_goto (tgt := 99) C dX8_lay_95 (by decide) ?_
            refine tt_sub [] (L2 := []) rfl ?_
            exact wX8_lay_J99 C hr (((40 : Int32) * x1) + x2) ((x3 <<< ((16 : Int32) &&& 31)) >>> ((16 : Int32) &&& 31)) m3
          · refine tt_icmp_neT (tgt := 98) C h11 dX8_lay_85 (by decide) ?_
            refine tt_iload_n C 3 dX8_lay_98 rfl rfl ?_
            refine tt_sub [] (L2 := []) rfl ?_
            exact wX8_lay_J99 C hr (((40 : Int32) * x1) + x2) x3 m3
theorem kX8_lay {l : Launch} {A : Nat → Prop} {D : va_G} {ad : Nat → Nat} {cA : Nat → ClassId} (hPk : Pk A dsM ad cA EM) {x1 : Int32} {x2 : Int32} {x3 : Int32} {μ : Mem} {v : Int32} {ν : Mem} (h : fX8_lay x1 x2 x3 μ = some (v, ν)) : Ct l A dsM D ad cA EM yX8_lay cX8_lay 4 (some .int) 1 [.ref (ad 0), .int x1, .int x2, .int x3] μ (enI (v, ν)) :=
  ct_of (by decide) (Nat.le_of_ble_eq_true rfl) hPk rfl (fun p e s m args below meth c C hr => wX8_lay C hr x1 x2 x3 μ) h

/-! BasketRoundModel.laysRow(II)V -/
def fX8_laysRow_J105 (k70 : Int32 → Int32 → Int32 → Int32 → Mem → Option (Mem)) (x2 : Int32) (x3 : Int32) (x4 : Int32) (x5 : Int32) (μ : Mem) : Option (Mem) := lb (x5 + (1 : Int32)) fun (y1 : Int32) => k70 x2 x3 x4 y1 μ
set_option maxHeartbeats 4000000 in
set_option maxRecDepth 100000 in
theorem wX8_laysRow_J105 {p : Program} {l : Launch} {e : Env} {s : State} {m : MethodId} {args : Array Value} {below : List Frame} {meth : Method} {c : Code} {A : Nat → Prop} {D : va_G} {ad : Nat → Nat} {cA : Nat → ClassId} (C : Cx p s m args meth c cX8_laysRow RX8 6 A dsM D ad cA EM) (hr : meth.sig.returnType = none) (k70 : Int32 → Int32 → Int32 → Int32 → Mem → Option (Mem)) (hk70 : ∀ (x2 : Int32) (x3 : Int32) (x4 : Int32) (x5 : Int32) (μ : Mem), T p l e (rmD 0) s m args below meth c 6 A dsM D ad cA enV (k70 x2 x3 x4 x5 μ) 70 [(0, .ref (ad 0)), (2, .int x2), (3, .int x3), (4, .int x4), (5, .int x5)] [] μ) (x2 : Int32) (x3 : Int32) (x4 : Int32) (x5 : Int32) (μ : Mem) : T p l e (rmD 0) s m args below meth c 6 A dsM D ad cA enV (fX8_laysRow_J105 k70 x2 x3 x4 x5 μ) 105 [(0, .ref (ad 0)), (2, .int x2), (3, .int x3), (4, .int x4), (5, .int x5)] [] μ := by
  unfold fX8_laysRow_J105
  refine tt_iincB (d := (1 : Int32)) C 4 (fun y1 => [(5, .int y1), (0, .ref (ad 0)), (2, .int x2), (3, .int x3), (4, .int x4)]) dX8_laysRow_105 rfl (by decide) (by decide) (fun _ => rfl) (fun y1 => ?_)
  refine tt_goto (tgt := 70) C dX8_laysRow_108 (by decide) ?_
  refine tt_sub [1, 2, 3, 4, 0] (L2 := [(0, .ref (ad 0)), (2, .int x2), (3, .int x3), (4, .int x4), (5, .int y1)]) rfl ?_
  exact hk70 x2 x3 x4 y1 μ

def fX8_laysRow_L70 : Nat → Int32 → Int32 → Int32 → Int32 → Mem → Option (Mem)
  | 0, _, _, _, _, _ => none
  | fu + 1, x2, x3, x4, x5, μ => if (μ 0 11) ≤ x5 then (some μ) else (if ((x3 >>> (x5 &&& 31)) &&& (1 : Int32)) = (0 : Int32) then (gr (x2 + x4) 32 <| lb (wr μ 5 (x2 + x4).toNatClampNeg (x5 - x4)) fun m1 => lb (x4 + (1 : Int32)) fun (y2 : Int32) => fX8_laysRow_J105 (fun x2 x3 x4 x5 μ => fX8_laysRow_L70 fu x2 x3 x4 x5 μ) x2 x3 y2 x5 m1) else (fX8_laysRow_J105 (fun x2 x3 x4 x5 μ => fX8_laysRow_L70 fu x2 x3 x4 x5 μ) x2 x3 x4 x5 μ))
set_option maxHeartbeats 4000000 in
set_option maxRecDepth 100000 in
theorem wX8_laysRow_L70 {p : Program} {l : Launch} {e : Env} {s : State} {m : MethodId} {args : Array Value} {below : List Frame} {meth : Method} {c : Code} {A : Nat → Prop} {D : va_G} {ad : Nat → Nat} {cA : Nat → ClassId} (C : Cx p s m args meth c cX8_laysRow RX8 6 A dsM D ad cA EM) (hr : meth.sig.returnType = none) : ∀ (fu : Nat) (x2 : Int32) (x3 : Int32) (x4 : Int32) (x5 : Int32) (μ : Mem), T p l e (rmD 0) s m args below meth c 6 A dsM D ad cA enV (fX8_laysRow_L70 fu x2 x3 x4 x5 μ) 70 [(0, .ref (ad 0)), (2, .int x2), (3, .int x3), (4, .int x4), (5, .int x5)] [] μ
  | 0, _, _, _, _, _ => tt_none
  | fu + 1, x2, x3, x4, x5, μ => by
    have ih := fun (x2 : Int32) (x3 : Int32) (x4 : Int32) (x5 : Int32) (μ : Mem) => wX8_laysRow_L70 (l := l) (e := e) (below := below) C hr fu x2 x3 x4 x5 μ
    show T p l e (rmD 0) s m args below meth c 6 A dsM D ad cA enV (if (μ 0 11) ≤ x5 then (some μ) else (if ((x3 >>> (x5 &&& 31)) &&& (1 : Int32)) = (0 : Int32) then (gr (x2 + x4) 32 <| lb (wr μ 5 (x2 + x4).toNatClampNeg (x5 - x4)) fun m1 => lb (x4 + (1 : Int32)) fun (y2 : Int32) => fX8_laysRow_J105 (fun x2 x3 x4 x5 μ => fX8_laysRow_L70 fu x2 x3 x4 x5 μ) x2 x3 y2 x5 m1) else (fX8_laysRow_J105 (fun x2 x3 x4 x5 μ => fX8_laysRow_L70 fu x2 x3 x4 x5 μ) x2 x3 x4 x5 μ))) 70 [(0, .ref (ad 0)), (2, .int x2), (3, .int x3), (4, .int x4), (5, .int x5)] [] μ
    refine tt_iload C 4 dX8_laysRow_70 rfl ?_
    refine tt_aload_n C 0 dX8_laysRow_72 rfl rfl ?_
    refine tt_getI C (j := 11) dM_0 rfl fl_RX8_119 dX8_laysRow_73 ?_
    refine tt_if (fun h1 => ?_) (fun h1 => ?_)
    · refine tt_icmp_geT (tgt := 111) C h1 dX8_laysRow_76 (by decide) ?_
      exact tt_vret rfl C hr dX8_laysRow_111
    · refine tt_icmp_geF C 111 h1 dX8_laysRow_76 (by decide) ?_
      refine tt_iload_n C 2 dX8_laysRow_79 rfl rfl ?_
      refine tt_iload C 4 dX8_laysRow_80 rfl ?_
      refine tt_ishr C dX8_laysRow_82 ?_
      refine tt_iconst (v := (1 : Int32)) C dX8_laysRow_83 (by decide) ?_
      refine tt_iand C dX8_laysRow_84 ?_
      refine tt_if (fun h2 => ?_) (fun h2 => ?_)
      · refine tt_if_neF C 105 h2 dX8_laysRow_85 (by decide) ?_
        refine tt_aload_n C 0 dX8_laysRow_88 rfl rfl ?_
        refine tt_getR C (j := 6) (r0 := 5) dM_0 rfl fl_RX8_22 dX8_laysRow_89 ?_
        refine tt_iload_n C 1 dX8_laysRow_92 rfl rfl ?_
        refine tt_iload C 3 dX8_laysRow_93 rfl ?_
        refine tt_iadd C dX8_laysRow_95 ?_
        refine tt_iload C 4 dX8_laysRow_96 rfl ?_
        refine tt_iload C 3 dX8_laysRow_98 rfl ?_
        refine tt_isub C dX8_laysRow_100 ?_
        refine tt_gr (fun h3 => ?_)
        refine tt_iast C dM_5 h3 dX8_laysRow_101 ?_
        refine tt_lbm (fun m1 => ?_)
        refine tt_iincB (d := (1 : Int32)) C 3 (fun y2 => [(4, .int y2), (0, .ref (ad 0)), (2, .int x2), (3, .int x3), (5, .int x5)]) dX8_laysRow_102 rfl (by decide) (by decide) (fun _ => rfl) (fun y2 => ?_)
        refine tt_sub [1, 2, 3, 0, 4] (L2 := [(0, .ref (ad 0)), (2, .int x2), (3, .int x3), (4, .int y2), (5, .int x5)]) rfl ?_
        exact wX8_laysRow_J105 C hr (fun x2 x3 x4 x5 μ => fX8_laysRow_L70 fu x2 x3 x4 x5 μ) (fun x2 x3 x4 x5 μ => ih x2 x3 x4 x5 μ) x2 x3 y2 x5 m1
      · refine tt_if_neT (tgt := 105) C h2 dX8_laysRow_85 (by decide) ?_
        refine tt_sub [0, 1, 2, 3, 4] (L2 := [(0, .ref (ad 0)), (2, .int x2), (3, .int x3), (4, .int x4), (5, .int x5)]) rfl ?_
        exact wX8_laysRow_J105 C hr (fun x2 x3 x4 x5 μ => fX8_laysRow_L70 fu x2 x3 x4 x5 μ) (fun x2 x3 x4 x5 μ => ih x2 x3 x4 x5 μ) x2 x3 x4 x5 μ

def fX8_laysRow_L8 : Nat → Int32 → Int32 → Int32 → Int32 → Int32 → Mem → Option (Mem)
  | 0, _, _, _, _, _, _ => none
  | fu + 1, x1, x2, x3, x4, x5, μ => gr x1 2 <| if (μ 10 x1.toNatClampNeg) ≤ x5 then (lb (0 : Int32) fun (y1 : Int32) => fX8_laysRow_L70 FU x2 x3 x4 y1 μ) else (gr (((5 : Int32) * x1) + x5) 10 <| gr (x2 + x4) 32 <| lb (wr μ 5 (x2 + x4).toNatClampNeg ((μ 9 (((5 : Int32) * x1) + x5).toNatClampNeg) - x4)) fun m2 => gr (((5 : Int32) * x1) + x5) 10 <| lb (x3 ||| ((1 : Int32) <<< ((m2 9 (((5 : Int32) * x1) + x5).toNatClampNeg) &&& 31))) fun (y3 : Int32) => lb (x4 + (1 : Int32)) fun (y4 : Int32) => lb (x5 + (1 : Int32)) fun (y5 : Int32) => fX8_laysRow_L8 fu x1 x2 y3 y4 y5 m2)
set_option maxHeartbeats 4000000 in
set_option maxRecDepth 100000 in
theorem wX8_laysRow_L8 {p : Program} {l : Launch} {e : Env} {s : State} {m : MethodId} {args : Array Value} {below : List Frame} {meth : Method} {c : Code} {A : Nat → Prop} {D : va_G} {ad : Nat → Nat} {cA : Nat → ClassId} (C : Cx p s m args meth c cX8_laysRow RX8 6 A dsM D ad cA EM) (hr : meth.sig.returnType = none) : ∀ (fu : Nat) (x1 : Int32) (x2 : Int32) (x3 : Int32) (x4 : Int32) (x5 : Int32) (μ : Mem), T p l e (rmD 0) s m args below meth c 6 A dsM D ad cA enV (fX8_laysRow_L8 fu x1 x2 x3 x4 x5 μ) 8 [(0, .ref (ad 0)), (1, .int x1), (2, .int x2), (3, .int x3), (4, .int x4), (5, .int x5)] [] μ
  | 0, _, _, _, _, _, _ => tt_none
  | fu + 1, x1, x2, x3, x4, x5, μ => by
    have ih := fun (x1 : Int32) (x2 : Int32) (x3 : Int32) (x4 : Int32) (x5 : Int32) (μ : Mem) => wX8_laysRow_L8 (l := l) (e := e) (below := below) C hr fu x1 x2 x3 x4 x5 μ
    show T p l e (rmD 0) s m args below meth c 6 A dsM D ad cA enV (gr x1 2 <| if (μ 10 x1.toNatClampNeg) ≤ x5 then (lb (0 : Int32) fun (y1 : Int32) => fX8_laysRow_L70 FU x2 x3 x4 y1 μ) else (gr (((5 : Int32) * x1) + x5) 10 <| gr (x2 + x4) 32 <| lb (wr μ 5 (x2 + x4).toNatClampNeg ((μ 9 (((5 : Int32) * x1) + x5).toNatClampNeg) - x4)) fun m2 => gr (((5 : Int32) * x1) + x5) 10 <| lb (x3 ||| ((1 : Int32) <<< ((m2 9 (((5 : Int32) * x1) + x5).toNatClampNeg) &&& 31))) fun (y3 : Int32) => lb (x4 + (1 : Int32)) fun (y4 : Int32) => lb (x5 + (1 : Int32)) fun (y5 : Int32) => fX8_laysRow_L8 fu x1 x2 y3 y4 y5 m2)) 8 [(0, .ref (ad 0)), (1, .int x1), (2, .int x2), (3, .int x3), (4, .int x4), (5, .int x5)] [] μ
    refine tt_iload C 5 dX8_laysRow_8 rfl ?_
    refine tt_aload_n C 0 dX8_laysRow_10 rfl rfl ?_
    refine tt_getR C (j := 14) (r0 := 10) dM_0 rfl fl_RX8_37 dX8_laysRow_11 ?_
    refine tt_iload_n C 1 dX8_laysRow_14 rfl rfl ?_
    refine tt_gr (fun h1 => ?_)
    refine tt_iald C dM_10 h1 dX8_laysRow_15 ?_
    refine tt_if (fun h2 => ?_) (fun h2 => ?_)
    · refine tt_icmp_geT (tgt := 67) C h2 dX8_laysRow_16 (by decide) ?_
      refine tt_iconst (v := (0 : Int32)) C dX8_laysRow_67 (by decide) ?_
      refine tt_lbi (fun y1 => ?_)
      refine tt_istore (L2 := [(5, .int y1), (0, .ref (ad 0)), (1, .int x1), (2, .int x2), (3, .int x3), (4, .int x4)]) C dX8_laysRow_68 (by decide) rfl ?_
      refine tt_sub [1, 3, 4, 5, 0] (L2 := [(0, .ref (ad 0)), (2, .int x2), (3, .int x3), (4, .int x4), (5, .int y1)]) rfl ?_
      exact wX8_laysRow_L70 C hr FU x2 x3 x4 y1 μ
    · refine tt_icmp_geF C 67 h2 dX8_laysRow_16 (by decide) ?_
      refine tt_aload_n C 0 dX8_laysRow_19 rfl rfl ?_
      refine tt_getR C (j := 6) (r0 := 5) dM_0 rfl fl_RX8_22 dX8_laysRow_20 ?_
      refine tt_iload_n C 2 dX8_laysRow_23 rfl rfl ?_
      refine tt_iload C 4 dX8_laysRow_24 rfl ?_
      refine tt_iadd C dX8_laysRow_26 ?_
      refine tt_aload_n C 0 dX8_laysRow_27 rfl rfl ?_
      refine tt_getR C (j := 13) (r0 := 9) dM_0 rfl fl_RX8_34 dX8_laysRow_28 ?_
      refine tt_iconst (v := (5 : Int32)) C dX8_laysRow_31 (by decide) ?_
      refine tt_iload_n C 1 dX8_laysRow_32 rfl rfl ?_
      refine tt_imul C dX8_laysRow_33 ?_
      refine tt_iload C 5 dX8_laysRow_34 rfl ?_
      refine tt_iadd C dX8_laysRow_36 ?_
      refine tt_gr (fun h3 => ?_)
      refine tt_iald C dM_9 h3 dX8_laysRow_37 ?_
      refine tt_iload C 4 dX8_laysRow_38 rfl ?_
      refine tt_isub C dX8_laysRow_40 ?_
      refine tt_gr (fun h4 => ?_)
      refine tt_iast C dM_5 h4 dX8_laysRow_41 ?_
      refine tt_lbm (fun m2 => ?_)
      refine tt_iload_n C 3 dX8_laysRow_42 rfl rfl ?_
      refine tt_iconst (v := (1 : Int32)) C dX8_laysRow_43 (by decide) ?_
      refine tt_aload_n C 0 dX8_laysRow_44 rfl rfl ?_
      refine tt_getR C (j := 13) (r0 := 9) dM_0 rfl fl_RX8_34 dX8_laysRow_45 ?_
      refine tt_iconst (v := (5 : Int32)) C dX8_laysRow_48 (by decide) ?_
      refine tt_iload_n C 1 dX8_laysRow_49 rfl rfl ?_
      refine tt_imul C dX8_laysRow_50 ?_
      refine tt_iload C 5 dX8_laysRow_51 rfl ?_
      refine tt_iadd C dX8_laysRow_53 ?_
      refine tt_gr (fun h5 => ?_)
      refine tt_iald C dM_9 h5 dX8_laysRow_54 ?_
      refine tt_ishl C dX8_laysRow_55 ?_
      refine tt_ior C dX8_laysRow_56 ?_
      refine tt_lbi (fun y3 => ?_)
      refine tt_istore_n (L2 := [(3, .int y3), (0, .ref (ad 0)), (1, .int x1), (2, .int x2), (4, .int x4), (5, .int x5)]) C dX8_laysRow_57 rfl (by decide) rfl ?_
      refine tt_iincB (d := (1 : Int32)) C 4 (fun y4 => [(4, .int y4), (3, .int y3), (0, .ref (ad 0)), (1, .int x1), (2, .int x2), (5, .int x5)]) dX8_laysRow_58 rfl (by decide) (by decide) (fun _ => rfl) (fun y4 => ?_)
      refine tt_iincB (d := (1 : Int32)) C 5 (fun y5 => [(5, .int y5), (4, .int y4), (3, .int y3), (0, .ref (ad 0)), (1, .int x1), (2, .int x2)]) dX8_laysRow_61 rfl (by decide) (by decide) (fun _ => rfl) (fun y5 => ?_)
      refine tt_goto (tgt := 8) C dX8_laysRow_64 (by decide) ?_
      refine tt_sub [3, 4, 5, 2, 1, 0] (L2 := [(0, .ref (ad 0)), (1, .int x1), (2, .int x2), (3, .int y3), (4, .int y4), (5, .int y5)]) rfl ?_
      exact ih x1 x2 y3 y4 y5 m2

def fX8_laysRow (x1 : Int32) (x2 : Int32) (μ : Mem) : Option (Mem) := lb (0 : Int32) fun (y1 : Int32) => lb (0 : Int32) fun (y2 : Int32) => lb (0 : Int32) fun (y3 : Int32) => fX8_laysRow_L8 FU x1 x2 y1 y2 y3 μ
set_option maxHeartbeats 4000000 in
set_option maxRecDepth 100000 in
theorem wX8_laysRow {p : Program} {l : Launch} {e : Env} {s : State} {m : MethodId} {args : Array Value} {below : List Frame} {meth : Method} {c : Code} {A : Nat → Prop} {D : va_G} {ad : Nat → Nat} {cA : Nat → ClassId} (C : Cx p s m args meth c cX8_laysRow RX8 6 A dsM D ad cA EM) (hr : meth.sig.returnType = none) (x1 : Int32) (x2 : Int32) (μ : Mem) : T p l e (rmD 0) s m args below meth c 6 A dsM D ad cA enV (fX8_laysRow x1 x2 μ) 0 [(0, .ref (ad 0)), (1, .int x1), (2, .int x2)] [] μ := by
  unfold fX8_laysRow
  refine tt_iconst (v := (0 : Int32)) C dX8_laysRow_0 (by decide) ?_
  refine tt_lbi (fun y1 => ?_)
  refine tt_istore_n (L2 := [(3, .int y1), (0, .ref (ad 0)), (1, .int x1), (2, .int x2)]) C dX8_laysRow_1 rfl (by decide) rfl ?_
  refine tt_iconst (v := (0 : Int32)) C dX8_laysRow_2 (by decide) ?_
  refine tt_lbi (fun y2 => ?_)
  refine tt_istore (L2 := [(4, .int y2), (3, .int y1), (0, .ref (ad 0)), (1, .int x1), (2, .int x2)]) C dX8_laysRow_3 (by decide) rfl ?_
  refine tt_iconst (v := (0 : Int32)) C dX8_laysRow_5 (by decide) ?_
  refine tt_lbi (fun y3 => ?_)
  refine tt_istore (L2 := [(5, .int y3), (4, .int y2), (3, .int y1), (0, .ref (ad 0)), (1, .int x1), (2, .int x2)]) C dX8_laysRow_6 (by decide) rfl ?_
  refine tt_sub [3, 4, 5, 2, 1, 0] (L2 := [(0, .ref (ad 0)), (1, .int x1), (2, .int x2), (3, .int y1), (4, .int y2), (5, .int y3)]) rfl ?_
  exact wX8_laysRow_L8 C hr FU x1 x2 y1 y2 y3 μ
theorem kX8_laysRow {l : Launch} {A : Nat → Prop} {D : va_G} {ad : Nat → Nat} {cA : Nat → ClassId} (hPk : Pk A dsM ad cA EM) {x1 : Int32} {x2 : Int32} {μ : Mem} {ν : Mem} (h : fX8_laysRow x1 x2 μ = some ν) : Ct l A dsM D ad cA EM yX8_laysRow cX8_laysRow 6 none 0 [.ref (ad 0), .int x1, .int x2] μ (enV ν) :=
  ct_of (by decide) (Nat.le_of_ble_eq_true rfl) hPk rfl (fun p e s m args below meth c C hr => wX8_laysRow C hr x1 x2 μ) h

/-! BasketRoundModel.leave(I)I -/
def fX8_leave_J146 (z0 : Int32) (μ : Mem) : Option (Int32 × Mem) := some (z0, μ)
set_option maxHeartbeats 4000000 in
set_option maxRecDepth 100000 in
theorem wX8_leave_J146 {p : Program} {l : Launch} {e : Env} {s : State} {m : MethodId} {args : Array Value} {below : List Frame} {meth : Method} {c : Code} {A : Nat → Prop} {D : va_G} {ad : Nat → Nat} {cA : Nat → ClassId} (C : Cx p s m args meth c cX8_leave RX8 9 A dsM D ad cA EM) (hr : meth.sig.returnType = some .int) (z0 : Int32) (μ : Mem) : T p l e (rmD 4) s m args below meth c 9 A dsM D ad cA enI (fX8_leave_J146 z0 μ) 146 [] [.int z0] μ := by
  unfold fX8_leave_J146
  exact tt_iret rfl C hr dX8_leave_146

def fX8_leave_J141 (x3 : Int32) (μ : Mem) : Option (Int32 × Mem) := fX8_leave_J146 x3 μ
set_option maxHeartbeats 4000000 in
set_option maxRecDepth 100000 in
theorem wX8_leave_J141 {p : Program} {l : Launch} {e : Env} {s : State} {m : MethodId} {args : Array Value} {below : List Frame} {meth : Method} {c : Code} {A : Nat → Prop} {D : va_G} {ad : Nat → Nat} {cA : Nat → ClassId} (C : Cx p s m args meth c cX8_leave RX8 9 A dsM D ad cA EM) (hr : meth.sig.returnType = some .int) (x3 : Int32) (μ : Mem) : T p l e (rmD 4) s m args below meth c 9 A dsM D ad cA enI (fX8_leave_J141 x3 μ) 141 [(3, .int x3)] [] μ := by
  unfold fX8_leave_J141
  refine tt_iload_n C 0 dX8_leave_141 rfl rfl ?_
  refine tt_goto (tgt := 146) C dX8_leave_142 (by decide) ?_
  refine tt_sub [] (L2 := []) rfl ?_
  exact wX8_leave_J146 C hr x3 μ

def fX8_leave_J124 (k20 : Int32 → Int32 → Int32 → Int32 → Mem → Option (Int32 × Mem)) (x1 : Int32) (x3 : Int32) (x4 : Int32) (z0 : Int32) (μ : Mem) : Option (Int32 × Mem) := lb (x4 + (1 : Int32)) fun (y1 : Int32) => k20 x1 z0 x3 y1 μ
set_option maxHeartbeats 4000000 in
set_option maxRecDepth 100000 in
theorem wX8_leave_J124 {p : Program} {l : Launch} {e : Env} {s : State} {m : MethodId} {args : Array Value} {below : List Frame} {meth : Method} {c : Code} {A : Nat → Prop} {D : va_G} {ad : Nat → Nat} {cA : Nat → ClassId} (C : Cx p s m args meth c cX8_leave RX8 9 A dsM D ad cA EM) (hr : meth.sig.returnType = some .int) (k20 : Int32 → Int32 → Int32 → Int32 → Mem → Option (Int32 × Mem)) (hk20 : ∀ (x1 : Int32) (x2 : Int32) (x3 : Int32) (x4 : Int32) (μ : Mem), T p l e (rmD 4) s m args below meth c 9 A dsM D ad cA enI (k20 x1 x2 x3 x4 μ) 20 [(0, .ref (ad 0)), (1, .int x1), (2, .int x2), (3, .int x3), (4, .int x4)] [] μ) (x1 : Int32) (x3 : Int32) (x4 : Int32) (z0 : Int32) (μ : Mem) : T p l e (rmD 4) s m args below meth c 9 A dsM D ad cA enI (fX8_leave_J124 k20 x1 x3 x4 z0 μ) 124 [(0, .ref (ad 0)), (1, .int x1), (3, .int x3), (4, .int x4)] [.int z0] μ := by
  unfold fX8_leave_J124
  refine tt_istore_n (L2 := [(2, .int z0), (0, .ref (ad 0)), (1, .int x1), (3, .int x3), (4, .int x4)]) C dX8_leave_124 rfl (by decide) rfl ?_
  refine tt_iincB (d := (1 : Int32)) C 4 (fun y1 => [(4, .int y1), (2, .int z0), (0, .ref (ad 0)), (1, .int x1), (3, .int x3)]) dX8_leave_125 rfl (by decide) (by decide) (fun _ => rfl) (fun y1 => ?_)
  refine tt_goto (tgt := 20) C dX8_leave_128 (by decide) ?_
  refine tt_sub [2, 3, 1, 4, 0] (L2 := [(0, .ref (ad 0)), (1, .int x1), (2, .int z0), (3, .int x3), (4, .int y1)]) rfl ?_
  exact hk20 x1 z0 x3 y1 μ

def fX8_leave_J112 (k20 : Int32 → Int32 → Int32 → Int32 → Mem → Option (Int32 × Mem)) (x1 : Int32) (x2 : Int32) (x4 : Int32) (x7 : Int32) (x8 : Int32) (z0 : Int32) (μ : Mem) : Option (Int32 × Mem) := if x8 = (0 : Int32) then (fX8_leave_J124 k20 x1 z0 x4 x2 μ) else (fX8_leave_J124 k20 x1 z0 x4 x7 μ)
set_option maxHeartbeats 4000000 in
set_option maxRecDepth 100000 in
theorem wX8_leave_J112 {p : Program} {l : Launch} {e : Env} {s : State} {m : MethodId} {args : Array Value} {below : List Frame} {meth : Method} {c : Code} {A : Nat → Prop} {D : va_G} {ad : Nat → Nat} {cA : Nat → ClassId} (C : Cx p s m args meth c cX8_leave RX8 9 A dsM D ad cA EM) (hr : meth.sig.returnType = some .int) (k20 : Int32 → Int32 → Int32 → Int32 → Mem → Option (Int32 × Mem)) (hk20 : ∀ (x1 : Int32) (x2 : Int32) (x3 : Int32) (x4 : Int32) (μ : Mem), T p l e (rmD 4) s m args below meth c 9 A dsM D ad cA enI (k20 x1 x2 x3 x4 μ) 20 [(0, .ref (ad 0)), (1, .int x1), (2, .int x2), (3, .int x3), (4, .int x4)] [] μ) (x1 : Int32) (x2 : Int32) (x4 : Int32) (x7 : Int32) (x8 : Int32) (z0 : Int32) (μ : Mem) : T p l e (rmD 4) s m args below meth c 9 A dsM D ad cA enI (fX8_leave_J112 k20 x1 x2 x4 x7 x8 z0 μ) 112 [(0, .ref (ad 0)), (1, .int x1), (2, .int x2), (4, .int x4), (7, .int x7), (8, .int x8)] [.int z0] μ := by
  unfold fX8_leave_J112
  refine tt_istore_n (L2 := [(3, .int z0), (0, .ref (ad 0)), (1, .int x1), (2, .int x2), (4, .int x4), (7, .int x7), (8, .int x8)]) C dX8_leave_112 rfl (by decide) rfl ?_
  refine tt_iload C 6 dX8_leave_113 rfl ?_
  refine tt_if (fun h1 => ?_) (fun h1 => ?_)
  · refine tt_if_eqT (tgt := 123) C h1 dX8_leave_115 (by decide) ?_
    refine tt_iload_n C 3 dX8_leave_123 rfl rfl ?_
    refine tt_sub [1, 2, 0, 4] (L2 := [(0, .ref (ad 0)), (1, .int x1), (3, .int z0), (4, .int x4)]) rfl ?_
    exact wX8_leave_J124 C hr k20 hk20 x1 z0 x4 x2 μ
  · refine tt_if_eqF C 123 h1 dX8_leave_115 (by decide) ?_
    refine tt_iload C 5 dX8_leave_118 rfl ?_
    refine tt_goto (tgt := 124) C dX8_leave_120 (by decide) ?_
    refine tt_sub [1, 2, 0, 4] (L2 := [(0, .ref (ad 0)), (1, .int x1), (3, .int z0), (4, .int x4)]) rfl ?_
    exact wX8_leave_J124 C hr k20 hk20 x1 z0 x4 x7 μ

def fX8_leave_J99 (k20 : Int32 → Int32 → Int32 → Int32 → Mem → Option (Int32 × Mem)) (x1 : Int32) (x2 : Int32) (x3 : Int32) (x4 : Int32) (x7 : Int32) (z0 : Int32) (μ : Mem) : Option (Int32 × Mem) := if z0 = (0 : Int32) then (fX8_leave_J112 k20 x1 x2 x4 x7 z0 x3 μ) else (fX8_leave_J112 k20 x1 x2 x4 x7 z0 x4 μ)
set_option maxHeartbeats 4000000 in
set_option maxRecDepth 100000 in
theorem wX8_leave_J99 {p : Program} {l : Launch} {e : Env} {s : State} {m : MethodId} {args : Array Value} {below : List Frame} {meth : Method} {c : Code} {A : Nat → Prop} {D : va_G} {ad : Nat → Nat} {cA : Nat → ClassId} (C : Cx p s m args meth c cX8_leave RX8 9 A dsM D ad cA EM) (hr : meth.sig.returnType = some .int) (k20 : Int32 → Int32 → Int32 → Int32 → Mem → Option (Int32 × Mem)) (hk20 : ∀ (x1 : Int32) (x2 : Int32) (x3 : Int32) (x4 : Int32) (μ : Mem), T p l e (rmD 4) s m args below meth c 9 A dsM D ad cA enI (k20 x1 x2 x3 x4 μ) 20 [(0, .ref (ad 0)), (1, .int x1), (2, .int x2), (3, .int x3), (4, .int x4)] [] μ) (x1 : Int32) (x2 : Int32) (x3 : Int32) (x4 : Int32) (x7 : Int32) (z0 : Int32) (μ : Mem) : T p l e (rmD 4) s m args below meth c 9 A dsM D ad cA enI (fX8_leave_J99 k20 x1 x2 x3 x4 x7 z0 μ) 99 [(0, .ref (ad 0)), (1, .int x1), (2, .int x2), (3, .int x3), (4, .int x4), (7, .int x7)] [.int z0] μ := by
  unfold fX8_leave_J99
  refine tt_istore (L2 := [(8, .int z0), (0, .ref (ad 0)), (1, .int x1), (2, .int x2), (3, .int x3), (4, .int x4), (7, .int x7)]) C dX8_leave_99 (by decide) rfl ?_
  refine tt_iload C 0 dX8_leave_101 rfl ?_
  refine tt_if (fun h1 => ?_) (fun h1 => ?_)
  · refine tt_if_eqT (tgt := 111) C h1 dX8_leave_103 (by decide) ?_
    refine tt_iload_n C 4 dX8_leave_111 rfl rfl ?_
    refine tt_sub [1, 2, 3, 5, 6, 0] (L2 := [(0, .ref (ad 0)), (1, .int x1), (2, .int x2), (4, .int x4), (7, .int x7), (8, .int z0)]) rfl ?_
    exact wX8_leave_J112 C hr k20 hk20 x1 x2 x4 x7 z0 x3 μ
  · refine tt_if_eqF C 111 h1 dX8_leave_103 (by decide) ?_
    refine tt_iload C 5 dX8_leave_106 rfl ?_
    refine tt_goto (tgt := 112) C dX8_leave_108 (by decide) ?_
    refine tt_sub [1, 2, 3, 5, 6, 0] (L2 := [(0, .ref (ad 0)), (1, .int x1), (2, .int x2), (4, .int x4), (7, .int x7), (8, .int z0)]) rfl ?_
    exact wX8_leave_J112 C hr k20 hk20 x1 x2 x4 x7 z0 x4 μ

def fX8_leave_J98 (k20 : Int32 → Int32 → Int32 → Int32 → Mem → Option (Int32 × Mem)) (x1 : Int32) (x2 : Int32) (x3 : Int32) (x4 : Int32) (x7 : Int32) (μ : Mem) : Option (Int32 × Mem) := fX8_leave_J99 k20 x1 x2 x3 x4 x7 (0 : Int32) μ
set_option maxHeartbeats 4000000 in
set_option maxRecDepth 100000 in
theorem wX8_leave_J98 {p : Program} {l : Launch} {e : Env} {s : State} {m : MethodId} {args : Array Value} {below : List Frame} {meth : Method} {c : Code} {A : Nat → Prop} {D : va_G} {ad : Nat → Nat} {cA : Nat → ClassId} (C : Cx p s m args meth c cX8_leave RX8 9 A dsM D ad cA EM) (hr : meth.sig.returnType = some .int) (k20 : Int32 → Int32 → Int32 → Int32 → Mem → Option (Int32 × Mem)) (hk20 : ∀ (x1 : Int32) (x2 : Int32) (x3 : Int32) (x4 : Int32) (μ : Mem), T p l e (rmD 4) s m args below meth c 9 A dsM D ad cA enI (k20 x1 x2 x3 x4 μ) 20 [(0, .ref (ad 0)), (1, .int x1), (2, .int x2), (3, .int x3), (4, .int x4)] [] μ) (x1 : Int32) (x2 : Int32) (x3 : Int32) (x4 : Int32) (x7 : Int32) (μ : Mem) : T p l e (rmD 4) s m args below meth c 9 A dsM D ad cA enI (fX8_leave_J98 k20 x1 x2 x3 x4 x7 μ) 98 [(0, .ref (ad 0)), (1, .int x1), (2, .int x2), (3, .int x3), (4, .int x4), (7, .int x7)] [] μ := by
  unfold fX8_leave_J98
  refine tt_iconst (v := (0 : Int32)) C dX8_leave_98 (by decide) ?_
  refine tt_sub [0, 1, 2, 3, 4, 5] (L2 := [(0, .ref (ad 0)), (1, .int x1), (2, .int x2), (3, .int x3), (4, .int x4), (7, .int x7)]) rfl ?_
  exact wX8_leave_J99 C hr k20 hk20 x1 x2 x3 x4 x7 (0 : Int32) μ

def fX8_leave_L20 : Nat → Int32 → Int32 → Int32 → Int32 → Mem → Option (Int32 × Mem)
  | 0, _, _, _, _, _ => none
  | fu + 1, x1, x2, x3, x4, μ => if (μ 0 5) ≤ x4 then (if x3 = (-4 : Int32) then (fX8_leave_J141 x3 μ) else (if x1 = (0 : Int32) then (fX8_leave_J141 x3 μ) else (fX8_leave_J146 x2 μ))) else (bi (fX8_every μ) fun v2 m1 => lb (v2 &&& (((1 : Int32) <<< (x4 &&& 31)) ^^^ (-1 : Int32))) fun (y3 : Int32) => bi (fX8_wholeRound m1) fun v5 m4 => bi (fX8_penniesOf y3 m4) fun v7 m6 => bv (fX8_clears m6) fun m8 => gr (31 : Int32) 160 <| bi (fX8_goes y3 (m8 1 (31 : Int32).toNatClampNeg) m8) fun v10 m9 => bi (fX8_penniesOf y3 m9) fun v12 m11 => if v12 ≤ v7 then (fX8_leave_J98 (fun x1 x2 x3 x4 μ => fX8_leave_L20 fu x1 x2 x3 x4 μ) x1 x2 x3 x4 v12 m11) else (if v12 ≤ x2 then (fX8_leave_J98 (fun x1 x2 x3 x4 μ => fX8_leave_L20 fu x1 x2 x3 x4 μ) x1 x2 x3 x4 v12 m11) else (fX8_leave_J99 (fun x1 x2 x3 x4 μ => fX8_leave_L20 fu x1 x2 x3 x4 μ) x1 x2 x3 x4 v12 (1 : Int32) m11)))
set_option maxHeartbeats 4000000 in
set_option maxRecDepth 100000 in
theorem wX8_leave_L20 {p : Program} {l : Launch} {e : Env} {s : State} {m : MethodId} {args : Array Value} {below : List Frame} {meth : Method} {c : Code} {A : Nat → Prop} {D : va_G} {ad : Nat → Nat} {cA : Nat → ClassId} (C : Cx p s m args meth c cX8_leave RX8 9 A dsM D ad cA EM) (hr : meth.sig.returnType = some .int) : ∀ (fu : Nat) (x1 : Int32) (x2 : Int32) (x3 : Int32) (x4 : Int32) (μ : Mem), T p l e (rmD 4) s m args below meth c 9 A dsM D ad cA enI (fX8_leave_L20 fu x1 x2 x3 x4 μ) 20 [(0, .ref (ad 0)), (1, .int x1), (2, .int x2), (3, .int x3), (4, .int x4)] [] μ
  | 0, _, _, _, _, _ => tt_none
  | fu + 1, x1, x2, x3, x4, μ => by
    have ih := fun (x1 : Int32) (x2 : Int32) (x3 : Int32) (x4 : Int32) (μ : Mem) => wX8_leave_L20 (l := l) (e := e) (below := below) C hr fu x1 x2 x3 x4 μ
    show T p l e (rmD 4) s m args below meth c 9 A dsM D ad cA enI (if (μ 0 5) ≤ x4 then (if x3 = (-4 : Int32) then (fX8_leave_J141 x3 μ) else (if x1 = (0 : Int32) then (fX8_leave_J141 x3 μ) else (fX8_leave_J146 x2 μ))) else (bi (fX8_every μ) fun v2 m1 => lb (v2 &&& (((1 : Int32) <<< (x4 &&& 31)) ^^^ (-1 : Int32))) fun (y3 : Int32) => bi (fX8_wholeRound m1) fun v5 m4 => bi (fX8_penniesOf y3 m4) fun v7 m6 => bv (fX8_clears m6) fun m8 => gr (31 : Int32) 160 <| bi (fX8_goes y3 (m8 1 (31 : Int32).toNatClampNeg) m8) fun v10 m9 => bi (fX8_penniesOf y3 m9) fun v12 m11 => if v12 ≤ v7 then (fX8_leave_J98 (fun x1 x2 x3 x4 μ => fX8_leave_L20 fu x1 x2 x3 x4 μ) x1 x2 x3 x4 v12 m11) else (if v12 ≤ x2 then (fX8_leave_J98 (fun x1 x2 x3 x4 μ => fX8_leave_L20 fu x1 x2 x3 x4 μ) x1 x2 x3 x4 v12 m11) else (fX8_leave_J99 (fun x1 x2 x3 x4 μ => fX8_leave_L20 fu x1 x2 x3 x4 μ) x1 x2 x3 x4 v12 (1 : Int32) m11)))) 20 [(0, .ref (ad 0)), (1, .int x1), (2, .int x2), (3, .int x3), (4, .int x4)] [] μ
    refine tt_iload C 4 dX8_leave_20 rfl ?_
    refine tt_aload_n C 0 dX8_leave_22 rfl rfl ?_
    refine tt_getI C (j := 5) dM_0 rfl fl_RX8_167 dX8_leave_23 ?_
    refine tt_if (fun h1 => ?_) (fun h1 => ?_)
    · refine tt_icmp_geT (tgt := 131) C h1 dX8_leave_26 (by decide) ?_
      refine tt_iload_n C 3 dX8_leave_131 rfl rfl ?_
      refine tt_bipush (v := (-4 : Int32)) C dX8_leave_132 (by decide) ?_
      refine tt_if (fun h2 => ?_) (fun h2 => ?_)
      · refine tt_icmp_eqT (tgt := 141) C h2 dX8_leave_134 (by decide) ?_
        refine tt_sub [3] (L2 := [(3, .int x3)]) rfl ?_
        exact wX8_leave_J141 C hr x3 μ
      · refine tt_icmp_eqF C 141 h2 dX8_leave_134 (by decide) ?_
        refine tt_iload_n C 1 dX8_leave_137 rfl rfl ?_
        refine tt_if (fun h3 => ?_) (fun h3 => ?_)
        · refine tt_if_neF C 145 h3 dX8_leave_138 (by decide) ?_
          refine tt_sub [3] (L2 := [(3, .int x3)]) rfl ?_
          exact wX8_leave_J141 C hr x3 μ
        · refine tt_if_neT (tgt := 145) C h3 dX8_leave_138 (by decide) ?_
          refine tt_iload_n C 2 dX8_leave_145 rfl rfl ?_
          refine tt_sub [] (L2 := []) rfl ?_
          exact wX8_leave_J146 C hr x2 μ
    · refine tt_icmp_geF C 131 h1 dX8_leave_26 (by decide) ?_
      refine tt_aload_n C 0 dX8_leave_29 rfl rfl ?_
      refine tt_bi (fun v2 m1 h4 => ?_)
      refine tt_callV (st := []) (As := []) C (kX8_every C.2.2.2.2.2.2.2.1 h4) mi_X8_every ml_RX8_239 mv_X8_every ms_X8_every (q := (RX8, TX8, 45)) dM_0 rfl rfl (by decide) (by decide) (Nat.le_of_ble_eq_true rfl) dX8_leave_30 ?_
      refine tt_iconst (v := (1 : Int32)) C dX8_leave_33 (by decide) ?_
      refine tt_iload C 4 dX8_leave_34 rfl ?_
      refine tt_ishl C dX8_leave_36 ?_
      refine tt_iconst (v := (-1 : Int32)) C dX8_leave_37 (by decide) ?_
      refine tt_ixor C dX8_leave_38 ?_
      refine tt_iand C dX8_leave_39 ?_
      refine tt_lbi (fun y3 => ?_)
      refine tt_istore (L2 := [(5, .int y3), (0, .ref (ad 0)), (1, .int x1), (2, .int x2), (3, .int x3), (4, .int x4)]) C dX8_leave_40 (by decide) rfl ?_
      refine tt_aload_n C 1 dX8_leave_42 rfl rfl ?_
      refine tt_bi (fun v5 m4 h5 => ?_)
      refine tt_callV (st := []) (As := []) C (kX8_wholeRound C.2.2.2.2.2.2.2.1 h5) mi_X8_wholeRound ml_RX8_245 mv_X8_wholeRound ms_X8_wholeRound (q := (RX8, TX8, 45)) dM_0 rfl rfl (by decide) (by decide) (Nat.le_of_ble_eq_true rfl) dX8_leave_43 ?_
      refine tt_pop C dX8_leave_46 rfl ?_
      refine tt_aload_n C 1 dX8_leave_47 rfl rfl ?_
      refine tt_iload C 0 dX8_leave_48 rfl ?_
      refine tt_bi (fun v7 m6 h6 => ?_)
      refine tt_callV (st := []) (As := [.int y3]) C (kX8_penniesOf C.2.2.2.2.2.2.2.1 h6) mi_X8_penniesOf ml_RX8_248 mv_X8_penniesOf ms_X8_penniesOf (q := (RX8, TX8, 45)) dM_0 rfl rfl (by decide) (by decide) (Nat.le_of_ble_eq_true rfl) dX8_leave_50 ?_
      refine tt_istore (L2 := [(6, .int v7), (5, .int y3), (0, .ref (ad 0)), (1, .int x1), (2, .int x2), (3, .int x3), (4, .int x4)]) C dX8_leave_53 (by decide) rfl ?_
      refine tt_aload_n C 2 dX8_leave_55 rfl rfl ?_
      refine tt_bv (fun m8 h7 => ?_)
      refine tt_callV (st := []) (As := []) C (kX8_clears C.2.2.2.2.2.2.2.1 h7) mi_X8_clears ml_RX8_236 mv_X8_clears ms_X8_clears (q := (RX8, TX8, 45)) dM_0 rfl rfl (by decide) (by decide) (Nat.le_of_ble_eq_true rfl) dX8_leave_56 ?_
      refine tt_aload_n C 2 dX8_leave_59 rfl rfl ?_
      refine tt_iload C 1 dX8_leave_60 rfl ?_
      refine tt_aload_n C 2 dX8_leave_62 rfl rfl ?_
      refine tt_getR C (j := 0) (r0 := 1) dM_0 rfl fl_RX8_7 dX8_leave_63 ?_
      refine tt_bipush (v := (31 : Int32)) C dX8_leave_66 (by decide) ?_
      refine tt_gr (fun h8 => ?_)
      refine tt_iald C dM_1 h8 dX8_leave_68 ?_
      refine tt_bi (fun v10 m9 h9 => ?_)
      refine tt_callV (st := []) (As := [.int y3, .int (m8 1 (31 : Int32).toNatClampNeg)]) C (kX8_goes C.2.2.2.2.2.2.2.1 h9) mi_X8_goes ml_RX8_242 mv_X8_goes ms_X8_goes (q := (RX8, TX8, 45)) dM_0 rfl rfl (by decide) (by decide) (Nat.le_of_ble_eq_true rfl) dX8_leave_69 ?_
      refine tt_pop C dX8_leave_72 rfl ?_
      refine tt_aload_n C 2 dX8_leave_73 rfl rfl ?_
      refine tt_iload C 1 dX8_leave_74 rfl ?_
      refine tt_bi (fun v12 m11 h10 => ?_)
      refine tt_callV (st := []) (As := [.int y3]) C (kX8_penniesOf C.2.2.2.2.2.2.2.1 h10) mi_X8_penniesOf ml_RX8_248 mv_X8_penniesOf ms_X8_penniesOf (q := (RX8, TX8, 45)) dM_0 rfl rfl (by decide) (by decide) (Nat.le_of_ble_eq_true rfl) dX8_leave_76 ?_
      refine tt_istore (L2 := [(7, .int v12), (6, .int v7), (5, .int y3), (0, .ref (ad 0)), (1, .int x1), (2, .int x2), (3, .int x3), (4, .int x4)]) C dX8_leave_79 (by decide) rfl ?_
      refine tt_iload C 0 dX8_leave_81 rfl ?_
      refine tt_iload C 1 dX8_leave_83 rfl ?_
      refine tt_if (fun h11 => ?_) (fun h11 => ?_)
      · refine tt_icmp_leT (tgt := 98) C h11 dX8_leave_85 (by decide) ?_
        refine tt_sub [3, 4, 5, 6, 7, 0] (L2 := [(0, .ref (ad 0)), (1, .int x1), (2, .int x2), (3, .int x3), (4, .int x4), (7, .int v12)]) rfl ?_
        exact wX8_leave_J98 C hr (fun x1 x2 x3 x4 μ => fX8_leave_L20 fu x1 x2 x3 x4 μ) (fun x1 x2 x3 x4 μ => ih x1 x2 x3 x4 μ) x1 x2 x3 x4 v12 m11
      · refine tt_icmp_leF C 98 h11 dX8_leave_85 (by decide) ?_
        refine tt_iload C 0 dX8_leave_88 rfl ?_
        refine tt_iload_n C 5 dX8_leave_90 rfl rfl ?_
        refine tt_if (fun h12 => ?_) (fun h12 => ?_)
        · refine tt_icmp_leT (tgt := 98) C h12 dX8_leave_91 (by decide) ?_
          refine tt_sub [3, 4, 5, 6, 7, 0] (L2 := [(0, .ref (ad 0)), (1, .int x1), (2, .int x2), (3, .int x3), (4, .int x4), (7, .int v12)]) rfl ?_
          exact wX8_leave_J98 C hr (fun x1 x2 x3 x4 μ => fX8_leave_L20 fu x1 x2 x3 x4 μ) (fun x1 x2 x3 x4 μ => ih x1 x2 x3 x4 μ) x1 x2 x3 x4 v12 m11
        · refine tt_icmp_leF C 98 h12 dX8_leave_91 (by decide) ?_
          refine tt_iconst (v := (1 : Int32)) C dX8_leave_94 (by decide) ?_
          refine tt_goto (tgt := 99) C dX8_leave_95 (by decide) ?_
          refine tt_sub [3, 4, 5, 6, 7, 0] (L2 := [(0, .ref (ad 0)), (1, .int x1), (2, .int x2), (3, .int x3), (4, .int x4), (7, .int v12)]) rfl ?_
          exact wX8_leave_J99 C hr (fun x1 x2 x3 x4 μ => fX8_leave_L20 fu x1 x2 x3 x4 μ) (fun x1 x2 x3 x4 μ => ih x1 x2 x3 x4 μ) x1 x2 x3 x4 v12 (1 : Int32) m11

def fX8_leave (x1 : Int32) (μ : Mem) : Option (Int32 × Mem) := bi (fX8_in x1.toInt64 (0 : Int64) (1 : Int64) μ) fun v2 m1 => if v2 = (0 : Int32) then (some ((-1 : Int32), m1)) else (lb (-1 : Int32) fun (y3 : Int32) => lb (-4 : Int32) fun (y4 : Int32) => lb (0 : Int32) fun (y5 : Int32) => fX8_leave_L20 FU x1 y3 y4 y5 m1)
set_option maxHeartbeats 4000000 in
set_option maxRecDepth 100000 in
theorem wX8_leave {p : Program} {l : Launch} {e : Env} {s : State} {m : MethodId} {args : Array Value} {below : List Frame} {meth : Method} {c : Code} {A : Nat → Prop} {D : va_G} {ad : Nat → Nat} {cA : Nat → ClassId} (C : Cx p s m args meth c cX8_leave RX8 9 A dsM D ad cA EM) (hr : meth.sig.returnType = some .int) (x1 : Int32) (μ : Mem) : T p l e (rmD 4) s m args below meth c 9 A dsM D ad cA enI (fX8_leave x1 μ) 0 [(0, .ref (ad 0)), (1, .int x1)] [] μ := by
  unfold fX8_leave
  refine tt_iload_n C 1 dX8_leave_0 rfl rfl ?_
  refine tt_i2l C dX8_leave_1 ?_
  refine tt_lconst (v := (0 : Int64)) C dX8_leave_2 (by decide) ?_
  refine tt_lconst (v := (1 : Int64)) C dX8_leave_3 (by decide) ?_
  refine tt_bi (fun v2 m1 h1 => ?_)
  refine tt_callS (st := []) (As := [.long x1.toInt64, .long (0 : Int64), .long (1 : Int64)]) C (kX8_in C.2.2.2.2.2.2.2.1 h1) mi_X8_in ml_RX8_70 mt_X8_in rfl (by decide) (by decide) (Nat.le_of_ble_eq_true rfl) dX8_leave_4 ?_
  refine tt_if (fun h2 => ?_) (fun h2 => ?_)
  · refine tt_if_neF C 12 h2 dX8_leave_7 (by decide) ?_
    refine tt_iconst (v := (-1 : Int32)) C dX8_leave_10 (by decide) ?_
    exact tt_iret rfl C hr dX8_leave_11
  · refine tt_if_neT (tgt := 12) C h2 dX8_leave_7 (by decide) ?_
    refine tt_iconst (v := (-1 : Int32)) C dX8_leave_12 (by decide) ?_
    refine tt_lbi (fun y3 => ?_)
    refine tt_istore_n (L2 := [(2, .int y3), (0, .ref (ad 0)), (1, .int x1)]) C dX8_leave_13 rfl (by decide) rfl ?_
    refine tt_bipush (v := (-4 : Int32)) C dX8_leave_14 (by decide) ?_
    refine tt_lbi (fun y4 => ?_)
    refine tt_istore_n (L2 := [(3, .int y4), (2, .int y3), (0, .ref (ad 0)), (1, .int x1)]) C dX8_leave_16 rfl (by decide) rfl ?_
    refine tt_iconst (v := (0 : Int32)) C dX8_leave_17 (by decide) ?_
    refine tt_lbi (fun y5 => ?_)
    refine tt_istore (L2 := [(4, .int y5), (3, .int y4), (2, .int y3), (0, .ref (ad 0)), (1, .int x1)]) C dX8_leave_18 (by decide) rfl ?_
    refine tt_sub [3, 4, 2, 1, 0] (L2 := [(0, .ref (ad 0)), (1, .int x1), (2, .int y3), (3, .int y4), (4, .int y5)]) rfl ?_
    exact wX8_leave_L20 C hr FU x1 y3 y4 y5 m1
theorem kX8_leave {l : Launch} {A : Nat → Prop} {D : va_G} {ad : Nat → Nat} {cA : Nat → ClassId} (hPk : Pk A dsM ad cA EM) {x1 : Int32} {μ : Mem} {v : Int32} {ν : Mem} (h : fX8_leave x1 μ = some (v, ν)) : Ct l A dsM D ad cA EM yX8_leave cX8_leave 9 (some .int) 4 [.ref (ad 0), .int x1] μ (enI (v, ν)) :=
  ct_of (by decide) (Nat.le_of_ble_eq_true rfl) hPk rfl (fun p e s m args below meth c C hr => wX8_leave C hr x1 μ) h

/-! BasketRoundModel.lowest(JJI)J -/
def fX8_lowest_J41 (x5 : Int64) (z0 : Int64) (μ : Mem) : Option (Int64 × Mem) := gd (¬ x5 = (0 : Int64)) <| some ((z0 / x5), μ)
set_option maxHeartbeats 4000000 in
set_option maxRecDepth 100000 in
theorem wX8_lowest_J41 {p : Program} {l : Launch} {e : Env} {s : State} {m : MethodId} {args : Array Value} {below : List Frame} {meth : Method} {c : Code} {A : Nat → Prop} {D : va_G} {ad : Nat → Nat} {cA : Nat → ClassId} (C : Cx p s m args meth c cX8_lowest RX8 11 A dsM D ad cA EM) (hr : meth.sig.returnType = some .long) (x5 : Int64) (z0 : Int64) (μ : Mem) : T p l e (rmD 0) s m args below meth c 11 A dsM D ad cA enL (fX8_lowest_J41 x5 z0 μ) 41 [(5, .long x5)] [.long z0] μ := by
  unfold fX8_lowest_J41
  refine tt_lload C 0 dX8_lowest_41 rfl ?_
  refine tt_gd (fun h1 => ?_)
  refine tt_ldiv C h1 dX8_lowest_43 ?_
  exact tt_lret rfl C hr dX8_lowest_44

def fX8_lowest_L6 : Nat → Int64 → Int64 → Int32 → Int64 → Int64 → Mem → Option (Int64 × Mem)
  | 0, _, _, _, _, _, _ => none
  | fu + 1, x0, x2, x4, x5, x7, μ => if (lg_cmp x7 (0 : Int64)) = (0 : Int32) then (if x4 = (0 : Int32) then (fX8_lowest_J41 x5 x0 μ) else (fX8_lowest_J41 x5 x2 μ)) else (gd (¬ x7 = (0 : Int64)) <| lb (lrm x5 x7) fun (y1 : Int64) => fX8_lowest_L6 fu x0 x2 x4 x7 y1 μ)
set_option maxHeartbeats 4000000 in
set_option maxRecDepth 100000 in
theorem wX8_lowest_L6 {p : Program} {l : Launch} {e : Env} {s : State} {m : MethodId} {args : Array Value} {below : List Frame} {meth : Method} {c : Code} {A : Nat → Prop} {D : va_G} {ad : Nat → Nat} {cA : Nat → ClassId} (C : Cx p s m args meth c cX8_lowest RX8 11 A dsM D ad cA EM) (hr : meth.sig.returnType = some .long) : ∀ (fu : Nat) (x0 : Int64) (x2 : Int64) (x4 : Int32) (x5 : Int64) (x7 : Int64) (μ : Mem), T p l e (rmD 0) s m args below meth c 11 A dsM D ad cA enL (fX8_lowest_L6 fu x0 x2 x4 x5 x7 μ) 6 [(0, .long x0), (2, .long x2), (4, .int x4), (5, .long x5), (7, .long x7)] [] μ
  | 0, _, _, _, _, _, _ => tt_none
  | fu + 1, x0, x2, x4, x5, x7, μ => by
    have ih := fun (x0 : Int64) (x2 : Int64) (x4 : Int32) (x5 : Int64) (x7 : Int64) (μ : Mem) => wX8_lowest_L6 (l := l) (e := e) (below := below) C hr fu x0 x2 x4 x5 x7 μ
    show T p l e (rmD 0) s m args below meth c 11 A dsM D ad cA enL (if (lg_cmp x7 (0 : Int64)) = (0 : Int32) then (if x4 = (0 : Int32) then (fX8_lowest_J41 x5 x0 μ) else (fX8_lowest_J41 x5 x2 μ)) else (gd (¬ x7 = (0 : Int64)) <| lb (lrm x5 x7) fun (y1 : Int64) => fX8_lowest_L6 fu x0 x2 x4 x7 y1 μ)) 6 [(0, .long x0), (2, .long x2), (4, .int x4), (5, .long x5), (7, .long x7)] [] μ
    refine tt_lload C 4 dX8_lowest_6 rfl ?_
    refine tt_lconst (v := (0 : Int64)) C dX8_lowest_8 (by decide) ?_
    refine tt_lcmp C dX8_lowest_9 ?_
    refine tt_if (fun h1 => ?_) (fun h1 => ?_)
    · refine tt_if_eqT (tgt := 31) C h1 dX8_lowest_10 (by decide) ?_
      refine tt_iload C 2 dX8_lowest_31 rfl ?_
      refine tt_if (fun h2 => ?_) (fun h2 => ?_)
      · refine tt_if_neF C 40 h2 dX8_lowest_33 (by decide) ?_
        refine tt_lload_n C 0 dX8_lowest_36 rfl rfl ?_
        refine tt_goto (tgt := 41) C dX8_lowest_37 (by decide) ?_
        refine tt_sub [3] (L2 := [(5, .long x5)]) rfl ?_
        exact wX8_lowest_J41 C hr x5 x0 μ
      · refine tt_if_neT (tgt := 40) C h2 dX8_lowest_33 (by decide) ?_
        refine tt_lload_n C 1 dX8_lowest_40 rfl rfl ?_
        refine tt_sub [3] (L2 := [(5, .long x5)]) rfl ?_
        exact wX8_lowest_J41 C hr x5 x2 μ
    · refine tt_if_eqF C 31 h1 dX8_lowest_10 (by decide) ?_
      refine tt_lload C 3 dX8_lowest_13 rfl ?_
      refine tt_lload C 4 dX8_lowest_15 rfl ?_
      refine tt_gd (fun h3 => ?_)
      refine tt_lrem C h3 dX8_lowest_17 ?_
      refine tt_lbl (fun y1 => ?_)
      refine tt_lstore (L2 := [(9, .long y1), (0, .long x0), (2, .long x2), (4, .int x4), (5, .long x5), (7, .long x7)]) C dX8_lowest_18 (by decide) rfl ?_
      refine tt_lload C 5 dX8_lowest_20 rfl ?_
      refine tt_lstore (L2 := [(5, .long x7), (9, .long y1), (0, .long x0), (2, .long x2), (4, .int x4), (7, .long x7)]) C dX8_lowest_22 (by decide) rfl ?_
      refine tt_lload C 1 dX8_lowest_24 rfl ?_
      refine tt_lstore (L2 := [(7, .long y1), (5, .long x7), (9, .long y1), (0, .long x0), (2, .long x2), (4, .int x4)]) C dX8_lowest_26 (by decide) rfl ?_
      refine tt_goto (tgt := 6) C dX8_lowest_28 (by decide) ?_
      refine tt_sub [3, 4, 5, 1, 0] (L2 := [(0, .long x0), (2, .long x2), (4, .int x4), (5, .long x7), (7, .long y1)]) rfl ?_
      exact ih x0 x2 x4 x7 y1 μ

def fX8_lowest (x0 : Int64) (x2 : Int64) (x4 : Int32) (μ : Mem) : Option (Int64 × Mem) := fX8_lowest_L6 FU x0 x2 x4 x0 x2 μ
set_option maxHeartbeats 4000000 in
set_option maxRecDepth 100000 in
theorem wX8_lowest {p : Program} {l : Launch} {e : Env} {s : State} {m : MethodId} {args : Array Value} {below : List Frame} {meth : Method} {c : Code} {A : Nat → Prop} {D : va_G} {ad : Nat → Nat} {cA : Nat → ClassId} (C : Cx p s m args meth c cX8_lowest RX8 11 A dsM D ad cA EM) (hr : meth.sig.returnType = some .long) (x0 : Int64) (x2 : Int64) (x4 : Int32) (μ : Mem) : T p l e (rmD 0) s m args below meth c 11 A dsM D ad cA enL (fX8_lowest x0 x2 x4 μ) 0 [(0, .long x0), (2, .long x2), (4, .int x4)] [] μ := by
  unfold fX8_lowest
  refine tt_lload_n C 0 dX8_lowest_0 rfl rfl ?_
  refine tt_lstore (L2 := [(5, .long x0), (0, .long x0), (2, .long x2), (4, .int x4)]) C dX8_lowest_1 (by decide) rfl ?_
  refine tt_lload_n C 2 dX8_lowest_3 rfl rfl ?_
  refine tt_lstore (L2 := [(7, .long x2), (5, .long x0), (0, .long x0), (2, .long x2), (4, .int x4)]) C dX8_lowest_4 (by decide) rfl ?_
  refine tt_sub [2, 3, 4, 1, 0] (L2 := [(0, .long x0), (2, .long x2), (4, .int x4), (5, .long x0), (7, .long x2)]) rfl ?_
  exact wX8_lowest_L6 C hr FU x0 x2 x4 x0 x2 μ
theorem kX8_lowest {l : Launch} {A : Nat → Prop} {D : va_G} {ad : Nat → Nat} {cA : Nat → ClassId} (hPk : Pk A dsM ad cA EM) {x0 : Int64} {x2 : Int64} {x4 : Int32} {μ : Mem} {v : Int64} {ν : Mem} (h : fX8_lowest x0 x2 x4 μ = some (v, ν)) : Ct l A dsM D ad cA EM yX8_lowest cX8_lowest 11 (some .long) 0 [.long x0, .long x2, .int x4] μ (enL (v, ν)) :=
  ct_of (by decide) (Nat.le_of_ble_eq_true rfl) hPk rfl (fun p e s m args below meth c C hr => wX8_lowest C hr x0 x2 x4 μ) h

/-! BasketRoundModel.luck(III)J -/
def fX8_luck_J152 (k78 : Int32 → Int32 → Int32 → Int64 → Int64 → Int32 → Mem → Option (Int64 × Mem)) (x1 : Int32) (x2 : Int32) (x3 : Int32) (x6 : Int64) (x8 : Int32) (z0 : Int64) (z1 : Int64) (μ : Mem) : Option (Int64 × Mem) := lb (z0 + z1) fun (y1 : Int64) => lb (x8 + (1 : Int32)) fun (y2 : Int32) => k78 x1 x2 x3 y1 x6 y2 μ
set_option maxHeartbeats 4000000 in
set_option maxRecDepth 100000 in
theorem wX8_luck_J152 {p : Program} {l : Launch} {e : Env} {s : State} {m : MethodId} {args : Array Value} {below : List Frame} {meth : Method} {c : Code} {A : Nat → Prop} {D : va_G} {ad : Nat → Nat} {cA : Nat → ClassId} (C : Cx p s m args meth c cX8_luck RX8 12 A dsM D ad cA EM) (hr : meth.sig.returnType = some .long) (k78 : Int32 → Int32 → Int32 → Int64 → Int64 → Int32 → Mem → Option (Int64 × Mem)) (hk78 : ∀ (x1 : Int32) (x2 : Int32) (x3 : Int32) (x4 : Int64) (x6 : Int64) (x8 : Int32) (μ : Mem), T p l e (rmD 4) s m args below meth c 12 A dsM D ad cA enL (k78 x1 x2 x3 x4 x6 x8 μ) 78 [(0, .ref (ad 0)), (1, .int x1), (2, .int x2), (3, .int x3), (4, .long x4), (6, .long x6), (8, .int x8)] [] μ) (x1 : Int32) (x2 : Int32) (x3 : Int32) (x6 : Int64) (x8 : Int32) (z0 : Int64) (z1 : Int64) (μ : Mem) : T p l e (rmD 4) s m args below meth c 12 A dsM D ad cA enL (fX8_luck_J152 k78 x1 x2 x3 x6 x8 z0 z1 μ) 152 [(0, .ref (ad 0)), (1, .int x1), (2, .int x2), (3, .int x3), (6, .long x6), (8, .int x8)] [.long z1, .long z0] μ := by
  unfold fX8_luck_J152
  refine tt_ladd C dX8_luck_152 ?_
  refine tt_lbl (fun y1 => ?_)
  refine tt_lstore (L2 := [(4, .long y1), (0, .ref (ad 0)), (1, .int x1), (2, .int x2), (3, .int x3), (6, .long x6), (8, .int x8)]) C dX8_luck_153 (by decide) rfl ?_
  refine tt_iincB (d := (1 : Int32)) C 6 (fun y2 => [(8, .int y2), (4, .long y1), (0, .ref (ad 0)), (1, .int x1), (2, .int x2), (3, .int x3), (6, .long x6)]) dX8_luck_155 rfl (by decide) (by decide) (fun _ => rfl) (fun y2 => ?_)
  refine tt_goto (tgt := 78) C dX8_luck_158 (by decide) ?_
  refine tt_sub [2, 3, 4, 5, 1, 6, 0] (L2 := [(0, .ref (ad 0)), (1, .int x1), (2, .int x2), (3, .int x3), (4, .long y1), (6, .long x6), (8, .int y2)]) rfl ?_
  exact hk78 x1 x2 x3 y1 x6 y2 μ

def fX8_luck_J125 (k93 : Int32 → Int32 → Int32 → Int64 → Int64 → Int32 → Int64 → Int32 → Mem → Option (Int64 × Mem)) (k78 : Int32 → Int32 → Int32 → Int64 → Int64 → Int32 → Mem → Option (Int64 × Mem)) (x1 : Int32) (x2 : Int32) (x3 : Int32) (x4 : Int64) (x6 : Int64) (x8 : Int32) (x11 : Int32) (z0 : Int64) (z1 : Int64) (μ : Mem) : Option (Int64 × Mem) := lb (z0 * z1) fun (y1 : Int64) => lb (x11 + (1 : Int32)) fun (y2 : Int32) => k93 x1 x2 x3 x4 x6 x8 y1 y2 μ
set_option maxHeartbeats 4000000 in
set_option maxRecDepth 100000 in
theorem wX8_luck_J125 {p : Program} {l : Launch} {e : Env} {s : State} {m : MethodId} {args : Array Value} {below : List Frame} {meth : Method} {c : Code} {A : Nat → Prop} {D : va_G} {ad : Nat → Nat} {cA : Nat → ClassId} (C : Cx p s m args meth c cX8_luck RX8 12 A dsM D ad cA EM) (hr : meth.sig.returnType = some .long) (k93 : Int32 → Int32 → Int32 → Int64 → Int64 → Int32 → Int64 → Int32 → Mem → Option (Int64 × Mem)) (k78 : Int32 → Int32 → Int32 → Int64 → Int64 → Int32 → Mem → Option (Int64 × Mem)) (hk93 : ∀ (x1 : Int32) (x2 : Int32) (x3 : Int32) (x4 : Int64) (x6 : Int64) (x8 : Int32) (x9 : Int64) (x11 : Int32) (μ : Mem), T p l e (rmD 4) s m args below meth c 12 A dsM D ad cA enL (k93 x1 x2 x3 x4 x6 x8 x9 x11 μ) 93 [(0, .ref (ad 0)), (1, .int x1), (2, .int x2), (3, .int x3), (4, .long x4), (6, .long x6), (8, .int x8), (9, .long x9), (11, .int x11)] [] μ) (hk78 : ∀ (x1 : Int32) (x2 : Int32) (x3 : Int32) (x4 : Int64) (x6 : Int64) (x8 : Int32) (μ : Mem), T p l e (rmD 4) s m args below meth c 12 A dsM D ad cA enL (k78 x1 x2 x3 x4 x6 x8 μ) 78 [(0, .ref (ad 0)), (1, .int x1), (2, .int x2), (3, .int x3), (4, .long x4), (6, .long x6), (8, .int x8)] [] μ) (x1 : Int32) (x2 : Int32) (x3 : Int32) (x4 : Int64) (x6 : Int64) (x8 : Int32) (x11 : Int32) (z0 : Int64) (z1 : Int64) (μ : Mem) : T p l e (rmD 4) s m args below meth c 12 A dsM D ad cA enL (fX8_luck_J125 k93 k78 x1 x2 x3 x4 x6 x8 x11 z0 z1 μ) 125 [(0, .ref (ad 0)), (1, .int x1), (2, .int x2), (3, .int x3), (4, .long x4), (6, .long x6), (8, .int x8), (11, .int x11)] [.long z1, .long z0] μ := by
  unfold fX8_luck_J125
  refine tt_lmul C dX8_luck_125 ?_
  refine tt_lbl (fun y1 => ?_)
  refine tt_lstore (L2 := [(9, .long y1), (0, .ref (ad 0)), (1, .int x1), (2, .int x2), (3, .int x3), (4, .long x4), (6, .long x6), (8, .int x8), (11, .int x11)]) C dX8_luck_126 (by decide) rfl ?_
  refine tt_iincB (d := (1 : Int32)) C 8 (fun y2 => [(11, .int y2), (9, .long y1), (0, .ref (ad 0)), (1, .int x1), (2, .int x2), (3, .int x3), (4, .long x4), (6, .long x6), (8, .int x8)]) dX8_luck_128 rfl (by decide) (by decide) (fun _ => rfl) (fun y2 => ?_)
  refine tt_goto (tgt := 93) C dX8_luck_131 (by decide) ?_
  refine tt_sub [2, 3, 4, 5, 6, 7, 8, 1, 0] (L2 := [(0, .ref (ad 0)), (1, .int x1), (2, .int x2), (3, .int x3), (4, .long x4), (6, .long x6), (8, .int x8), (9, .long y1), (11, .int y2)]) rfl ?_
  exact hk93 x1 x2 x3 x4 x6 x8 y1 y2 μ

def fX8_luck_L93 (k78 : Int32 → Int32 → Int32 → Int64 → Int64 → Int32 → Mem → Option (Int64 × Mem)) : Nat → Int32 → Int32 → Int32 → Int64 → Int64 → Int32 → Int64 → Int32 → Mem → Option (Int64 × Mem)
  | 0, _, _, _, _, _, _, _, _, _ => none
  | fu + 1, x1, x2, x3, x4, x6, x8, x9, x11, μ => if (μ 0 5) ≤ x11 then (bi (fX8_penniesOf x8 μ) fun v2 m1 => if v2 < x2 then (fX8_luck_J152 k78 x1 x2 x3 x6 x8 x4 (0 : Int64) m1) else (fX8_luck_J152 k78 x1 x2 x3 x6 x8 x4 x9 m1)) else (if ((x8 >>> (x11 &&& 31)) &&& (1 : Int32)) = (1 : Int32) then (fX8_luck_J125 (fun x1 x2 x3 x4 x6 x8 x9 x11 μ => fX8_luck_L93 k78 fu x1 x2 x3 x4 x6 x8 x9 x11 μ) k78 x1 x2 x3 x4 x6 x8 x11 x9 (((10 : Int32) - x1).toInt64) μ) else (fX8_luck_J125 (fun x1 x2 x3 x4 x6 x8 x9 x11 μ => fX8_luck_L93 k78 fu x1 x2 x3 x4 x6 x8 x9 x11 μ) k78 x1 x2 x3 x4 x6 x8 x11 x9 x1.toInt64 μ))
set_option maxHeartbeats 4000000 in
set_option maxRecDepth 100000 in
theorem wX8_luck_L93 {p : Program} {l : Launch} {e : Env} {s : State} {m : MethodId} {args : Array Value} {below : List Frame} {meth : Method} {c : Code} {A : Nat → Prop} {D : va_G} {ad : Nat → Nat} {cA : Nat → ClassId} (C : Cx p s m args meth c cX8_luck RX8 12 A dsM D ad cA EM) (hr : meth.sig.returnType = some .long) (k78 : Int32 → Int32 → Int32 → Int64 → Int64 → Int32 → Mem → Option (Int64 × Mem)) (hk78 : ∀ (x1 : Int32) (x2 : Int32) (x3 : Int32) (x4 : Int64) (x6 : Int64) (x8 : Int32) (μ : Mem), T p l e (rmD 4) s m args below meth c 12 A dsM D ad cA enL (k78 x1 x2 x3 x4 x6 x8 μ) 78 [(0, .ref (ad 0)), (1, .int x1), (2, .int x2), (3, .int x3), (4, .long x4), (6, .long x6), (8, .int x8)] [] μ) : ∀ (fu : Nat) (x1 : Int32) (x2 : Int32) (x3 : Int32) (x4 : Int64) (x6 : Int64) (x8 : Int32) (x9 : Int64) (x11 : Int32) (μ : Mem), T p l e (rmD 4) s m args below meth c 12 A dsM D ad cA enL (fX8_luck_L93 k78 fu x1 x2 x3 x4 x6 x8 x9 x11 μ) 93 [(0, .ref (ad 0)), (1, .int x1), (2, .int x2), (3, .int x3), (4, .long x4), (6, .long x6), (8, .int x8), (9, .long x9), (11, .int x11)] [] μ
  | 0, _, _, _, _, _, _, _, _, _ => tt_none
  | fu + 1, x1, x2, x3, x4, x6, x8, x9, x11, μ => by
    have ih := fun (x1 : Int32) (x2 : Int32) (x3 : Int32) (x4 : Int64) (x6 : Int64) (x8 : Int32) (x9 : Int64) (x11 : Int32) (μ : Mem) => wX8_luck_L93 (l := l) (e := e) (below := below) C hr k78 hk78 fu x1 x2 x3 x4 x6 x8 x9 x11 μ
    show T p l e (rmD 4) s m args below meth c 12 A dsM D ad cA enL (if (μ 0 5) ≤ x11 then (bi (fX8_penniesOf x8 μ) fun v2 m1 => if v2 < x2 then (fX8_luck_J152 k78 x1 x2 x3 x6 x8 x4 (0 : Int64) m1) else (fX8_luck_J152 k78 x1 x2 x3 x6 x8 x4 x9 m1)) else (if ((x8 >>> (x11 &&& 31)) &&& (1 : Int32)) = (1 : Int32) then (fX8_luck_J125 (fun x1 x2 x3 x4 x6 x8 x9 x11 μ => fX8_luck_L93 k78 fu x1 x2 x3 x4 x6 x8 x9 x11 μ) k78 x1 x2 x3 x4 x6 x8 x11 x9 (((10 : Int32) - x1).toInt64) μ) else (fX8_luck_J125 (fun x1 x2 x3 x4 x6 x8 x9 x11 μ => fX8_luck_L93 k78 fu x1 x2 x3 x4 x6 x8 x9 x11 μ) k78 x1 x2 x3 x4 x6 x8 x11 x9 x1.toInt64 μ))) 93 [(0, .ref (ad 0)), (1, .int x1), (2, .int x2), (3, .int x3), (4, .long x4), (6, .long x6), (8, .int x8), (9, .long x9), (11, .int x11)] [] μ
    refine tt_iload C 8 dX8_luck_93 rfl ?_
    refine tt_aload_n C 0 dX8_luck_95 rfl rfl ?_
    refine tt_getI C (j := 5) dM_0 rfl fl_RX8_167 dX8_luck_96 ?_
    refine tt_if (fun h1 => ?_) (fun h1 => ?_)
    · refine tt_icmp_geT (tgt := 134) C h1 dX8_luck_99 (by decide) ?_
      refine tt_lload C 4 dX8_luck_134 rfl ?_
      refine tt_aload_n C 0 dX8_luck_136 rfl rfl ?_
      refine tt_iload C 6 dX8_luck_137 rfl ?_
      refine tt_bi (fun v2 m1 h2 => ?_)
      refine tt_callV (st := [.long x4]) (As := [.int x8]) C (kX8_penniesOf C.2.2.2.2.2.2.2.1 h2) mi_X8_penniesOf ml_RX8_248 mv_X8_penniesOf ms_X8_penniesOf (q := (RX8, TX8, 45)) dM_0 rfl rfl (by decide) (by decide) (Nat.le_of_ble_eq_true rfl) dX8_luck_139 ?_
      refine tt_iload_n C 2 dX8_luck_142 rfl rfl ?_
      refine tt_if (fun h3 => ?_) (fun h3 => ?_)
      · refine tt_icmp_ltT (tgt := 151) C h3 dX8_luck_143 (by decide) ?_
        refine tt_lconst (v := (0 : Int64)) C dX8_luck_151 (by decide) ?_
        refine tt_sub [0, 1, 2, 3, 5, 6] (L2 := [(0, .ref (ad 0)), (1, .int x1), (2, .int x2), (3, .int x3), (6, .long x6), (8, .int x8)]) rfl ?_
        exact wX8_luck_J152 C hr k78 hk78 x1 x2 x3 x6 x8 x4 (0 : Int64) m1
      · refine tt_icmp_ltF C 151 h3 dX8_luck_143 (by decide) ?_
        refine tt_lload C 7 dX8_luck_146 rfl ?_
        refine tt_goto (tgt := 152) C dX8_luck_148 (by decide) ?_
        refine tt_sub [0, 1, 2, 3, 5, 6] (L2 := [(0, .ref (ad 0)), (1, .int x1), (2, .int x2), (3, .int x3), (6, .long x6), (8, .int x8)]) rfl ?_
        exact wX8_luck_J152 C hr k78 hk78 x1 x2 x3 x6 x8 x4 x9 m1
    · refine tt_icmp_geF C 134 h1 dX8_luck_99 (by decide) ?_
      refine tt_lload C 7 dX8_luck_102 rfl ?_
      refine tt_iload C 6 dX8_luck_104 rfl ?_
      refine tt_iload C 8 dX8_luck_106 rfl ?_
      refine tt_ishr C dX8_luck_108 ?_
      refine tt_iconst (v := (1 : Int32)) C dX8_luck_109 (by decide) ?_
      refine tt_iand C dX8_luck_110 ?_
      refine tt_iconst (v := (1 : Int32)) C dX8_luck_111 (by decide) ?_
      refine tt_if (fun h4 => ?_) (fun h4 => ?_)
      · refine tt_icmp_neF C 123 h4 dX8_luck_112 (by decide) ?_
        refine tt_bipush (v := (10 : Int32)) C dX8_luck_115 (by decide) ?_
        refine tt_iload_n C 1 dX8_luck_117 rfl rfl ?_
        refine tt_isub C dX8_luck_118 ?_
        refine tt_i2l C dX8_luck_119 ?_
        refine tt_goto (tgt := 125) C dX8_luck_120 (by decide) ?_
        refine tt_sub [0, 1, 2, 3, 4, 5, 6, 8] (L2 := [(0, .ref (ad 0)), (1, .int x1), (2, .int x2), (3, .int x3), (4, .long x4), (6, .long x6), (8, .int x8), (11, .int x11)]) rfl ?_
        exact wX8_luck_J125 C hr (fun x1 x2 x3 x4 x6 x8 x9 x11 μ => fX8_luck_L93 k78 fu x1 x2 x3 x4 x6 x8 x9 x11 μ) k78 (fun x1 x2 x3 x4 x6 x8 x9 x11 μ => ih x1 x2 x3 x4 x6 x8 x9 x11 μ) hk78 x1 x2 x3 x4 x6 x8 x11 x9 (((10 : Int32) - x1).toInt64) μ
      · refine tt_icmp_neT (tgt := 123) C h4 dX8_luck_112 (by decide) ?_
        refine tt_iload_n C 1 dX8_luck_123 rfl rfl ?_
        refine tt_i2l C dX8_luck_124 ?_
        refine tt_sub [0, 1, 2, 3, 4, 5, 6, 8] (L2 := [(0, .ref (ad 0)), (1, .int x1), (2, .int x2), (3, .int x3), (4, .long x4), (6, .long x6), (8, .int x8), (11, .int x11)]) rfl ?_
        exact wX8_luck_J125 C hr (fun x1 x2 x3 x4 x6 x8 x9 x11 μ => fX8_luck_L93 k78 fu x1 x2 x3 x4 x6 x8 x9 x11 μ) k78 (fun x1 x2 x3 x4 x6 x8 x9 x11 μ => ih x1 x2 x3 x4 x6 x8 x9 x11 μ) hk78 x1 x2 x3 x4 x6 x8 x11 x9 x1.toInt64 μ

def fX8_luck_L78 : Nat → Int32 → Int32 → Int32 → Int64 → Int64 → Int32 → Mem → Option (Int64 × Mem)
  | 0, _, _, _, _, _, _, _ => none
  | fu + 1, x1, x2, x3, x4, x6, x8, μ => bi (fX8_every μ) fun v2 m1 => if v2 < x8 then (bl (fX8_lowest x4 x6 x3 m1) fun v4 m3 => some (v4, m3)) else (lb (1 : Int64) fun (y5 : Int64) => lb (0 : Int32) fun (y6 : Int32) => fX8_luck_L93 (fun x1 x2 x3 x4 x6 x8 μ => fX8_luck_L78 fu x1 x2 x3 x4 x6 x8 μ) FU x1 x2 x3 x4 x6 x8 y5 y6 m1)
set_option maxHeartbeats 4000000 in
set_option maxRecDepth 100000 in
theorem wX8_luck_L78 {p : Program} {l : Launch} {e : Env} {s : State} {m : MethodId} {args : Array Value} {below : List Frame} {meth : Method} {c : Code} {A : Nat → Prop} {D : va_G} {ad : Nat → Nat} {cA : Nat → ClassId} (C : Cx p s m args meth c cX8_luck RX8 12 A dsM D ad cA EM) (hr : meth.sig.returnType = some .long) : ∀ (fu : Nat) (x1 : Int32) (x2 : Int32) (x3 : Int32) (x4 : Int64) (x6 : Int64) (x8 : Int32) (μ : Mem), T p l e (rmD 4) s m args below meth c 12 A dsM D ad cA enL (fX8_luck_L78 fu x1 x2 x3 x4 x6 x8 μ) 78 [(0, .ref (ad 0)), (1, .int x1), (2, .int x2), (3, .int x3), (4, .long x4), (6, .long x6), (8, .int x8)] [] μ
  | 0, _, _, _, _, _, _, _ => tt_none
  | fu + 1, x1, x2, x3, x4, x6, x8, μ => by
    have ih := fun (x1 : Int32) (x2 : Int32) (x3 : Int32) (x4 : Int64) (x6 : Int64) (x8 : Int32) (μ : Mem) => wX8_luck_L78 (l := l) (e := e) (below := below) C hr fu x1 x2 x3 x4 x6 x8 μ
    show T p l e (rmD 4) s m args below meth c 12 A dsM D ad cA enL (bi (fX8_every μ) fun v2 m1 => if v2 < x8 then (bl (fX8_lowest x4 x6 x3 m1) fun v4 m3 => some (v4, m3)) else (lb (1 : Int64) fun (y5 : Int64) => lb (0 : Int32) fun (y6 : Int32) => fX8_luck_L93 (fun x1 x2 x3 x4 x6 x8 μ => fX8_luck_L78 fu x1 x2 x3 x4 x6 x8 μ) FU x1 x2 x3 x4 x6 x8 y5 y6 m1)) 78 [(0, .ref (ad 0)), (1, .int x1), (2, .int x2), (3, .int x3), (4, .long x4), (6, .long x6), (8, .int x8)] [] μ
    refine tt_iload C 6 dX8_luck_78 rfl ?_
    refine tt_aload_n C 0 dX8_luck_80 rfl rfl ?_
    refine tt_bi (fun v2 m1 h1 => ?_)
    refine tt_callV (st := [.int x8]) (As := []) C (kX8_every C.2.2.2.2.2.2.2.1 h1) mi_X8_every ml_RX8_239 mv_X8_every ms_X8_every (q := (RX8, TX8, 45)) dM_0 rfl rfl (by decide) (by decide) (Nat.le_of_ble_eq_true rfl) dX8_luck_81 ?_
    refine tt_if (fun h2 => ?_) (fun h2 => ?_)
    · refine tt_icmp_gtT (tgt := 161) C h2 dX8_luck_84 (by decide) ?_
      refine tt_lload C 4 dX8_luck_161 rfl ?_
      refine tt_lload C 5 dX8_luck_163 rfl ?_
      refine tt_iload_n C 3 dX8_luck_165 rfl rfl ?_
      refine tt_bl (fun v4 m3 h3 => ?_)
      refine tt_callS (st := []) (As := [.long x4, .long x6, .int x3]) C (kX8_lowest C.2.2.2.2.2.2.2.1 h3) mi_X8_lowest ml_RX8_288 mt_X8_lowest rfl (by decide) (by decide) (Nat.le_of_ble_eq_true rfl) dX8_luck_166 ?_
      exact tt_lret rfl C hr dX8_luck_169
    · refine tt_icmp_gtF C 161 h2 dX8_luck_84 (by decide) ?_
      refine tt_lconst (v := (1 : Int64)) C dX8_luck_87 (by decide) ?_
      refine tt_lbl (fun y5 => ?_)
      refine tt_lstore (L2 := [(9, .long y5), (0, .ref (ad 0)), (1, .int x1), (2, .int x2), (3, .int x3), (4, .long x4), (6, .long x6), (8, .int x8)]) C dX8_luck_88 (by decide) rfl ?_
      refine tt_iconst (v := (0 : Int32)) C dX8_luck_90 (by decide) ?_
      refine tt_lbi (fun y6 => ?_)
      refine tt_istore (L2 := [(11, .int y6), (9, .long y5), (0, .ref (ad 0)), (1, .int x1), (2, .int x2), (3, .int x3), (4, .long x4), (6, .long x6), (8, .int x8)]) C dX8_luck_91 (by decide) rfl ?_
      refine tt_sub [2, 3, 4, 5, 6, 7, 8, 1, 0] (L2 := [(0, .ref (ad 0)), (1, .int x1), (2, .int x2), (3, .int x3), (4, .long x4), (6, .long x6), (8, .int x8), (9, .long y5), (11, .int y6)]) rfl ?_
      exact wX8_luck_L93 C hr (fun x1 x2 x3 x4 x6 x8 μ => fX8_luck_L78 fu x1 x2 x3 x4 x6 x8 μ) (fun x1 x2 x3 x4 x6 x8 μ => ih x1 x2 x3 x4 x6 x8 μ) FU x1 x2 x3 x4 x6 x8 y5 y6 m1

def fX8_luck_L52 : Nat → Int32 → Int32 → Int32 → Int64 → Int64 → Int32 → Mem → Option (Int64 × Mem)
  | 0, _, _, _, _, _, _, _ => none
  | fu + 1, x1, x2, x3, x4, x6, x8, μ => if (μ 0 5) ≤ x8 then (lb (0 : Int32) fun (y1 : Int32) => fX8_luck_L78 FU x1 x2 x3 x4 x6 y1 μ) else (lb (x6 * (10 : Int64)) fun (y2 : Int64) => lb (x8 + (1 : Int32)) fun (y3 : Int32) => fX8_luck_L52 fu x1 x2 x3 x4 y2 y3 μ)
set_option maxHeartbeats 4000000 in
set_option maxRecDepth 100000 in
theorem wX8_luck_L52 {p : Program} {l : Launch} {e : Env} {s : State} {m : MethodId} {args : Array Value} {below : List Frame} {meth : Method} {c : Code} {A : Nat → Prop} {D : va_G} {ad : Nat → Nat} {cA : Nat → ClassId} (C : Cx p s m args meth c cX8_luck RX8 12 A dsM D ad cA EM) (hr : meth.sig.returnType = some .long) : ∀ (fu : Nat) (x1 : Int32) (x2 : Int32) (x3 : Int32) (x4 : Int64) (x6 : Int64) (x8 : Int32) (μ : Mem), T p l e (rmD 4) s m args below meth c 12 A dsM D ad cA enL (fX8_luck_L52 fu x1 x2 x3 x4 x6 x8 μ) 52 [(0, .ref (ad 0)), (1, .int x1), (2, .int x2), (3, .int x3), (4, .long x4), (6, .long x6), (8, .int x8)] [] μ
  | 0, _, _, _, _, _, _, _ => tt_none
  | fu + 1, x1, x2, x3, x4, x6, x8, μ => by
    have ih := fun (x1 : Int32) (x2 : Int32) (x3 : Int32) (x4 : Int64) (x6 : Int64) (x8 : Int32) (μ : Mem) => wX8_luck_L52 (l := l) (e := e) (below := below) C hr fu x1 x2 x3 x4 x6 x8 μ
    show T p l e (rmD 4) s m args below meth c 12 A dsM D ad cA enL (if (μ 0 5) ≤ x8 then (lb (0 : Int32) fun (y1 : Int32) => fX8_luck_L78 FU x1 x2 x3 x4 x6 y1 μ) else (lb (x6 * (10 : Int64)) fun (y2 : Int64) => lb (x8 + (1 : Int32)) fun (y3 : Int32) => fX8_luck_L52 fu x1 x2 x3 x4 y2 y3 μ)) 52 [(0, .ref (ad 0)), (1, .int x1), (2, .int x2), (3, .int x3), (4, .long x4), (6, .long x6), (8, .int x8)] [] μ
    refine tt_iload C 6 dX8_luck_52 rfl ?_
    refine tt_aload_n C 0 dX8_luck_54 rfl rfl ?_
    refine tt_getI C (j := 5) dM_0 rfl fl_RX8_167 dX8_luck_55 ?_
    refine tt_if (fun h1 => ?_) (fun h1 => ?_)
    · refine tt_icmp_geT (tgt := 75) C h1 dX8_luck_58 (by decide) ?_
      refine tt_iconst (v := (0 : Int32)) C dX8_luck_75 (by decide) ?_
      refine tt_lbi (fun y1 => ?_)
      refine tt_istore (L2 := [(8, .int y1), (0, .ref (ad 0)), (1, .int x1), (2, .int x2), (3, .int x3), (4, .long x4), (6, .long x6)]) C dX8_luck_76 (by decide) rfl ?_
      refine tt_sub [1, 2, 3, 4, 5, 6, 0] (L2 := [(0, .ref (ad 0)), (1, .int x1), (2, .int x2), (3, .int x3), (4, .long x4), (6, .long x6), (8, .int y1)]) rfl ?_
      exact wX8_luck_L78 C hr FU x1 x2 x3 x4 x6 y1 μ
    · refine tt_icmp_geF C 75 h1 dX8_luck_58 (by decide) ?_
      refine tt_lload C 5 dX8_luck_61 rfl ?_
      refine tt_ldc2 (v := (10 : Int64)) C kL_RX8_284 dX8_luck_63 ?_
      refine tt_lmul C dX8_luck_66 ?_
      refine tt_lbl (fun y2 => ?_)
      refine tt_lstore (L2 := [(6, .long y2), (0, .ref (ad 0)), (1, .int x1), (2, .int x2), (3, .int x3), (4, .long x4), (8, .int x8)]) C dX8_luck_67 (by decide) rfl ?_
      refine tt_iincB (d := (1 : Int32)) C 6 (fun y3 => [(8, .int y3), (6, .long y2), (0, .ref (ad 0)), (1, .int x1), (2, .int x2), (3, .int x3), (4, .long x4)]) dX8_luck_69 rfl (by decide) (by decide) (fun _ => rfl) (fun y3 => ?_)
      refine tt_goto (tgt := 52) C dX8_luck_72 (by decide) ?_
      refine tt_sub [2, 3, 4, 5, 6, 1, 0] (L2 := [(0, .ref (ad 0)), (1, .int x1), (2, .int x2), (3, .int x3), (4, .long x4), (6, .long y2), (8, .int y3)]) rfl ?_
      exact ih x1 x2 x3 x4 y2 y3 μ

def fX8_luck_J34 (μ : Mem) : Option (Int64 × Mem) := some ((-1 : Int64), μ)
set_option maxHeartbeats 4000000 in
set_option maxRecDepth 100000 in
theorem wX8_luck_J34 {p : Program} {l : Launch} {e : Env} {s : State} {m : MethodId} {args : Array Value} {below : List Frame} {meth : Method} {c : Code} {A : Nat → Prop} {D : va_G} {ad : Nat → Nat} {cA : Nat → ClassId} (C : Cx p s m args meth c cX8_luck RX8 12 A dsM D ad cA EM) (hr : meth.sig.returnType = some .long) (μ : Mem) : T p l e (rmD 4) s m args below meth c 12 A dsM D ad cA enL (fX8_luck_J34 μ) 34 [] [] μ := by
  unfold fX8_luck_J34
  refine tt_ldc2 (v := (-1 : Int64)) C kL_RX8_286 dX8_luck_34 ?_
  exact tt_lret rfl C hr dX8_luck_37

def fX8_luck (x1 : Int32) (x2 : Int32) (x3 : Int32) (μ : Mem) : Option (Int64 × Mem) := bi (fX8_in x1.toInt64 (0 : Int64) (10 : Int64) μ) fun v2 m1 => if v2 = (0 : Int32) then (fX8_luck_J34 m1) else (bi (fX8_in x2.toInt64 (0 : Int64) (45 : Int64) m1) fun v4 m3 => if v4 = (0 : Int32) then (fX8_luck_J34 m3) else (bi (fX8_in x3.toInt64 (0 : Int64) (1 : Int64) m3) fun v6 m5 => if v6 = (0 : Int32) then (fX8_luck_J34 m5) else (bi (fX8_wholeRound m5) fun v8 m7 => lb (0 : Int64) fun (y9 : Int64) => lb (1 : Int64) fun (y10 : Int64) => lb (0 : Int32) fun (y11 : Int32) => fX8_luck_L52 FU x1 x2 x3 y9 y10 y11 m7)))
set_option maxHeartbeats 4000000 in
set_option maxRecDepth 100000 in
theorem wX8_luck {p : Program} {l : Launch} {e : Env} {s : State} {m : MethodId} {args : Array Value} {below : List Frame} {meth : Method} {c : Code} {A : Nat → Prop} {D : va_G} {ad : Nat → Nat} {cA : Nat → ClassId} (C : Cx p s m args meth c cX8_luck RX8 12 A dsM D ad cA EM) (hr : meth.sig.returnType = some .long) (x1 : Int32) (x2 : Int32) (x3 : Int32) (μ : Mem) : T p l e (rmD 4) s m args below meth c 12 A dsM D ad cA enL (fX8_luck x1 x2 x3 μ) 0 [(0, .ref (ad 0)), (1, .int x1), (2, .int x2), (3, .int x3)] [] μ := by
  unfold fX8_luck
  refine tt_iload_n C 1 dX8_luck_0 rfl rfl ?_
  refine tt_i2l C dX8_luck_1 ?_
  refine tt_lconst (v := (0 : Int64)) C dX8_luck_2 (by decide) ?_
  refine tt_ldc2 (v := (10 : Int64)) C kL_RX8_284 dX8_luck_3 ?_
  refine tt_bi (fun v2 m1 h1 => ?_)
  refine tt_callS (st := []) (As := [.long x1.toInt64, .long (0 : Int64), .long (10 : Int64)]) C (kX8_in C.2.2.2.2.2.2.2.1 h1) mi_X8_in ml_RX8_70 mt_X8_in rfl (by decide) (by decide) (Nat.le_of_ble_eq_true rfl) dX8_luck_6 ?_
  refine tt_if (fun h2 => ?_) (fun h2 => ?_)
  · refine tt_if_eqT (tgt := 34) C h2 dX8_luck_9 (by decide) ?_
    refine tt_sub [] (L2 := []) rfl ?_
    exact wX8_luck_J34 C hr m1
  · refine tt_if_eqF C 34 h2 dX8_luck_9 (by decide) ?_
    refine tt_iload_n C 2 dX8_luck_12 rfl rfl ?_
    refine tt_i2l C dX8_luck_13 ?_
    refine tt_lconst (v := (0 : Int64)) C dX8_luck_14 (by decide) ?_
    refine tt_ldc2 (v := (45 : Int64)) C kL_RX8_292 dX8_luck_15 ?_
    refine tt_bi (fun v4 m3 h3 => ?_)
    refine tt_callS (st := []) (As := [.long x2.toInt64, .long (0 : Int64), .long (45 : Int64)]) C (kX8_in C.2.2.2.2.2.2.2.1 h3) mi_X8_in ml_RX8_70 mt_X8_in rfl (by decide) (by decide) (Nat.le_of_ble_eq_true rfl) dX8_luck_18 ?_
    refine tt_if (fun h4 => ?_) (fun h4 => ?_)
    · refine tt_if_eqT (tgt := 34) C h4 dX8_luck_21 (by decide) ?_
      refine tt_sub [] (L2 := []) rfl ?_
      exact wX8_luck_J34 C hr m3
    · refine tt_if_eqF C 34 h4 dX8_luck_21 (by decide) ?_
      refine tt_iload_n C 3 dX8_luck_24 rfl rfl ?_
      refine tt_i2l C dX8_luck_25 ?_
      refine tt_lconst (v := (0 : Int64)) C dX8_luck_26 (by decide) ?_
      refine tt_lconst (v := (1 : Int64)) C dX8_luck_27 (by decide) ?_
      refine tt_bi (fun v6 m5 h5 => ?_)
      refine tt_callS (st := []) (As := [.long x3.toInt64, .long (0 : Int64), .long (1 : Int64)]) C (kX8_in C.2.2.2.2.2.2.2.1 h5) mi_X8_in ml_RX8_70 mt_X8_in rfl (by decide) (by decide) (Nat.le_of_ble_eq_true rfl) dX8_luck_28 ?_
      refine tt_if (fun h6 => ?_) (fun h6 => ?_)
      · refine tt_if_neF C 38 h6 dX8_luck_31 (by decide) ?_
        refine tt_sub [] (L2 := []) rfl ?_
        exact wX8_luck_J34 C hr m5
      · refine tt_if_neT (tgt := 38) C h6 dX8_luck_31 (by decide) ?_
        refine tt_aload_n C 0 dX8_luck_38 rfl rfl ?_
        refine tt_bi (fun v8 m7 h7 => ?_)
        refine tt_callV (st := []) (As := []) C (kX8_wholeRound C.2.2.2.2.2.2.2.1 h7) mi_X8_wholeRound ml_RX8_245 mv_X8_wholeRound ms_X8_wholeRound (q := (RX8, TX8, 45)) dM_0 rfl rfl (by decide) (by decide) (Nat.le_of_ble_eq_true rfl) dX8_luck_39 ?_
        refine tt_pop C dX8_luck_42 rfl ?_
        refine tt_lconst (v := (0 : Int64)) C dX8_luck_43 (by decide) ?_
        refine tt_lbl (fun y9 => ?_)
        refine tt_lstore (L2 := [(4, .long y9), (0, .ref (ad 0)), (1, .int x1), (2, .int x2), (3, .int x3)]) C dX8_luck_44 (by decide) rfl ?_
        refine tt_lconst (v := (1 : Int64)) C dX8_luck_46 (by decide) ?_
        refine tt_lbl (fun y10 => ?_)
        refine tt_lstore (L2 := [(6, .long y10), (4, .long y9), (0, .ref (ad 0)), (1, .int x1), (2, .int x2), (3, .int x3)]) C dX8_luck_47 (by decide) rfl ?_
        refine tt_iconst (v := (0 : Int32)) C dX8_luck_49 (by decide) ?_
        refine tt_lbi (fun y11 => ?_)
        refine tt_istore (L2 := [(8, .int y11), (6, .long y10), (4, .long y9), (0, .ref (ad 0)), (1, .int x1), (2, .int x2), (3, .int x3)]) C dX8_luck_50 (by decide) rfl ?_
        refine tt_sub [3, 4, 5, 6, 2, 1, 0] (L2 := [(0, .ref (ad 0)), (1, .int x1), (2, .int x2), (3, .int x3), (4, .long y9), (6, .long y10), (8, .int y11)]) rfl ?_
        exact wX8_luck_L52 C hr FU x1 x2 x3 y9 y10 y11 m7
theorem kX8_luck {l : Launch} {A : Nat → Prop} {D : va_G} {ad : Nat → Nat} {cA : Nat → ClassId} (hPk : Pk A dsM ad cA EM) {x1 : Int32} {x2 : Int32} {x3 : Int32} {μ : Mem} {v : Int64} {ν : Mem} (h : fX8_luck x1 x2 x3 μ = some (v, ν)) : Ct l A dsM D ad cA EM yX8_luck cX8_luck 12 (some .long) 4 [.ref (ad 0), .int x1, .int x2, .int x3] μ (enL (v, ν)) :=
  ct_of (by decide) (Nat.le_of_ble_eq_true rfl) hPk rfl (fun p e s m args below meth c C hr => wX8_luck C hr x1 x2 x3 μ) h

/-! BasketRoundModel.mean(II)J -/
def fX8_mean_J22 (μ : Mem) : Option (Int64 × Mem) := some ((-1 : Int64), μ)
set_option maxHeartbeats 4000000 in
set_option maxRecDepth 100000 in
theorem wX8_mean_J22 {p : Program} {l : Launch} {e : Env} {s : State} {m : MethodId} {args : Array Value} {below : List Frame} {meth : Method} {c : Code} {A : Nat → Prop} {D : va_G} {ad : Nat → Nat} {cA : Nat → ClassId} (C : Cx p s m args meth c cX8_mean RX8 3 A dsM D ad cA EM) (hr : meth.sig.returnType = some .long) (μ : Mem) : T p l e (rmD 4) s m args below meth c 3 A dsM D ad cA enL (fX8_mean_J22 μ) 22 [] [] μ := by
  unfold fX8_mean_J22
  refine tt_ldc2 (v := (-1 : Int64)) C kL_RX8_286 dX8_mean_22 ?_
  exact tt_lret rfl C hr dX8_mean_25

def fX8_mean (x1 : Int32) (x2 : Int32) (μ : Mem) : Option (Int64 × Mem) := bi (fX8_in x1.toInt64 (0 : Int64) (10 : Int64) μ) fun v2 m1 => if v2 = (0 : Int32) then (fX8_mean_J22 m1) else (bi (fX8_in x2.toInt64 (0 : Int64) (1 : Int64) m1) fun v4 m3 => if v4 = (0 : Int32) then (fX8_mean_J22 m3) else (bi (fX8_wholeRound m3) fun v6 m5 => bi (fX8_every m5) fun v8 m7 => bi (fX8_penniesOf v8 m7) fun v10 m9 => bl (fX8_lowest (v10.toInt64 * (((10 : Int32) - x1).toInt64)) (10 : Int64) x2 m9) fun v12 m11 => some (v12, m11)))
set_option maxHeartbeats 4000000 in
set_option maxRecDepth 100000 in
theorem wX8_mean {p : Program} {l : Launch} {e : Env} {s : State} {m : MethodId} {args : Array Value} {below : List Frame} {meth : Method} {c : Code} {A : Nat → Prop} {D : va_G} {ad : Nat → Nat} {cA : Nat → ClassId} (C : Cx p s m args meth c cX8_mean RX8 3 A dsM D ad cA EM) (hr : meth.sig.returnType = some .long) (x1 : Int32) (x2 : Int32) (μ : Mem) : T p l e (rmD 4) s m args below meth c 3 A dsM D ad cA enL (fX8_mean x1 x2 μ) 0 [(0, .ref (ad 0)), (1, .int x1), (2, .int x2)] [] μ := by
  unfold fX8_mean
  refine tt_iload_n C 1 dX8_mean_0 rfl rfl ?_
  refine tt_i2l C dX8_mean_1 ?_
  refine tt_lconst (v := (0 : Int64)) C dX8_mean_2 (by decide) ?_
  refine tt_ldc2 (v := (10 : Int64)) C kL_RX8_284 dX8_mean_3 ?_
  refine tt_bi (fun v2 m1 h1 => ?_)
  refine tt_callS (st := []) (As := [.long x1.toInt64, .long (0 : Int64), .long (10 : Int64)]) C (kX8_in C.2.2.2.2.2.2.2.1 h1) mi_X8_in ml_RX8_70 mt_X8_in rfl (by decide) (by decide) (Nat.le_of_ble_eq_true rfl) dX8_mean_6 ?_
  refine tt_if (fun h2 => ?_) (fun h2 => ?_)
  · refine tt_if_eqT (tgt := 22) C h2 dX8_mean_9 (by decide) ?_
    refine tt_sub [] (L2 := []) rfl ?_
    exact wX8_mean_J22 C hr m1
  · refine tt_if_eqF C 22 h2 dX8_mean_9 (by decide) ?_
    refine tt_iload_n C 2 dX8_mean_12 rfl rfl ?_
    refine tt_i2l C dX8_mean_13 ?_
    refine tt_lconst (v := (0 : Int64)) C dX8_mean_14 (by decide) ?_
    refine tt_lconst (v := (1 : Int64)) C dX8_mean_15 (by decide) ?_
    refine tt_bi (fun v4 m3 h3 => ?_)
    refine tt_callS (st := []) (As := [.long x2.toInt64, .long (0 : Int64), .long (1 : Int64)]) C (kX8_in C.2.2.2.2.2.2.2.1 h3) mi_X8_in ml_RX8_70 mt_X8_in rfl (by decide) (by decide) (Nat.le_of_ble_eq_true rfl) dX8_mean_16 ?_
    refine tt_if (fun h4 => ?_) (fun h4 => ?_)
    · refine tt_if_neF C 26 h4 dX8_mean_19 (by decide) ?_
      refine tt_sub [] (L2 := []) rfl ?_
      exact wX8_mean_J22 C hr m3
    · refine tt_if_neT (tgt := 26) C h4 dX8_mean_19 (by decide) ?_
      refine tt_aload_n C 0 dX8_mean_26 rfl rfl ?_
      refine tt_bi (fun v6 m5 h5 => ?_)
      refine tt_callV (st := []) (As := []) C (kX8_wholeRound C.2.2.2.2.2.2.2.1 h5) mi_X8_wholeRound ml_RX8_245 mv_X8_wholeRound ms_X8_wholeRound (q := (RX8, TX8, 45)) dM_0 rfl rfl (by decide) (by decide) (Nat.le_of_ble_eq_true rfl) dX8_mean_27 ?_
      refine tt_pop C dX8_mean_30 rfl ?_
      refine tt_aload_n C 0 dX8_mean_31 rfl rfl ?_
      refine tt_aload_n C 0 dX8_mean_32 rfl rfl ?_
      refine tt_bi (fun v8 m7 h6 => ?_)
      refine tt_callV (st := [.ref (ad 0)]) (As := []) C (kX8_every C.2.2.2.2.2.2.2.1 h6) mi_X8_every ml_RX8_239 mv_X8_every ms_X8_every (q := (RX8, TX8, 45)) dM_0 rfl rfl (by decide) (by decide) (Nat.le_of_ble_eq_true rfl) dX8_mean_33 ?_
      refine tt_bi (fun v10 m9 h7 => ?_)
      refine tt_callV (st := []) (As := [.int v8]) C (kX8_penniesOf C.2.2.2.2.2.2.2.1 h7) mi_X8_penniesOf ml_RX8_248 mv_X8_penniesOf ms_X8_penniesOf (q := (RX8, TX8, 45)) dM_0 rfl rfl (by decide) (by decide) (Nat.le_of_ble_eq_true rfl) dX8_mean_36 ?_
      refine tt_i2l C dX8_mean_39 ?_
      refine tt_bipush (v := (10 : Int32)) C dX8_mean_40 (by decide) ?_
      refine tt_iload_n C 1 dX8_mean_42 rfl rfl ?_
      refine tt_isub C dX8_mean_43 ?_
      refine tt_i2l C dX8_mean_44 ?_
      refine tt_lmul C dX8_mean_45 ?_
      refine tt_ldc2 (v := (10 : Int64)) C kL_RX8_284 dX8_mean_46 ?_
      refine tt_iload_n C 2 dX8_mean_49 rfl rfl ?_
      refine tt_bl (fun v12 m11 h8 => ?_)
      refine tt_callS (st := []) (As := [.long (v10.toInt64 * (((10 : Int32) - x1).toInt64)), .long (10 : Int64), .int x2]) C (kX8_lowest C.2.2.2.2.2.2.2.1 h8) mi_X8_lowest ml_RX8_288 mt_X8_lowest rfl (by decide) (by decide) (Nat.le_of_ble_eq_true rfl) dX8_mean_50 ?_
      exact tt_lret rfl C hr dX8_mean_53
theorem kX8_mean {l : Launch} {A : Nat → Prop} {D : va_G} {ad : Nat → Nat} {cA : Nat → ClassId} (hPk : Pk A dsM ad cA EM) {x1 : Int32} {x2 : Int32} {μ : Mem} {v : Int64} {ν : Mem} (h : fX8_mean x1 x2 μ = some (v, ν)) : Ct l A dsM D ad cA EM yX8_mean cX8_mean 3 (some .long) 4 [.ref (ad 0), .int x1, .int x2] μ (enL (v, ν)) :=
  ct_of (by decide) (Nat.le_of_ble_eq_true rfl) hPk rfl (fun p e s m args below meth c C hr => wX8_mean C hr x1 x2 μ) h

/-! BasketRoundModel.nameHere()I -/
def fX8_nameHere_J118 (μ : Mem) : Option (Int32 × Mem) := some ((-4 : Int32), μ)
set_option maxHeartbeats 4000000 in
set_option maxRecDepth 100000 in
theorem wX8_nameHere_J118 {p : Program} {l : Launch} {e : Env} {s : State} {m : MethodId} {args : Array Value} {below : List Frame} {meth : Method} {c : Code} {A : Nat → Prop} {D : va_G} {ad : Nat → Nat} {cA : Nat → ClassId} (C : Cx p s m args meth c cX8_nameHere RX8 4 A dsM D ad cA EM) (hr : meth.sig.returnType = some .int) (μ : Mem) : T p l e (rmD 1) s m args below meth c 4 A dsM D ad cA enI (fX8_nameHere_J118 μ) 118 [] [] μ := by
  unfold fX8_nameHere_J118
  refine tt_bipush (v := (-4 : Int32)) C dX8_nameHere_118 (by decide) ?_
  exact tt_iret rfl C hr dX8_nameHere_120

def fX8_nameHere_J106 (k2 : Int32 → Mem → Option (Int32 × Mem)) (x1 : Int32) (x2 : Int32) (μ : Mem) : Option (Int32 × Mem) := if x2 = (0 : Int32) then (lb (x1 + (1 : Int32)) fun (y1 : Int32) => k2 y1 μ) else (some (x1, μ))
set_option maxHeartbeats 4000000 in
set_option maxRecDepth 100000 in
theorem wX8_nameHere_J106 {p : Program} {l : Launch} {e : Env} {s : State} {m : MethodId} {args : Array Value} {below : List Frame} {meth : Method} {c : Code} {A : Nat → Prop} {D : va_G} {ad : Nat → Nat} {cA : Nat → ClassId} (C : Cx p s m args meth c cX8_nameHere RX8 4 A dsM D ad cA EM) (hr : meth.sig.returnType = some .int) (k2 : Int32 → Mem → Option (Int32 × Mem)) (hk2 : ∀ (x1 : Int32) (μ : Mem), T p l e (rmD 1) s m args below meth c 4 A dsM D ad cA enI (k2 x1 μ) 2 [(0, .ref (ad 0)), (1, .int x1)] [] μ) (x1 : Int32) (x2 : Int32) (μ : Mem) : T p l e (rmD 1) s m args below meth c 4 A dsM D ad cA enI (fX8_nameHere_J106 k2 x1 x2 μ) 106 [(0, .ref (ad 0)), (1, .int x1), (2, .int x2)] [] μ := by
  unfold fX8_nameHere_J106
  refine tt_iload_n C 2 dX8_nameHere_106 rfl rfl ?_
  refine tt_if (fun h1 => ?_) (fun h1 => ?_)
  · refine tt_if_eqT (tgt := 112) C h1 dX8_nameHere_107 (by decide) ?_
    refine tt_iincB (d := (1 : Int32)) C 1 (fun y1 => [(1, .int y1), (0, .ref (ad 0)), (2, .int x2)]) dX8_nameHere_112 rfl (by decide) (by decide) (fun _ => rfl) (fun y1 => ?_)
    refine tt_goto (tgt := 2) C dX8_nameHere_115 (by decide) ?_
    refine tt_sub [1, 0] (L2 := [(0, .ref (ad 0)), (1, .int y1)]) rfl ?_
    exact hk2 y1 μ
  · refine tt_if_eqF C 112 h1 dX8_nameHere_107 (by decide) ?_
    refine tt_iload_n C 1 dX8_nameHere_110 rfl rfl ?_
    exact tt_iret rfl C hr dX8_nameHere_111

def fX8_nameHere_J99 (k51 : Int32 → Int32 → Int32 → Mem → Option (Int32 × Mem)) (k2 : Int32 → Mem → Option (Int32 × Mem)) (x1 : Int32) (x3 : Int32) (z0 : Int32) (μ : Mem) : Option (Int32 × Mem) := lb (x3 + (1 : Int32)) fun (y1 : Int32) => k51 x1 z0 y1 μ
set_option maxHeartbeats 4000000 in
set_option maxRecDepth 100000 in
theorem wX8_nameHere_J99 {p : Program} {l : Launch} {e : Env} {s : State} {m : MethodId} {args : Array Value} {below : List Frame} {meth : Method} {c : Code} {A : Nat → Prop} {D : va_G} {ad : Nat → Nat} {cA : Nat → ClassId} (C : Cx p s m args meth c cX8_nameHere RX8 4 A dsM D ad cA EM) (hr : meth.sig.returnType = some .int) (k51 : Int32 → Int32 → Int32 → Mem → Option (Int32 × Mem)) (k2 : Int32 → Mem → Option (Int32 × Mem)) (hk51 : ∀ (x1 : Int32) (x2 : Int32) (x3 : Int32) (μ : Mem), T p l e (rmD 1) s m args below meth c 4 A dsM D ad cA enI (k51 x1 x2 x3 μ) 51 [(0, .ref (ad 0)), (1, .int x1), (2, .int x2), (3, .int x3)] [] μ) (hk2 : ∀ (x1 : Int32) (μ : Mem), T p l e (rmD 1) s m args below meth c 4 A dsM D ad cA enI (k2 x1 μ) 2 [(0, .ref (ad 0)), (1, .int x1)] [] μ) (x1 : Int32) (x3 : Int32) (z0 : Int32) (μ : Mem) : T p l e (rmD 1) s m args below meth c 4 A dsM D ad cA enI (fX8_nameHere_J99 k51 k2 x1 x3 z0 μ) 99 [(0, .ref (ad 0)), (1, .int x1), (3, .int x3)] [.int z0] μ := by
  unfold fX8_nameHere_J99
  refine tt_istore_n (L2 := [(2, .int z0), (0, .ref (ad 0)), (1, .int x1), (3, .int x3)]) C dX8_nameHere_99 rfl (by decide) rfl ?_
  refine tt_iincB (d := (1 : Int32)) C 3 (fun y1 => [(3, .int y1), (2, .int z0), (0, .ref (ad 0)), (1, .int x1)]) dX8_nameHere_100 rfl (by decide) (by decide) (fun _ => rfl) (fun y1 => ?_)
  refine tt_goto (tgt := 51) C dX8_nameHere_103 (by decide) ?_
  refine tt_sub [2, 3, 1, 0] (L2 := [(0, .ref (ad 0)), (1, .int x1), (2, .int z0), (3, .int y1)]) rfl ?_
  exact hk51 x1 z0 y1 μ

def fX8_nameHere_L51 (k2 : Int32 → Mem → Option (Int32 × Mem)) : Nat → Int32 → Int32 → Int32 → Mem → Option (Int32 × Mem)
  | 0, _, _, _, _ => none
  | fu + 1, x1, x2, x3, μ => if x2 = (0 : Int32) then (fX8_nameHere_J106 k2 x1 x2 μ) else (if ((μ 0 22) - (μ 0 23)) ≤ x3 then (fX8_nameHere_J106 k2 x1 x2 μ) else (bi (fX8_byteAt ((μ 0 23) + x3) μ) fun v2 m1 => gr x1 14 <| gr ((m1 12 x1.toNatClampNeg) + x3) 57 <| if v2 = (m1 13 ((m1 12 x1.toNatClampNeg) + x3).toNatClampNeg) then (fX8_nameHere_J99 (fun x1 x2 x3 μ => fX8_nameHere_L51 k2 fu x1 x2 x3 μ) k2 x1 x3 (1 : Int32) m1) else (fX8_nameHere_J99 (fun x1 x2 x3 μ => fX8_nameHere_L51 k2 fu x1 x2 x3 μ) k2 x1 x3 (0 : Int32) m1)))
set_option maxHeartbeats 4000000 in
set_option maxRecDepth 100000 in
theorem wX8_nameHere_L51 {p : Program} {l : Launch} {e : Env} {s : State} {m : MethodId} {args : Array Value} {below : List Frame} {meth : Method} {c : Code} {A : Nat → Prop} {D : va_G} {ad : Nat → Nat} {cA : Nat → ClassId} (C : Cx p s m args meth c cX8_nameHere RX8 4 A dsM D ad cA EM) (hr : meth.sig.returnType = some .int) (k2 : Int32 → Mem → Option (Int32 × Mem)) (hk2 : ∀ (x1 : Int32) (μ : Mem), T p l e (rmD 1) s m args below meth c 4 A dsM D ad cA enI (k2 x1 μ) 2 [(0, .ref (ad 0)), (1, .int x1)] [] μ) : ∀ (fu : Nat) (x1 : Int32) (x2 : Int32) (x3 : Int32) (μ : Mem), T p l e (rmD 1) s m args below meth c 4 A dsM D ad cA enI (fX8_nameHere_L51 k2 fu x1 x2 x3 μ) 51 [(0, .ref (ad 0)), (1, .int x1), (2, .int x2), (3, .int x3)] [] μ
  | 0, _, _, _, _ => tt_none
  | fu + 1, x1, x2, x3, μ => by
    have ih := fun (x1 : Int32) (x2 : Int32) (x3 : Int32) (μ : Mem) => wX8_nameHere_L51 (l := l) (e := e) (below := below) C hr k2 hk2 fu x1 x2 x3 μ
    show T p l e (rmD 1) s m args below meth c 4 A dsM D ad cA enI (if x2 = (0 : Int32) then (fX8_nameHere_J106 k2 x1 x2 μ) else (if ((μ 0 22) - (μ 0 23)) ≤ x3 then (fX8_nameHere_J106 k2 x1 x2 μ) else (bi (fX8_byteAt ((μ 0 23) + x3) μ) fun v2 m1 => gr x1 14 <| gr ((m1 12 x1.toNatClampNeg) + x3) 57 <| if v2 = (m1 13 ((m1 12 x1.toNatClampNeg) + x3).toNatClampNeg) then (fX8_nameHere_J99 (fun x1 x2 x3 μ => fX8_nameHere_L51 k2 fu x1 x2 x3 μ) k2 x1 x3 (1 : Int32) m1) else (fX8_nameHere_J99 (fun x1 x2 x3 μ => fX8_nameHere_L51 k2 fu x1 x2 x3 μ) k2 x1 x3 (0 : Int32) m1)))) 51 [(0, .ref (ad 0)), (1, .int x1), (2, .int x2), (3, .int x3)] [] μ
    refine tt_iload_n C 2 dX8_nameHere_51 rfl rfl ?_
    refine tt_if (fun h1 => ?_) (fun h1 => ?_)
    · refine tt_if_eqT (tgt := 106) C h1 dX8_nameHere_52 (by decide) ?_
      refine tt_sub [0, 1, 2] (L2 := [(0, .ref (ad 0)), (1, .int x1), (2, .int x2)]) rfl ?_
      exact wX8_nameHere_J106 C hr k2 hk2 x1 x2 μ
    · refine tt_if_eqF C 106 h1 dX8_nameHere_52 (by decide) ?_
      refine tt_iload_n C 3 dX8_nameHere_55 rfl rfl ?_
      refine tt_aload_n C 0 dX8_nameHere_56 rfl rfl ?_
      refine tt_getI C (j := 22) dM_0 rfl fl_RX8_90 dX8_nameHere_57 ?_
      refine tt_aload_n C 0 dX8_nameHere_60 rfl rfl ?_
      refine tt_getI C (j := 23) dM_0 rfl fl_RX8_81 dX8_nameHere_61 ?_
      refine tt_isub C dX8_nameHere_64 ?_
      refine tt_if (fun h2 => ?_) (fun h2 => ?_)
      · refine tt_icmp_geT (tgt := 106) C h2 dX8_nameHere_65 (by decide) ?_
        refine tt_sub [0, 1, 2] (L2 := [(0, .ref (ad 0)), (1, .int x1), (2, .int x2)]) rfl ?_
        exact wX8_nameHere_J106 C hr k2 hk2 x1 x2 μ
      · refine tt_icmp_geF C 106 h2 dX8_nameHere_65 (by decide) ?_
        refine tt_aload_n C 0 dX8_nameHere_68 rfl rfl ?_
        refine tt_aload_n C 0 dX8_nameHere_69 rfl rfl ?_
        refine tt_getI C (j := 23) dM_0 rfl fl_RX8_81 dX8_nameHere_70 ?_
        refine tt_iload_n C 3 dX8_nameHere_73 rfl rfl ?_
        refine tt_iadd C dX8_nameHere_74 ?_
        refine tt_bi (fun v2 m1 h3 => ?_)
        refine tt_callV (st := []) (As := [.int ((μ 0 23) + x3)]) C (kX8_byteAt C.2.2.2.2.2.2.2.1 h3) mi_X8_byteAt ml_RX8_93 mv_X8_byteAt ms_X8_byteAt (q := (RX8, TX8, 45)) dM_0 rfl rfl (by decide) (by decide) (Nat.le_of_ble_eq_true rfl) dX8_nameHere_75 ?_
        refine tt_aload_n C 0 dX8_nameHere_78 rfl rfl ?_
        refine tt_getR C (j := 27) (r0 := 13) dM_0 rfl fl_RX8_46 dX8_nameHere_79 ?_
        refine tt_aload_n C 0 dX8_nameHere_82 rfl rfl ?_
        refine tt_getR C (j := 26) (r0 := 12) dM_0 rfl fl_RX8_43 dX8_nameHere_83 ?_
        refine tt_iload_n C 1 dX8_nameHere_86 rfl rfl ?_
        refine tt_gr (fun h4 => ?_)
        refine tt_iald C dM_12 h4 dX8_nameHere_87 ?_
        refine tt_iload_n C 3 dX8_nameHere_88 rfl rfl ?_
        refine tt_iadd C dX8_nameHere_89 ?_
        refine tt_gr (fun h5 => ?_)
        refine tt_iald C dM_13 h5 dX8_nameHere_90 ?_
        refine tt_if (fun h6 => ?_) (fun h6 => ?_)
        · refine tt_icmp_neF C 98 h6 dX8_nameHere_91 (by decide) ?_
          refine tt_iconst (v := (1 : Int32)) C dX8_nameHere_94 (by decide) ?_
          refine tt_goto (tgt := 99) C dX8_nameHere_95 (by decide) ?_
          refine tt_sub [0, 1, 3] (L2 := [(0, .ref (ad 0)), (1, .int x1), (3, .int x3)]) rfl ?_
          exact wX8_nameHere_J99 C hr (fun x1 x2 x3 μ => fX8_nameHere_L51 k2 fu x1 x2 x3 μ) k2 (fun x1 x2 x3 μ => ih x1 x2 x3 μ) hk2 x1 x3 (1 : Int32) m1
        · refine tt_icmp_neT (tgt := 98) C h6 dX8_nameHere_91 (by decide) ?_
          refine tt_iconst (v := (0 : Int32)) C dX8_nameHere_98 (by decide) ?_
          refine tt_sub [0, 1, 3] (L2 := [(0, .ref (ad 0)), (1, .int x1), (3, .int x3)]) rfl ?_
          exact wX8_nameHere_J99 C hr (fun x1 x2 x3 μ => fX8_nameHere_L51 k2 fu x1 x2 x3 μ) k2 (fun x1 x2 x3 μ => ih x1 x2 x3 μ) hk2 x1 x3 (0 : Int32) m1

def fX8_nameHere_J48 (k2 : Int32 → Mem → Option (Int32 × Mem)) (x1 : Int32) (z0 : Int32) (μ : Mem) : Option (Int32 × Mem) := lb (0 : Int32) fun (y1 : Int32) => fX8_nameHere_L51 k2 FU x1 z0 y1 μ
set_option maxHeartbeats 4000000 in
set_option maxRecDepth 100000 in
theorem wX8_nameHere_J48 {p : Program} {l : Launch} {e : Env} {s : State} {m : MethodId} {args : Array Value} {below : List Frame} {meth : Method} {c : Code} {A : Nat → Prop} {D : va_G} {ad : Nat → Nat} {cA : Nat → ClassId} (C : Cx p s m args meth c cX8_nameHere RX8 4 A dsM D ad cA EM) (hr : meth.sig.returnType = some .int) (k2 : Int32 → Mem → Option (Int32 × Mem)) (hk2 : ∀ (x1 : Int32) (μ : Mem), T p l e (rmD 1) s m args below meth c 4 A dsM D ad cA enI (k2 x1 μ) 2 [(0, .ref (ad 0)), (1, .int x1)] [] μ) (x1 : Int32) (z0 : Int32) (μ : Mem) : T p l e (rmD 1) s m args below meth c 4 A dsM D ad cA enI (fX8_nameHere_J48 k2 x1 z0 μ) 48 [(0, .ref (ad 0)), (1, .int x1)] [.int z0] μ := by
  unfold fX8_nameHere_J48
  refine tt_istore_n (L2 := [(2, .int z0), (0, .ref (ad 0)), (1, .int x1)]) C dX8_nameHere_48 rfl (by decide) rfl ?_
  refine tt_iconst (v := (0 : Int32)) C dX8_nameHere_49 (by decide) ?_
  refine tt_lbi (fun y1 => ?_)
  refine tt_istore_n (L2 := [(3, .int y1), (2, .int z0), (0, .ref (ad 0)), (1, .int x1)]) C dX8_nameHere_50 rfl (by decide) rfl ?_
  refine tt_sub [2, 3, 1, 0] (L2 := [(0, .ref (ad 0)), (1, .int x1), (2, .int z0), (3, .int y1)]) rfl ?_
  exact wX8_nameHere_L51 C hr k2 hk2 FU x1 z0 y1 μ

def fX8_nameHere_L2 : Nat → Int32 → Mem → Option (Int32 × Mem)
  | 0, _, _ => none
  | fu + 1, x1, μ => if (13 : Int32) ≤ x1 then (fX8_nameHere_J118 μ) else (if (μ 0 24) = (1 : Int32) then (gr (x1 + (1 : Int32)) 14 <| gr x1 14 <| if ((μ 0 22) - (μ 0 23)) = ((μ 12 (x1 + (1 : Int32)).toNatClampNeg) - (μ 12 x1.toNatClampNeg)) then (fX8_nameHere_J48 (fun x1 μ => fX8_nameHere_L2 fu x1 μ) x1 (1 : Int32) μ) else (fX8_nameHere_J48 (fun x1 μ => fX8_nameHere_L2 fu x1 μ) x1 (0 : Int32) μ)) else (fX8_nameHere_J118 μ))
set_option maxHeartbeats 4000000 in
set_option maxRecDepth 100000 in
theorem wX8_nameHere_L2 {p : Program} {l : Launch} {e : Env} {s : State} {m : MethodId} {args : Array Value} {below : List Frame} {meth : Method} {c : Code} {A : Nat → Prop} {D : va_G} {ad : Nat → Nat} {cA : Nat → ClassId} (C : Cx p s m args meth c cX8_nameHere RX8 4 A dsM D ad cA EM) (hr : meth.sig.returnType = some .int) : ∀ (fu : Nat) (x1 : Int32) (μ : Mem), T p l e (rmD 1) s m args below meth c 4 A dsM D ad cA enI (fX8_nameHere_L2 fu x1 μ) 2 [(0, .ref (ad 0)), (1, .int x1)] [] μ
  | 0, _, _ => tt_none
  | fu + 1, x1, μ => by
    have ih := fun (x1 : Int32) (μ : Mem) => wX8_nameHere_L2 (l := l) (e := e) (below := below) C hr fu x1 μ
    show T p l e (rmD 1) s m args below meth c 4 A dsM D ad cA enI (if (13 : Int32) ≤ x1 then (fX8_nameHere_J118 μ) else (if (μ 0 24) = (1 : Int32) then (gr (x1 + (1 : Int32)) 14 <| gr x1 14 <| if ((μ 0 22) - (μ 0 23)) = ((μ 12 (x1 + (1 : Int32)).toNatClampNeg) - (μ 12 x1.toNatClampNeg)) then (fX8_nameHere_J48 (fun x1 μ => fX8_nameHere_L2 fu x1 μ) x1 (1 : Int32) μ) else (fX8_nameHere_J48 (fun x1 μ => fX8_nameHere_L2 fu x1 μ) x1 (0 : Int32) μ)) else (fX8_nameHere_J118 μ))) 2 [(0, .ref (ad 0)), (1, .int x1)] [] μ
    refine tt_iload_n C 1 dX8_nameHere_2 rfl rfl ?_
    refine tt_bipush (v := (13 : Int32)) C dX8_nameHere_3 (by decide) ?_
    refine tt_if (fun h1 => ?_) (fun h1 => ?_)
    · refine tt_icmp_geT (tgt := 118) C h1 dX8_nameHere_5 (by decide) ?_
      refine tt_sub [] (L2 := []) rfl ?_
      exact wX8_nameHere_J118 C hr μ
    · refine tt_icmp_geF C 118 h1 dX8_nameHere_5 (by decide) ?_
      refine tt_aload_n C 0 dX8_nameHere_8 rfl rfl ?_
      refine tt_getI C (j := 24) dM_0 rfl fl_RX8_87 dX8_nameHere_9 ?_
      refine tt_iconst (v := (1 : Int32)) C dX8_nameHere_12 (by decide) ?_
      refine tt_if (fun h2 => ?_) (fun h2 => ?_)
      · refine tt_icmp_neF C 118 h2 dX8_nameHere_13 (by decide) ?_
        refine tt_aload_n C 0 dX8_nameHere_16 rfl rfl ?_
        refine tt_getI C (j := 22) dM_0 rfl fl_RX8_90 dX8_nameHere_17 ?_
        refine tt_aload_n C 0 dX8_nameHere_20 rfl rfl ?_
        refine tt_getI C (j := 23) dM_0 rfl fl_RX8_81 dX8_nameHere_21 ?_
        refine tt_isub C dX8_nameHere_24 ?_
        refine tt_aload_n C 0 dX8_nameHere_25 rfl rfl ?_
        refine tt_getR C (j := 26) (r0 := 12) dM_0 rfl fl_RX8_43 dX8_nameHere_26 ?_
        refine tt_iload_n C 1 dX8_nameHere_29 rfl rfl ?_
        refine tt_iconst (v := (1 : Int32)) C dX8_nameHere_30 (by decide) ?_
        refine tt_iadd C dX8_nameHere_31 ?_
        refine tt_gr (fun h3 => ?_)
        refine tt_iald C dM_12 h3 dX8_nameHere_32 ?_
        refine tt_aload_n C 0 dX8_nameHere_33 rfl rfl ?_
        refine tt_getR C (j := 26) (r0 := 12) dM_0 rfl fl_RX8_43 dX8_nameHere_34 ?_
        refine tt_iload_n C 1 dX8_nameHere_37 rfl rfl ?_
        refine tt_gr (fun h4 => ?_)
        refine tt_iald C dM_12 h4 dX8_nameHere_38 ?_
        refine tt_isub C dX8_nameHere_39 ?_
        refine tt_if (fun h5 => ?_) (fun h5 => ?_)
        · refine tt_icmp_neF C 47 h5 dX8_nameHere_40 (by decide) ?_
          refine tt_iconst (v := (1 : Int32)) C dX8_nameHere_43 (by decide) ?_
          refine tt_goto (tgt := 48) C dX8_nameHere_44 (by decide) ?_
          refine tt_sub [0, 1] (L2 := [(0, .ref (ad 0)), (1, .int x1)]) rfl ?_
          exact wX8_nameHere_J48 C hr (fun x1 μ => fX8_nameHere_L2 fu x1 μ) (fun x1 μ => ih x1 μ) x1 (1 : Int32) μ
        · refine tt_icmp_neT (tgt := 47) C h5 dX8_nameHere_40 (by decide) ?_
          refine tt_iconst (v := (0 : Int32)) C dX8_nameHere_47 (by decide) ?_
          refine tt_sub [0, 1] (L2 := [(0, .ref (ad 0)), (1, .int x1)]) rfl ?_
          exact wX8_nameHere_J48 C hr (fun x1 μ => fX8_nameHere_L2 fu x1 μ) (fun x1 μ => ih x1 μ) x1 (0 : Int32) μ
      · refine tt_icmp_neT (tgt := 118) C h2 dX8_nameHere_13 (by decide) ?_
        refine tt_sub [] (L2 := []) rfl ?_
        exact wX8_nameHere_J118 C hr μ

def fX8_nameHere (μ : Mem) : Option (Int32 × Mem) := lb (0 : Int32) fun (y1 : Int32) => fX8_nameHere_L2 FU y1 μ
set_option maxHeartbeats 4000000 in
set_option maxRecDepth 100000 in
theorem wX8_nameHere {p : Program} {l : Launch} {e : Env} {s : State} {m : MethodId} {args : Array Value} {below : List Frame} {meth : Method} {c : Code} {A : Nat → Prop} {D : va_G} {ad : Nat → Nat} {cA : Nat → ClassId} (C : Cx p s m args meth c cX8_nameHere RX8 4 A dsM D ad cA EM) (hr : meth.sig.returnType = some .int) (μ : Mem) : T p l e (rmD 1) s m args below meth c 4 A dsM D ad cA enI (fX8_nameHere μ) 0 [(0, .ref (ad 0))] [] μ := by
  unfold fX8_nameHere
  refine tt_iconst (v := (0 : Int32)) C dX8_nameHere_0 (by decide) ?_
  refine tt_lbi (fun y1 => ?_)
  refine tt_istore_n (L2 := [(1, .int y1), (0, .ref (ad 0))]) C dX8_nameHere_1 rfl (by decide) rfl ?_
  refine tt_sub [1, 0] (L2 := [(0, .ref (ad 0)), (1, .int y1)]) rfl ?_
  exact wX8_nameHere_L2 C hr FU y1 μ
theorem kX8_nameHere {l : Launch} {A : Nat → Prop} {D : va_G} {ad : Nat → Nat} {cA : Nat → ClassId} (hPk : Pk A dsM ad cA EM) {μ : Mem} {v : Int32} {ν : Mem} (h : fX8_nameHere μ = some (v, ν)) : Ct l A dsM D ad cA EM yX8_nameHere cX8_nameHere 4 (some .int) 1 [.ref (ad 0)] μ (enI (v, ν)) :=
  ct_of (by decide) (Nat.le_of_ble_eq_true rfl) hPk rfl (fun p e s m args below meth c C hr => wX8_nameHere C hr μ) h

/-! BasketRoundModel.step()V -/
def fX8_step_J269 (μ : Mem) : Option (Mem) := some μ
set_option maxHeartbeats 4000000 in
set_option maxRecDepth 100000 in
theorem wX8_step_J269 {p : Program} {l : Launch} {e : Env} {s : State} {m : MethodId} {args : Array Value} {below : List Frame} {meth : Method} {c : Code} {A : Nat → Prop} {D : va_G} {ad : Nat → Nat} {cA : Nat → ClassId} (C : Cx p s m args meth c cX8_step RX8 2 A dsM D ad cA EM) (hr : meth.sig.returnType = none) (μ : Mem) : T p l e (rmD 1) s m args below meth c 2 A dsM D ad cA enV (fX8_step_J269 μ) 269 [] [] μ := by
  unfold fX8_step_J269
  exact tt_vret rfl C hr dX8_step_269

def fX8_step_J201 (k140 : Mem → Option (Mem)) (z1 : Int32) (μ : Mem) : Option (Mem) := lb (wr μ 0 25 z1) fun m1 => lb (wr m1 0 22 ((m1 0 22) + (1 : Int32))) fun m2 => k140 m2
set_option maxHeartbeats 4000000 in
set_option maxRecDepth 100000 in
theorem wX8_step_J201 {p : Program} {l : Launch} {e : Env} {s : State} {m : MethodId} {args : Array Value} {below : List Frame} {meth : Method} {c : Code} {A : Nat → Prop} {D : va_G} {ad : Nat → Nat} {cA : Nat → ClassId} (C : Cx p s m args meth c cX8_step RX8 2 A dsM D ad cA EM) (hr : meth.sig.returnType = none) (k140 : Mem → Option (Mem)) (hk140 : ∀ (μ : Mem), T p l e (rmD 1) s m args below meth c 2 A dsM D ad cA enV (k140 μ) 140 [(0, .ref (ad 0))] [] μ) (z1 : Int32) (μ : Mem) : T p l e (rmD 1) s m args below meth c 2 A dsM D ad cA enV (fX8_step_J201 k140 z1 μ) 201 [(0, .ref (ad 0))] [.int z1, .ref (ad 0)] μ := by
  unfold fX8_step_J201
  refine tt_putI C (j := 25) dM_0 rfl fl_RX8_97 fw_8_25 dX8_step_201 ?_
  refine tt_lbm (fun m1 => ?_)
  refine tt_aload_n C 0 dX8_step_204 rfl rfl ?_
  refine tt_dup C dX8_step_205 rfl ?_
  refine tt_getI C (j := 22) dM_0 rfl fl_RX8_90 dX8_step_206 ?_
  refine tt_iconst (v := (1 : Int32)) C dX8_step_209 (by decide) ?_
  refine tt_iadd C dX8_step_210 ?_
  refine tt_putI C (j := 22) dM_0 rfl fl_RX8_90 fw_8_22 dX8_step_211 ?_
  refine tt_lbm (fun m2 => ?_)
  refine tt_goto (tgt := 140) C dX8_step_214 (by decide) ?_
  refine tt_sub [0] (L2 := [(0, .ref (ad 0))]) rfl ?_
  exact hk140 m2

def fX8_step_L140 : Nat → Mem → Option (Mem)
  | 0, _ => none
  | fu + 1, μ => bi (fX8_byteAt (μ 0 22) μ) fun v2 m1 => bi (fX8_in v2.toInt64 (48 : Int64) (57 : Int64) m1) fun v4 m3 => if v4 = (0 : Int32) then (lb (wr m3 0 24 (2 : Int32)) fun m5 => if ((m5 0 22) - (m5 0 23)) ≤ (2 : Int32) then (fX8_step_J269 m5) else (bv (fX8_fails (1 : Int32) m5) fun m6 => fX8_step_J269 m6)) else (if (2 : Int32) ≤ ((m3 0 22) - (m3 0 23)) then (fX8_step_J201 (fun μ => fX8_step_L140 fu μ) (m3 0 25) m3) else (bi (fX8_byteAt (m3 0 22) m3) fun v8 m7 => fX8_step_J201 (fun μ => fX8_step_L140 fu μ) ((((10 : Int32) * (m3 0 25)) + v8) - (48 : Int32)) m7))
set_option maxHeartbeats 4000000 in
set_option maxRecDepth 100000 in
theorem wX8_step_L140 {p : Program} {l : Launch} {e : Env} {s : State} {m : MethodId} {args : Array Value} {below : List Frame} {meth : Method} {c : Code} {A : Nat → Prop} {D : va_G} {ad : Nat → Nat} {cA : Nat → ClassId} (C : Cx p s m args meth c cX8_step RX8 2 A dsM D ad cA EM) (hr : meth.sig.returnType = none) : ∀ (fu : Nat) (μ : Mem), T p l e (rmD 1) s m args below meth c 2 A dsM D ad cA enV (fX8_step_L140 fu μ) 140 [(0, .ref (ad 0))] [] μ
  | 0, _ => tt_none
  | fu + 1, μ => by
    have ih := fun (μ : Mem) => wX8_step_L140 (l := l) (e := e) (below := below) C hr fu μ
    show T p l e (rmD 1) s m args below meth c 2 A dsM D ad cA enV (bi (fX8_byteAt (μ 0 22) μ) fun v2 m1 => bi (fX8_in v2.toInt64 (48 : Int64) (57 : Int64) m1) fun v4 m3 => if v4 = (0 : Int32) then (lb (wr m3 0 24 (2 : Int32)) fun m5 => if ((m5 0 22) - (m5 0 23)) ≤ (2 : Int32) then (fX8_step_J269 m5) else (bv (fX8_fails (1 : Int32) m5) fun m6 => fX8_step_J269 m6)) else (if (2 : Int32) ≤ ((m3 0 22) - (m3 0 23)) then (fX8_step_J201 (fun μ => fX8_step_L140 fu μ) (m3 0 25) m3) else (bi (fX8_byteAt (m3 0 22) m3) fun v8 m7 => fX8_step_J201 (fun μ => fX8_step_L140 fu μ) ((((10 : Int32) * (m3 0 25)) + v8) - (48 : Int32)) m7))) 140 [(0, .ref (ad 0))] [] μ
    refine tt_aload_n C 0 dX8_step_140 rfl rfl ?_
    refine tt_aload_n C 0 dX8_step_141 rfl rfl ?_
    refine tt_getI C (j := 22) dM_0 rfl fl_RX8_90 dX8_step_142 ?_
    refine tt_bi (fun v2 m1 h1 => ?_)
    refine tt_callV (st := []) (As := [.int (μ 0 22)]) C (kX8_byteAt C.2.2.2.2.2.2.2.1 h1) mi_X8_byteAt ml_RX8_93 mv_X8_byteAt ms_X8_byteAt (q := (RX8, TX8, 45)) dM_0 rfl rfl (by decide) (by decide) (Nat.le_of_ble_eq_true rfl) dX8_step_145 ?_
    refine tt_i2l C dX8_step_148 ?_
    refine tt_ldc2 (v := (48 : Int64)) C kL_RX8_104 dX8_step_149 ?_
    refine tt_ldc2 (v := (57 : Int64)) C kL_RX8_106 dX8_step_152 ?_
    refine tt_bi (fun v4 m3 h2 => ?_)
    refine tt_callS (st := []) (As := [.long v2.toInt64, .long (48 : Int64), .long (57 : Int64)]) C (kX8_in C.2.2.2.2.2.2.2.1 h2) mi_X8_in ml_RX8_70 mt_X8_in rfl (by decide) (by decide) (Nat.le_of_ble_eq_true rfl) dX8_step_155 ?_
    refine tt_if (fun h3 => ?_) (fun h3 => ?_)
    · refine tt_if_eqT (tgt := 217) C h3 dX8_step_158 (by decide) ?_
      refine tt_aload_n C 0 dX8_step_217 rfl rfl ?_
      refine tt_iconst (v := (2 : Int32)) C dX8_step_218 (by decide) ?_
      refine tt_putI C (j := 24) dM_0 rfl fl_RX8_87 fw_8_24 dX8_step_219 ?_
      refine tt_lbm (fun m5 => ?_)
      refine tt_aload_n C 0 dX8_step_222 rfl rfl ?_
      refine tt_getI C (j := 22) dM_0 rfl fl_RX8_90 dX8_step_223 ?_
      refine tt_aload_n C 0 dX8_step_226 rfl rfl ?_
      refine tt_getI C (j := 23) dM_0 rfl fl_RX8_81 dX8_step_227 ?_
      refine tt_isub C dX8_step_230 ?_
      refine tt_iconst (v := (2 : Int32)) C dX8_step_231 (by decide) ?_
      refine tt_if (fun h4 => ?_) (fun h4 => ?_)
      · refine tt_icmp_leT (tgt := 269) C h4 dX8_step_232 (by decide) ?_
        refine tt_sub [] (L2 := []) rfl ?_
        exact wX8_step_J269 C hr m5
      · refine tt_icmp_leF C 269 h4 dX8_step_232 (by decide) ?_
        refine tt_aload_n C 0 dX8_step_235 rfl rfl ?_
        refine tt_iconst (v := (1 : Int32)) C dX8_step_236 (by decide) ?_
        refine tt_bv (fun m6 h5 => ?_)
        refine tt_callV (st := []) (As := [.int (1 : Int32)]) C (kX8_fails C.2.2.2.2.2.2.2.1 h5) mi_X8_fails ml_RX8_108 mv_X8_fails ms_X8_fails (q := (RX8, TX8, 45)) dM_0 rfl rfl (by decide) (by decide) (Nat.le_of_ble_eq_true rfl) dX8_step_237 ?_
        refine tt_goto (tgt := 269) C dX8_step_240 (by decide) ?_
        refine tt_sub [] (L2 := []) rfl ?_
        exact wX8_step_J269 C hr m6
    · refine tt_if_eqF C 217 h3 dX8_step_158 (by decide) ?_
      refine tt_aload_n C 0 dX8_step_161 rfl rfl ?_
      refine tt_aload_n C 0 dX8_step_162 rfl rfl ?_
      refine tt_getI C (j := 22) dM_0 rfl fl_RX8_90 dX8_step_163 ?_
      refine tt_aload_n C 0 dX8_step_166 rfl rfl ?_
      refine tt_getI C (j := 23) dM_0 rfl fl_RX8_81 dX8_step_167 ?_
      refine tt_isub C dX8_step_170 ?_
      refine tt_iconst (v := (2 : Int32)) C dX8_step_171 (by decide) ?_
      refine tt_if (fun h6 => ?_) (fun h6 => ?_)
      · refine tt_icmp_geT (tgt := 197) C h6 dX8_step_172 (by decide) ?_
        refine tt_aload_n C 0 dX8_step_197 rfl rfl ?_
        refine tt_getI C (j := 25) dM_0 rfl fl_RX8_97 dX8_step_198 ?_
        refine tt_sub [0] (L2 := [(0, .ref (ad 0))]) rfl ?_
        exact wX8_step_J201 C hr (fun μ => fX8_step_L140 fu μ) (fun μ => ih μ) (m3 0 25) m3
      · refine tt_icmp_geF C 197 h6 dX8_step_172 (by decide) ?_
        refine tt_bipush (v := (10 : Int32)) C dX8_step_175 (by decide) ?_
        refine tt_aload_n C 0 dX8_step_177 rfl rfl ?_
        refine tt_getI C (j := 25) dM_0 rfl fl_RX8_97 dX8_step_178 ?_
        refine tt_imul C dX8_step_181 ?_
        refine tt_aload_n C 0 dX8_step_182 rfl rfl ?_
        refine tt_aload_n C 0 dX8_step_183 rfl rfl ?_
        refine tt_getI C (j := 22) dM_0 rfl fl_RX8_90 dX8_step_184 ?_
        refine tt_bi (fun v8 m7 h7 => ?_)
        refine tt_callV (st := [.int ((10 : Int32) * (m3 0 25)), .ref (ad 0)]) (As := [.int (m3 0 22)]) C (kX8_byteAt C.2.2.2.2.2.2.2.1 h7) mi_X8_byteAt ml_RX8_93 mv_X8_byteAt ms_X8_byteAt (q := (RX8, TX8, 45)) dM_0 rfl rfl (by decide) (by decide) (Nat.le_of_ble_eq_true rfl) dX8_step_187 ?_
        refine tt_iadd C dX8_step_190 ?_
        refine tt_bipush (v := (48 : Int32)) C dX8_step_191 (by decide) ?_
        refine tt_isub C dX8_step_193 ?_
        refine tt_goto (tgt := 201) C dX8_step_194 (by decide) ?_
        refine tt_sub [0] (L2 := [(0, .ref (ad 0))]) rfl ?_
        exact wX8_step_J201 C hr (fun μ => fX8_step_L140 fu μ) (fun μ => ih μ) ((((10 : Int32) * (m3 0 25)) + v8) - (48 : Int32)) m7

def fX8_step_L84 : Nat → Mem → Option (Mem)
  | 0, _ => none
  | fu + 1, μ => bi (fX8_byteAt (μ 0 22) μ) fun v2 m1 => bi (fX8_in v2.toInt64 (97 : Int64) (122 : Int64) m1) fun v4 m3 => if v4 = (0 : Int32) then (lb (wr m3 0 24 (1 : Int32)) fun m5 => fX8_step_J269 m5) else (lb (wr m3 0 22 ((m3 0 22) + (1 : Int32))) fun m6 => fX8_step_L84 fu m6)
set_option maxHeartbeats 4000000 in
set_option maxRecDepth 100000 in
theorem wX8_step_L84 {p : Program} {l : Launch} {e : Env} {s : State} {m : MethodId} {args : Array Value} {below : List Frame} {meth : Method} {c : Code} {A : Nat → Prop} {D : va_G} {ad : Nat → Nat} {cA : Nat → ClassId} (C : Cx p s m args meth c cX8_step RX8 2 A dsM D ad cA EM) (hr : meth.sig.returnType = none) : ∀ (fu : Nat) (μ : Mem), T p l e (rmD 1) s m args below meth c 2 A dsM D ad cA enV (fX8_step_L84 fu μ) 84 [(0, .ref (ad 0))] [] μ
  | 0, _ => tt_none
  | fu + 1, μ => by
    have ih := fun (μ : Mem) => wX8_step_L84 (l := l) (e := e) (below := below) C hr fu μ
    show T p l e (rmD 1) s m args below meth c 2 A dsM D ad cA enV (bi (fX8_byteAt (μ 0 22) μ) fun v2 m1 => bi (fX8_in v2.toInt64 (97 : Int64) (122 : Int64) m1) fun v4 m3 => if v4 = (0 : Int32) then (lb (wr m3 0 24 (1 : Int32)) fun m5 => fX8_step_J269 m5) else (lb (wr m3 0 22 ((m3 0 22) + (1 : Int32))) fun m6 => fX8_step_L84 fu m6)) 84 [(0, .ref (ad 0))] [] μ
    refine tt_aload_n C 0 dX8_step_84 rfl rfl ?_
    refine tt_aload_n C 0 dX8_step_85 rfl rfl ?_
    refine tt_getI C (j := 22) dM_0 rfl fl_RX8_90 dX8_step_86 ?_
    refine tt_bi (fun v2 m1 h1 => ?_)
    refine tt_callV (st := []) (As := [.int (μ 0 22)]) C (kX8_byteAt C.2.2.2.2.2.2.2.1 h1) mi_X8_byteAt ml_RX8_93 mv_X8_byteAt ms_X8_byteAt (q := (RX8, TX8, 45)) dM_0 rfl rfl (by decide) (by decide) (Nat.le_of_ble_eq_true rfl) dX8_step_89 ?_
    refine tt_i2l C dX8_step_92 ?_
    refine tt_ldc2 (v := (97 : Int64)) C kL_RX8_100 dX8_step_93 ?_
    refine tt_ldc2 (v := (122 : Int64)) C kL_RX8_102 dX8_step_96 ?_
    refine tt_bi (fun v4 m3 h2 => ?_)
    refine tt_callS (st := []) (As := [.long v2.toInt64, .long (97 : Int64), .long (122 : Int64)]) C (kX8_in C.2.2.2.2.2.2.2.1 h2) mi_X8_in ml_RX8_70 mt_X8_in rfl (by decide) (by decide) (Nat.le_of_ble_eq_true rfl) dX8_step_99 ?_
    refine tt_if (fun h3 => ?_) (fun h3 => ?_)
    · refine tt_if_eqT (tgt := 118) C h3 dX8_step_102 (by decide) ?_
      refine tt_aload_n C 0 dX8_step_118 rfl rfl ?_
      refine tt_iconst (v := (1 : Int32)) C dX8_step_119 (by decide) ?_
      refine tt_putI C (j := 24) dM_0 rfl fl_RX8_87 fw_8_24 dX8_step_120 ?_
      refine tt_lbm (fun m5 => ?_)
      refine tt_goto (tgt := 269) C dX8_step_123 (by decide) ?_
      refine tt_sub [] (L2 := []) rfl ?_
      exact wX8_step_J269 C hr m5
    · refine tt_if_eqF C 118 h3 dX8_step_102 (by decide) ?_
      refine tt_aload_n C 0 dX8_step_105 rfl rfl ?_
      refine tt_dup C dX8_step_106 rfl ?_
      refine tt_getI C (j := 22) dM_0 rfl fl_RX8_90 dX8_step_107 ?_
      refine tt_iconst (v := (1 : Int32)) C dX8_step_110 (by decide) ?_
      refine tt_iadd C dX8_step_111 ?_
      refine tt_putI C (j := 22) dM_0 rfl fl_RX8_90 fw_8_22 dX8_step_112 ?_
      refine tt_lbm (fun m6 => ?_)
      refine tt_goto (tgt := 84) C dX8_step_115 (by decide) ?_
      refine tt_sub [0] (L2 := [(0, .ref (ad 0))]) rfl ?_
      exact ih m6

def fX8_step_L8 : Nat → Mem → Option (Mem)
  | 0, _ => none
  | fu + 1, μ => bi (fX8_byteAt (μ 0 22) μ) fun v2 m1 => if v2 = (32 : Int32) then (lb (wr m1 0 22 ((m1 0 22) + (1 : Int32))) fun m15 => fX8_step_L8 fu m15) else (lb (wr m1 0 23 (m1 0 22)) fun m3 => bi (fX8_byteAt (m3 0 22) m3) fun v5 m4 => lb (wr m4 0 25 (0 : Int32)) fun m6 => if v5 = (-4 : Int32) then (lb (wr m6 0 24 (0 : Int32)) fun m14 => fX8_step_J269 m14) else (bi (fX8_in v5.toInt64 (97 : Int64) (122 : Int64) m6) fun v8 m7 => if v8 = (0 : Int32) then (bi (fX8_in v5.toInt64 (48 : Int64) (57 : Int64) m7) fun v10 m9 => if v10 = (0 : Int32) then (lb (wr m9 0 24 (3 : Int32)) fun m11 => lb (wr m11 0 22 ((m11 0 22) + (1 : Int32))) fun m12 => if v5 = (59 : Int32) then (fX8_step_J269 m12) else (bv (fX8_fails (1 : Int32) m12) fun m13 => fX8_step_J269 m13)) else (fX8_step_L140 FU m9)) else (fX8_step_L84 FU m7)))
set_option maxHeartbeats 4000000 in
set_option maxRecDepth 100000 in
theorem wX8_step_L8 {p : Program} {l : Launch} {e : Env} {s : State} {m : MethodId} {args : Array Value} {below : List Frame} {meth : Method} {c : Code} {A : Nat → Prop} {D : va_G} {ad : Nat → Nat} {cA : Nat → ClassId} (C : Cx p s m args meth c cX8_step RX8 2 A dsM D ad cA EM) (hr : meth.sig.returnType = none) : ∀ (fu : Nat) (μ : Mem), T p l e (rmD 1) s m args below meth c 2 A dsM D ad cA enV (fX8_step_L8 fu μ) 8 [(0, .ref (ad 0))] [] μ
  | 0, _ => tt_none
  | fu + 1, μ => by
    have ih := fun (μ : Mem) => wX8_step_L8 (l := l) (e := e) (below := below) C hr fu μ
    show T p l e (rmD 1) s m args below meth c 2 A dsM D ad cA enV (bi (fX8_byteAt (μ 0 22) μ) fun v2 m1 => if v2 = (32 : Int32) then (lb (wr m1 0 22 ((m1 0 22) + (1 : Int32))) fun m15 => fX8_step_L8 fu m15) else (lb (wr m1 0 23 (m1 0 22)) fun m3 => bi (fX8_byteAt (m3 0 22) m3) fun v5 m4 => lb (wr m4 0 25 (0 : Int32)) fun m6 => if v5 = (-4 : Int32) then (lb (wr m6 0 24 (0 : Int32)) fun m14 => fX8_step_J269 m14) else (bi (fX8_in v5.toInt64 (97 : Int64) (122 : Int64) m6) fun v8 m7 => if v8 = (0 : Int32) then (bi (fX8_in v5.toInt64 (48 : Int64) (57 : Int64) m7) fun v10 m9 => if v10 = (0 : Int32) then (lb (wr m9 0 24 (3 : Int32)) fun m11 => lb (wr m11 0 22 ((m11 0 22) + (1 : Int32))) fun m12 => if v5 = (59 : Int32) then (fX8_step_J269 m12) else (bv (fX8_fails (1 : Int32) m12) fun m13 => fX8_step_J269 m13)) else (fX8_step_L140 FU m9)) else (fX8_step_L84 FU m7)))) 8 [(0, .ref (ad 0))] [] μ
    refine tt_aload_n C 0 dX8_step_8 rfl rfl ?_
    refine tt_aload_n C 0 dX8_step_9 rfl rfl ?_
    refine tt_getI C (j := 22) dM_0 rfl fl_RX8_90 dX8_step_10 ?_
    refine tt_bi (fun v2 m1 h1 => ?_)
    refine tt_callV (st := []) (As := [.int (μ 0 22)]) C (kX8_byteAt C.2.2.2.2.2.2.2.1 h1) mi_X8_byteAt ml_RX8_93 mv_X8_byteAt ms_X8_byteAt (q := (RX8, TX8, 45)) dM_0 rfl rfl (by decide) (by decide) (Nat.le_of_ble_eq_true rfl) dX8_step_13 ?_
    refine tt_bipush (v := (32 : Int32)) C dX8_step_16 (by decide) ?_
    refine tt_if (fun h2 => ?_) (fun h2 => ?_)
    · refine tt_icmp_neF C 34 h2 dX8_step_18 (by decide) ?_
      refine tt_aload_n C 0 dX8_step_21 rfl rfl ?_
      refine tt_dup C dX8_step_22 rfl ?_
      refine tt_getI C (j := 22) dM_0 rfl fl_RX8_90 dX8_step_23 ?_
      refine tt_iconst (v := (1 : Int32)) C dX8_step_26 (by decide) ?_
      refine tt_iadd C dX8_step_27 ?_
      refine tt_putI C (j := 22) dM_0 rfl fl_RX8_90 fw_8_22 dX8_step_28 ?_
      refine tt_lbm (fun m15 => ?_)
      refine tt_goto (tgt := 8) C dX8_step_31 (by decide) ?_
      refine tt_sub [0] (L2 := [(0, .ref (ad 0))]) rfl ?_
      exact ih m15
    · refine tt_icmp_neT (tgt := 34) C h2 dX8_step_18 (by decide) ?_
      refine tt_aload_n C 0 dX8_step_34 rfl rfl ?_
      refine tt_aload_n C 0 dX8_step_35 rfl rfl ?_
      refine tt_getI C (j := 22) dM_0 rfl fl_RX8_90 dX8_step_36 ?_
      refine tt_putI C (j := 23) dM_0 rfl fl_RX8_81 fw_8_23 dX8_step_39 ?_
      refine tt_lbm (fun m3 => ?_)
      refine tt_aload_n C 0 dX8_step_42 rfl rfl ?_
      refine tt_aload_n C 0 dX8_step_43 rfl rfl ?_
      refine tt_getI C (j := 22) dM_0 rfl fl_RX8_90 dX8_step_44 ?_
      refine tt_bi (fun v5 m4 h3 => ?_)
      refine tt_callV (st := []) (As := [.int (m3 0 22)]) C (kX8_byteAt C.2.2.2.2.2.2.2.1 h3) mi_X8_byteAt ml_RX8_93 mv_X8_byteAt ms_X8_byteAt (q := (RX8, TX8, 45)) dM_0 rfl rfl (by decide) (by decide) (Nat.le_of_ble_eq_true rfl) dX8_step_47 ?_
      refine tt_istore_n (L2 := [(1, .int v5), (0, .ref (ad 0))]) C dX8_step_50 rfl (by decide) rfl ?_
      refine tt_aload_n C 1 dX8_step_51 rfl rfl ?_
      refine tt_iconst (v := (0 : Int32)) C dX8_step_52 (by decide) ?_
      refine tt_putI C (j := 25) dM_0 rfl fl_RX8_97 fw_8_25 dX8_step_53 ?_
      refine tt_lbm (fun m6 => ?_)
      refine tt_iload_n C 0 dX8_step_56 rfl rfl ?_
      refine tt_bipush (v := (-4 : Int32)) C dX8_step_57 (by decide) ?_
      refine tt_if (fun h4 => ?_) (fun h4 => ?_)
      · refine tt_icmp_neF C 70 h4 dX8_step_59 (by decide) ?_
        refine tt_aload_n C 1 dX8_step_62 rfl rfl ?_
        refine tt_iconst (v := (0 : Int32)) C dX8_step_63 (by decide) ?_
        refine tt_putI C (j := 24) dM_0 rfl fl_RX8_87 fw_8_24 dX8_step_64 ?_
        refine tt_lbm (fun m14 => ?_)
        refine tt_goto (tgt := 269) C dX8_step_67 (by decide) ?_
        refine tt_sub [] (L2 := []) rfl ?_
        exact wX8_step_J269 C hr m14
      · refine tt_icmp_neT (tgt := 70) C h4 dX8_step_59 (by decide) ?_
        refine tt_iload_n C 0 dX8_step_70 rfl rfl ?_
        refine tt_i2l C dX8_step_71 ?_
        refine tt_ldc2 (v := (97 : Int64)) C kL_RX8_100 dX8_step_72 ?_
        refine tt_ldc2 (v := (122 : Int64)) C kL_RX8_102 dX8_step_75 ?_
        refine tt_bi (fun v8 m7 h5 => ?_)
        refine tt_callS (st := []) (As := [.long v5.toInt64, .long (97 : Int64), .long (122 : Int64)]) C (kX8_in C.2.2.2.2.2.2.2.1 h5) mi_X8_in ml_RX8_70 mt_X8_in rfl (by decide) (by decide) (Nat.le_of_ble_eq_true rfl) dX8_step_78 ?_
        refine tt_if (fun h6 => ?_) (fun h6 => ?_)
        · refine tt_if_eqT (tgt := 126) C h6 dX8_step_81 (by decide) ?_
          refine tt_iload_n C 0 dX8_step_126 rfl rfl ?_
          refine tt_i2l C dX8_step_127 ?_
          refine tt_ldc2 (v := (48 : Int64)) C kL_RX8_104 dX8_step_128 ?_
          refine tt_ldc2 (v := (57 : Int64)) C kL_RX8_106 dX8_step_131 ?_
          refine tt_bi (fun v10 m9 h7 => ?_)
          refine tt_callS (st := []) (As := [.long v5.toInt64, .long (48 : Int64), .long (57 : Int64)]) C (kX8_in C.2.2.2.2.2.2.2.1 h7) mi_X8_in ml_RX8_70 mt_X8_in rfl (by decide) (by decide) (Nat.le_of_ble_eq_true rfl) dX8_step_134 ?_
          refine tt_if (fun h8 => ?_) (fun h8 => ?_)
          · refine tt_if_eqT (tgt := 243) C h8 dX8_step_137 (by decide) ?_
            refine tt_aload_n C 1 dX8_step_243 rfl rfl ?_
            refine tt_iconst (v := (3 : Int32)) C dX8_step_244 (by decide) ?_
            refine tt_putI C (j := 24) dM_0 rfl fl_RX8_87 fw_8_24 dX8_step_245 ?_
            refine tt_lbm (fun m11 => ?_)
            refine tt_aload_n C 1 dX8_step_248 rfl rfl ?_
            refine tt_dup C dX8_step_249 rfl ?_
            refine tt_getI C (j := 22) dM_0 rfl fl_RX8_90 dX8_step_250 ?_
            refine tt_iconst (v := (1 : Int32)) C dX8_step_253 (by decide) ?_
            refine tt_iadd C dX8_step_254 ?_
            refine tt_putI C (j := 22) dM_0 rfl fl_RX8_90 fw_8_22 dX8_step_255 ?_
            refine tt_lbm (fun m12 => ?_)
            refine tt_iload_n C 0 dX8_step_258 rfl rfl ?_
            refine tt_bipush (v := (59 : Int32)) C dX8_step_259 (by decide) ?_
            refine tt_if (fun h9 => ?_) (fun h9 => ?_)
            · refine tt_icmp_eqT (tgt := 269) C h9 dX8_step_261 (by decide) ?_
              refine tt_sub [] (L2 := []) rfl ?_
              exact wX8_step_J269 C hr m12
            · refine tt_icmp_eqF C 269 h9 dX8_step_261 (by decide) ?_
              refine tt_aload_n C 1 dX8_step_264 rfl rfl ?_
              refine tt_iconst (v := (1 : Int32)) C dX8_step_265 (by decide) ?_
              refine tt_bv (fun m13 h10 => ?_)
              refine tt_callV (st := []) (As := [.int (1 : Int32)]) C (kX8_fails C.2.2.2.2.2.2.2.1 h10) mi_X8_fails ml_RX8_108 mv_X8_fails ms_X8_fails (q := (RX8, TX8, 45)) dM_0 rfl rfl (by decide) (by decide) (Nat.le_of_ble_eq_true rfl) dX8_step_266 ?_
              refine tt_sub [] (L2 := []) rfl ?_
              exact wX8_step_J269 C hr m13
          · refine tt_if_eqF C 243 h8 dX8_step_137 (by decide) ?_
            refine tt_sub [1] (L2 := [(0, .ref (ad 0))]) rfl ?_
            exact wX8_step_L140 C hr FU m9
        · refine tt_if_eqF C 126 h6 dX8_step_81 (by decide) ?_
          refine tt_sub [1] (L2 := [(0, .ref (ad 0))]) rfl ?_
          exact wX8_step_L84 C hr FU m7

def fX8_step (μ : Mem) : Option (Mem) := if (μ 0 20) ≤ (0 : Int32) then (fX8_step_L8 FU μ) else (some μ)
set_option maxHeartbeats 4000000 in
set_option maxRecDepth 100000 in
theorem wX8_step {p : Program} {l : Launch} {e : Env} {s : State} {m : MethodId} {args : Array Value} {below : List Frame} {meth : Method} {c : Code} {A : Nat → Prop} {D : va_G} {ad : Nat → Nat} {cA : Nat → ClassId} (C : Cx p s m args meth c cX8_step RX8 2 A dsM D ad cA EM) (hr : meth.sig.returnType = none) (μ : Mem) : T p l e (rmD 1) s m args below meth c 2 A dsM D ad cA enV (fX8_step μ) 0 [(0, .ref (ad 0))] [] μ := by
  unfold fX8_step
  refine tt_aload_n C 0 dX8_step_0 rfl rfl ?_
  refine tt_getI C (j := 20) dM_0 rfl fl_RX8_78 dX8_step_1 ?_
  refine tt_if (fun h1 => ?_) (fun h1 => ?_)
  · refine tt_if_leT (tgt := 8) C h1 dX8_step_4 (by decide) ?_
    refine tt_sub [0] (L2 := [(0, .ref (ad 0))]) rfl ?_
    exact wX8_step_L8 C hr FU μ
  · refine tt_if_leF C 8 h1 dX8_step_4 (by decide) ?_
    exact tt_vret rfl C hr dX8_step_7
theorem kX8_step {l : Launch} {A : Nat → Prop} {D : va_G} {ad : Nat → Nat} {cA : Nat → ClassId} (hPk : Pk A dsM ad cA EM) {μ : Mem} {ν : Mem} (h : fX8_step μ = some ν) : Ct l A dsM D ad cA EM yX8_step cX8_step 2 none 1 [.ref (ad 0)] μ (enV ν) :=
  ct_of (by decide) (Nat.le_of_ble_eq_true rfl) hPk rfl (fun p e s m args below meth c C hr => wX8_step C hr μ) h

/-! BasketRoundModel.number(II)I -/
def fX8_number_J62 (z0 : Int32) (μ : Mem) : Option (Int32 × Mem) := bv (fX8_step μ) fun m1 => some (z0, m1)
set_option maxHeartbeats 4000000 in
set_option maxRecDepth 100000 in
theorem wX8_number_J62 {p : Program} {l : Launch} {e : Env} {s : State} {m : MethodId} {args : Array Value} {below : List Frame} {meth : Method} {c : Code} {A : Nat → Prop} {D : va_G} {ad : Nat → Nat} {cA : Nat → ClassId} (C : Cx p s m args meth c cX8_number RX8 4 A dsM D ad cA EM) (hr : meth.sig.returnType = some .int) (z0 : Int32) (μ : Mem) : T p l e (rmD 2) s m args below meth c 4 A dsM D ad cA enI (fX8_number_J62 z0 μ) 62 [(0, .ref (ad 0))] [.int z0] μ := by
  unfold fX8_number_J62
  refine tt_istore_n (L2 := [(3, .int z0), (0, .ref (ad 0))]) C dX8_number_62 rfl (by decide) rfl ?_
  refine tt_aload_n C 1 dX8_number_63 rfl rfl ?_
  refine tt_bv (fun m1 h1 => ?_)
  refine tt_callV (st := []) (As := []) C (kX8_step C.2.2.2.2.2.2.2.1 h1) mi_X8_step ml_RX8_112 mv_X8_step ms_X8_step (q := (RX8, TX8, 45)) dM_0 rfl rfl (by decide) (by decide) (Nat.le_of_ble_eq_true rfl) dX8_number_64 ?_
  refine tt_iload_n C 0 dX8_number_67 rfl rfl ?_
  exact tt_iret rfl C hr dX8_number_68

def fX8_number_J47 (x1 : Int32) (μ : Mem) : Option (Int32 × Mem) := if (μ 0 20) = (0 : Int32) then (fX8_number_J62 (μ 0 25) μ) else (fX8_number_J62 x1 μ)
set_option maxHeartbeats 4000000 in
set_option maxRecDepth 100000 in
theorem wX8_number_J47 {p : Program} {l : Launch} {e : Env} {s : State} {m : MethodId} {args : Array Value} {below : List Frame} {meth : Method} {c : Code} {A : Nat → Prop} {D : va_G} {ad : Nat → Nat} {cA : Nat → ClassId} (C : Cx p s m args meth c cX8_number RX8 4 A dsM D ad cA EM) (hr : meth.sig.returnType = some .int) (x1 : Int32) (μ : Mem) : T p l e (rmD 2) s m args below meth c 4 A dsM D ad cA enI (fX8_number_J47 x1 μ) 47 [(0, .ref (ad 0)), (1, .int x1)] [] μ := by
  unfold fX8_number_J47
  refine tt_aload_n C 0 dX8_number_47 rfl rfl ?_
  refine tt_getI C (j := 20) dM_0 rfl fl_RX8_78 dX8_number_48 ?_
  refine tt_if (fun h1 => ?_) (fun h1 => ?_)
  · refine tt_if_neF C 61 h1 dX8_number_51 (by decide) ?_
    refine tt_aload_n C 0 dX8_number_54 rfl rfl ?_
    refine tt_getI C (j := 25) dM_0 rfl fl_RX8_97 dX8_number_55 ?_
    refine tt_goto (tgt := 62) C dX8_number_58 (by decide) ?_
    refine tt_sub [0] (L2 := [(0, .ref (ad 0))]) rfl ?_
    exact wX8_number_J62 C hr (μ 0 25) μ
  · refine tt_if_neT (tgt := 61) C h1 dX8_number_51 (by decide) ?_
    refine tt_iload_n C 1 dX8_number_61 rfl rfl ?_
    refine tt_sub [0] (L2 := [(0, .ref (ad 0))]) rfl ?_
    exact wX8_number_J62 C hr x1 μ

def fX8_number_J20 (x1 : Int32) (x2 : Int32) (μ : Mem) : Option (Int32 × Mem) := if (μ 0 20) = (0 : Int32) then (bi (fX8_in ((μ 0 25).toInt64) x1.toInt64 x2.toInt64 μ) fun v2 m1 => if v2 = (0 : Int32) then (bv (fX8_fails (3 : Int32) m1) fun m3 => fX8_number_J47 x1 m3) else (fX8_number_J47 x1 m1)) else (fX8_number_J47 x1 μ)
set_option maxHeartbeats 4000000 in
set_option maxRecDepth 100000 in
theorem wX8_number_J20 {p : Program} {l : Launch} {e : Env} {s : State} {m : MethodId} {args : Array Value} {below : List Frame} {meth : Method} {c : Code} {A : Nat → Prop} {D : va_G} {ad : Nat → Nat} {cA : Nat → ClassId} (C : Cx p s m args meth c cX8_number RX8 4 A dsM D ad cA EM) (hr : meth.sig.returnType = some .int) (x1 : Int32) (x2 : Int32) (μ : Mem) : T p l e (rmD 2) s m args below meth c 4 A dsM D ad cA enI (fX8_number_J20 x1 x2 μ) 20 [(0, .ref (ad 0)), (1, .int x1), (2, .int x2)] [] μ := by
  unfold fX8_number_J20
  refine tt_aload_n C 0 dX8_number_20 rfl rfl ?_
  refine tt_getI C (j := 20) dM_0 rfl fl_RX8_78 dX8_number_21 ?_
  refine tt_if (fun h1 => ?_) (fun h1 => ?_)
  · refine tt_if_neF C 47 h1 dX8_number_24 (by decide) ?_
    refine tt_aload_n C 0 dX8_number_27 rfl rfl ?_
    refine tt_getI C (j := 25) dM_0 rfl fl_RX8_97 dX8_number_28 ?_
    refine tt_i2l C dX8_number_31 ?_
    refine tt_iload_n C 1 dX8_number_32 rfl rfl ?_
    refine tt_i2l C dX8_number_33 ?_
    refine tt_iload_n C 2 dX8_number_34 rfl rfl ?_
    refine tt_i2l C dX8_number_35 ?_
    refine tt_bi (fun v2 m1 h2 => ?_)
    refine tt_callS (st := []) (As := [.long ((μ 0 25).toInt64), .long x1.toInt64, .long x2.toInt64]) C (kX8_in C.2.2.2.2.2.2.2.1 h2) mi_X8_in ml_RX8_70 mt_X8_in rfl (by decide) (by decide) (Nat.le_of_ble_eq_true rfl) dX8_number_36 ?_
    refine tt_if (fun h3 => ?_) (fun h3 => ?_)
    · refine tt_if_neF C 47 h3 dX8_number_39 (by decide) ?_
      refine tt_aload_n C 0 dX8_number_42 rfl rfl ?_
      refine tt_iconst (v := (3 : Int32)) C dX8_number_43 (by decide) ?_
      refine tt_bv (fun m3 h4 => ?_)
      refine tt_callV (st := []) (As := [.int (3 : Int32)]) C (kX8_fails C.2.2.2.2.2.2.2.1 h4) mi_X8_fails ml_RX8_108 mv_X8_fails ms_X8_fails (q := (RX8, TX8, 45)) dM_0 rfl rfl (by decide) (by decide) (Nat.le_of_ble_eq_true rfl) dX8_number_44 ?_
      refine tt_sub [0, 1] (L2 := [(0, .ref (ad 0)), (1, .int x1)]) rfl ?_
      exact wX8_number_J47 C hr x1 m3
    · refine tt_if_neT (tgt := 47) C h3 dX8_number_39 (by decide) ?_
      refine tt_sub [0, 1] (L2 := [(0, .ref (ad 0)), (1, .int x1)]) rfl ?_
      exact wX8_number_J47 C hr x1 m1
  · refine tt_if_neT (tgt := 47) C h1 dX8_number_24 (by decide) ?_
    refine tt_sub [0, 1] (L2 := [(0, .ref (ad 0)), (1, .int x1)]) rfl ?_
    exact wX8_number_J47 C hr x1 μ

def fX8_number (x1 : Int32) (x2 : Int32) (μ : Mem) : Option (Int32 × Mem) := if (μ 0 20) = (0 : Int32) then (if (μ 0 24) = (2 : Int32) then (fX8_number_J20 x1 x2 μ) else (bv (fX8_fails (2 : Int32) μ) fun m1 => fX8_number_J20 x1 x2 m1)) else (fX8_number_J20 x1 x2 μ)
set_option maxHeartbeats 4000000 in
set_option maxRecDepth 100000 in
theorem wX8_number {p : Program} {l : Launch} {e : Env} {s : State} {m : MethodId} {args : Array Value} {below : List Frame} {meth : Method} {c : Code} {A : Nat → Prop} {D : va_G} {ad : Nat → Nat} {cA : Nat → ClassId} (C : Cx p s m args meth c cX8_number RX8 4 A dsM D ad cA EM) (hr : meth.sig.returnType = some .int) (x1 : Int32) (x2 : Int32) (μ : Mem) : T p l e (rmD 2) s m args below meth c 4 A dsM D ad cA enI (fX8_number x1 x2 μ) 0 [(0, .ref (ad 0)), (1, .int x1), (2, .int x2)] [] μ := by
  unfold fX8_number
  refine tt_aload_n C 0 dX8_number_0 rfl rfl ?_
  refine tt_getI C (j := 20) dM_0 rfl fl_RX8_78 dX8_number_1 ?_
  refine tt_if (fun h1 => ?_) (fun h1 => ?_)
  · refine tt_if_neF C 20 h1 dX8_number_4 (by decide) ?_
    refine tt_aload_n C 0 dX8_number_7 rfl rfl ?_
    refine tt_getI C (j := 24) dM_0 rfl fl_RX8_87 dX8_number_8 ?_
    refine tt_iconst (v := (2 : Int32)) C dX8_number_11 (by decide) ?_
    refine tt_if (fun h2 => ?_) (fun h2 => ?_)
    · refine tt_icmp_eqT (tgt := 20) C h2 dX8_number_12 (by decide) ?_
      refine tt_sub [0, 1, 2] (L2 := [(0, .ref (ad 0)), (1, .int x1), (2, .int x2)]) rfl ?_
      exact wX8_number_J20 C hr x1 x2 μ
    · refine tt_icmp_eqF C 20 h2 dX8_number_12 (by decide) ?_
      refine tt_aload_n C 0 dX8_number_15 rfl rfl ?_
      refine tt_iconst (v := (2 : Int32)) C dX8_number_16 (by decide) ?_
      refine tt_bv (fun m1 h3 => ?_)
      refine tt_callV (st := []) (As := [.int (2 : Int32)]) C (kX8_fails C.2.2.2.2.2.2.2.1 h3) mi_X8_fails ml_RX8_108 mv_X8_fails ms_X8_fails (q := (RX8, TX8, 45)) dM_0 rfl rfl (by decide) (by decide) (Nat.le_of_ble_eq_true rfl) dX8_number_17 ?_
      refine tt_sub [0, 1, 2] (L2 := [(0, .ref (ad 0)), (1, .int x1), (2, .int x2)]) rfl ?_
      exact wX8_number_J20 C hr x1 x2 m1
  · refine tt_if_neT (tgt := 20) C h1 dX8_number_4 (by decide) ?_
    refine tt_sub [0, 1, 2] (L2 := [(0, .ref (ad 0)), (1, .int x1), (2, .int x2)]) rfl ?_
    exact wX8_number_J20 C hr x1 x2 μ
theorem kX8_number {l : Launch} {A : Nat → Prop} {D : va_G} {ad : Nat → Nat} {cA : Nat → ClassId} (hPk : Pk A dsM ad cA EM) {x1 : Int32} {x2 : Int32} {μ : Mem} {v : Int32} {ν : Mem} (h : fX8_number x1 x2 μ = some (v, ν)) : Ct l A dsM D ad cA EM yX8_number cX8_number 4 (some .int) 2 [.ref (ad 0), .int x1, .int x2] μ (enI (v, ν)) :=
  ct_of (by decide) (Nat.le_of_ble_eq_true rfl) hPk rfl (fun p e s m args below meth c C hr => wX8_number C hr x1 x2 μ) h

