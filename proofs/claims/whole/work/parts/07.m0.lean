/-! BasketRoundModel.at(II)I -/
def fX8_at (x1 : Int32) (x2 : Int32) (μ : Mem) : Option (Int32 × Mem) := gr (x1 + x2) 160 <| some (((μ 1 (x1 + x2).toNatClampNeg) + x2), μ)
set_option maxHeartbeats 4000000 in
set_option maxRecDepth 100000 in
theorem wX8_at {p : Program} {l : Launch} {e : Env} {s : State} {m : MethodId} {args : Array Value} {below : List Frame} {meth : Method} {c : Code} {A : Nat → Prop} {D : va_G} {ad : Nat → Nat} {cA : Nat → ClassId} (C : Cx p s m args meth c cX8_at RX8 3 A dsM D ad cA EM) (hr : meth.sig.returnType = some .int) (x1 : Int32) (x2 : Int32) (μ : Mem) : T p l e (rmD 0) s m args below meth c 3 A dsM D ad cA enI (fX8_at x1 x2 μ) 0 [(0, .ref (ad 0)), (1, .int x1), (2, .int x2)] [] μ := by
  unfold fX8_at
  refine tt_aload_n C 0 dX8_at_0 rfl rfl ?_
  refine tt_getR C (j := 0) (r0 := 1) dM_0 rfl fl_RX8_7 dX8_at_1 ?_
  refine tt_iload_n C 1 dX8_at_4 rfl rfl ?_
  refine tt_iload_n C 2 dX8_at_5 rfl rfl ?_
  refine tt_iadd C dX8_at_6 ?_
  refine tt_gr (fun h1 => ?_)
  refine tt_iald C dM_1 h1 dX8_at_7 ?_
  refine tt_iload_n C 2 dX8_at_8 rfl rfl ?_
  refine tt_iadd C dX8_at_9 ?_
  exact tt_iret rfl C hr dX8_at_10
theorem kX8_at {l : Launch} {A : Nat → Prop} {D : va_G} {ad : Nat → Nat} {cA : Nat → ClassId} (hPk : Pk A dsM ad cA EM) {x1 : Int32} {x2 : Int32} {μ : Mem} {v : Int32} {ν : Mem} (h : fX8_at x1 x2 μ = some (v, ν)) : Ct l A dsM D ad cA EM yX8_at cX8_at 3 (some .int) 0 [.ref (ad 0), .int x1, .int x2] μ (enI (v, ν)) :=
  ct_of (by decide) (Nat.le_of_ble_eq_true rfl) hPk rfl (fun p e s m args below meth c C hr => wX8_at C hr x1 x2 μ) h

/-! BasketRoundModel.above(II)I -/
def fX8_above_L5 : Nat → Int32 → Int32 → Int32 → Int32 → Mem → Option (Int32 × Mem)
  | 0, _, _, _, _, _ => none
  | fu + 1, x1, x2, x3, x4, μ => bi (fX8_at (20 : Int32) x4 μ) fun v2 m1 => if v2 = x1 then (some (x3, m1)) else (bi (fX8_at (20 : Int32) x4 m1) fun v4 m3 => lb (x3 ||| (x2 &&& ((1 : Int32) <<< (v4 &&& 31)))) fun (y5 : Int32) => lb (x4 + (1 : Int32)) fun (y6 : Int32) => fX8_above_L5 fu x1 x2 y5 y6 m3)
set_option maxHeartbeats 4000000 in
set_option maxRecDepth 100000 in
theorem wX8_above_L5 {p : Program} {l : Launch} {e : Env} {s : State} {m : MethodId} {args : Array Value} {below : List Frame} {meth : Method} {c : Code} {A : Nat → Prop} {D : va_G} {ad : Nat → Nat} {cA : Nat → ClassId} (C : Cx p s m args meth c cX8_above RX8 5 A dsM D ad cA EM) (hr : meth.sig.returnType = some .int) : ∀ (fu : Nat) (x1 : Int32) (x2 : Int32) (x3 : Int32) (x4 : Int32) (μ : Mem), T p l e (rmD 1) s m args below meth c 5 A dsM D ad cA enI (fX8_above_L5 fu x1 x2 x3 x4 μ) 5 [(0, .ref (ad 0)), (1, .int x1), (2, .int x2), (3, .int x3), (4, .int x4)] [] μ
  | 0, _, _, _, _, _ => tt_none
  | fu + 1, x1, x2, x3, x4, μ => by
    have ih := fun (x1 : Int32) (x2 : Int32) (x3 : Int32) (x4 : Int32) (μ : Mem) => wX8_above_L5 (l := l) (e := e) (below := below) C hr fu x1 x2 x3 x4 μ
    show T p l e (rmD 1) s m args below meth c 5 A dsM D ad cA enI (bi (fX8_at (20 : Int32) x4 μ) fun v2 m1 => if v2 = x1 then (some (x3, m1)) else (bi (fX8_at (20 : Int32) x4 m1) fun v4 m3 => lb (x3 ||| (x2 &&& ((1 : Int32) <<< (v4 &&& 31)))) fun (y5 : Int32) => lb (x4 + (1 : Int32)) fun (y6 : Int32) => fX8_above_L5 fu x1 x2 y5 y6 m3)) 5 [(0, .ref (ad 0)), (1, .int x1), (2, .int x2), (3, .int x3), (4, .int x4)] [] μ
    refine tt_aload_n C 0 dX8_above_5 rfl rfl ?_
    refine tt_bipush (v := (20 : Int32)) C dX8_above_6 (by decide) ?_
    refine tt_iload C 4 dX8_above_8 rfl ?_
    refine tt_bi (fun v2 m1 h1 => ?_)
    refine tt_callV (st := []) (As := [.int (20 : Int32), .int x4]) C (kX8_at C.2.2.2.2.2.2.2.1 h1) mi_X8_at ml_RX8_173 mv_X8_at ms_X8_at (q := (RX8, TX8, 45)) dM_0 rfl rfl (by decide) (by decide) (Nat.le_of_ble_eq_true rfl) dX8_above_10 ?_
    refine tt_iload_n C 1 dX8_above_13 rfl rfl ?_
    refine tt_if (fun h2 => ?_) (fun h2 => ?_)
    · refine tt_icmp_eqT (tgt := 38) C h2 dX8_above_14 (by decide) ?_
      refine tt_iload_n C 3 dX8_above_38 rfl rfl ?_
      exact tt_iret rfl C hr dX8_above_39
    · refine tt_icmp_eqF C 38 h2 dX8_above_14 (by decide) ?_
      refine tt_iload_n C 3 dX8_above_17 rfl rfl ?_
      refine tt_iload_n C 2 dX8_above_18 rfl rfl ?_
      refine tt_iconst (v := (1 : Int32)) C dX8_above_19 (by decide) ?_
      refine tt_aload_n C 0 dX8_above_20 rfl rfl ?_
      refine tt_bipush (v := (20 : Int32)) C dX8_above_21 (by decide) ?_
      refine tt_iload C 4 dX8_above_23 rfl ?_
      refine tt_bi (fun v4 m3 h3 => ?_)
      refine tt_callV (st := [.int (1 : Int32), .int x2, .int x3]) (As := [.int (20 : Int32), .int x4]) C (kX8_at C.2.2.2.2.2.2.2.1 h3) mi_X8_at ml_RX8_173 mv_X8_at ms_X8_at (q := (RX8, TX8, 45)) dM_0 rfl rfl (by decide) (by decide) (Nat.le_of_ble_eq_true rfl) dX8_above_25 ?_
      refine tt_ishl C dX8_above_28 ?_
      refine tt_iand C dX8_above_29 ?_
      refine tt_ior C dX8_above_30 ?_
      refine tt_lbi (fun y5 => ?_)
      refine tt_istore_n (L2 := [(3, .int y5), (0, .ref (ad 0)), (1, .int x1), (2, .int x2), (4, .int x4)]) C dX8_above_31 rfl (by decide) rfl ?_
      refine tt_iincB (d := (1 : Int32)) C 4 (fun y6 => [(4, .int y6), (3, .int y5), (0, .ref (ad 0)), (1, .int x1), (2, .int x2)]) dX8_above_32 rfl (by decide) (by decide) (fun _ => rfl) (fun y6 => ?_)
      refine tt_goto (tgt := 5) C dX8_above_35 (by decide) ?_
      refine tt_sub [2, 3, 4, 1, 0] (L2 := [(0, .ref (ad 0)), (1, .int x1), (2, .int x2), (3, .int y5), (4, .int y6)]) rfl ?_
      exact ih x1 x2 y5 y6 m3

def fX8_above (x1 : Int32) (x2 : Int32) (μ : Mem) : Option (Int32 × Mem) := lb (0 : Int32) fun (y1 : Int32) => lb (0 : Int32) fun (y2 : Int32) => fX8_above_L5 FU x1 x2 y1 y2 μ
set_option maxHeartbeats 4000000 in
set_option maxRecDepth 100000 in
theorem wX8_above {p : Program} {l : Launch} {e : Env} {s : State} {m : MethodId} {args : Array Value} {below : List Frame} {meth : Method} {c : Code} {A : Nat → Prop} {D : va_G} {ad : Nat → Nat} {cA : Nat → ClassId} (C : Cx p s m args meth c cX8_above RX8 5 A dsM D ad cA EM) (hr : meth.sig.returnType = some .int) (x1 : Int32) (x2 : Int32) (μ : Mem) : T p l e (rmD 1) s m args below meth c 5 A dsM D ad cA enI (fX8_above x1 x2 μ) 0 [(0, .ref (ad 0)), (1, .int x1), (2, .int x2)] [] μ := by
  unfold fX8_above
  refine tt_iconst (v := (0 : Int32)) C dX8_above_0 (by decide) ?_
  refine tt_lbi (fun y1 => ?_)
  refine tt_istore_n (L2 := [(3, .int y1), (0, .ref (ad 0)), (1, .int x1), (2, .int x2)]) C dX8_above_1 rfl (by decide) rfl ?_
  refine tt_iconst (v := (0 : Int32)) C dX8_above_2 (by decide) ?_
  refine tt_lbi (fun y2 => ?_)
  refine tt_istore (L2 := [(4, .int y2), (3, .int y1), (0, .ref (ad 0)), (1, .int x1), (2, .int x2)]) C dX8_above_3 (by decide) rfl ?_
  refine tt_sub [2, 3, 4, 1, 0] (L2 := [(0, .ref (ad 0)), (1, .int x1), (2, .int x2), (3, .int y1), (4, .int y2)]) rfl ?_
  exact wX8_above_L5 C hr FU x1 x2 y1 y2 μ
theorem kX8_above {l : Launch} {A : Nat → Prop} {D : va_G} {ad : Nat → Nat} {cA : Nat → ClassId} (hPk : Pk A dsM ad cA EM) {x1 : Int32} {x2 : Int32} {μ : Mem} {v : Int32} {ν : Mem} (h : fX8_above x1 x2 μ = some (v, ν)) : Ct l A dsM D ad cA EM yX8_above cX8_above 5 (some .int) 1 [.ref (ad 0), .int x1, .int x2] μ (enI (v, ν)) :=
  ct_of (by decide) (Nat.le_of_ble_eq_true rfl) hPk rfl (fun p e s m args below meth c C hr => wX8_above C hr x1 x2 μ) h

/-! BasketRoundModel.codeOf(I)I -/
def fX8_codeOf_L4 : Nat → Int32 → Int32 → Int32 → Mem → Option (Int32 × Mem)
  | 0, _, _, _, _ => none
  | fu + 1, x1, x2, x3, μ => if (μ 0 5) ≤ x3 then (some (x2, μ)) else (bi (fX8_at x1 x3 μ) fun v2 m1 => lb (((5 : Int32) * x2) + v2) fun (y3 : Int32) => lb (x3 + (1 : Int32)) fun (y4 : Int32) => fX8_codeOf_L4 fu x1 y3 y4 m1)
set_option maxHeartbeats 4000000 in
set_option maxRecDepth 100000 in
theorem wX8_codeOf_L4 {p : Program} {l : Launch} {e : Env} {s : State} {m : MethodId} {args : Array Value} {below : List Frame} {meth : Method} {c : Code} {A : Nat → Prop} {D : va_G} {ad : Nat → Nat} {cA : Nat → ClassId} (C : Cx p s m args meth c cX8_codeOf RX8 4 A dsM D ad cA EM) (hr : meth.sig.returnType = some .int) : ∀ (fu : Nat) (x1 : Int32) (x2 : Int32) (x3 : Int32) (μ : Mem), T p l e (rmD 1) s m args below meth c 4 A dsM D ad cA enI (fX8_codeOf_L4 fu x1 x2 x3 μ) 4 [(0, .ref (ad 0)), (1, .int x1), (2, .int x2), (3, .int x3)] [] μ
  | 0, _, _, _, _ => tt_none
  | fu + 1, x1, x2, x3, μ => by
    have ih := fun (x1 : Int32) (x2 : Int32) (x3 : Int32) (μ : Mem) => wX8_codeOf_L4 (l := l) (e := e) (below := below) C hr fu x1 x2 x3 μ
    show T p l e (rmD 1) s m args below meth c 4 A dsM D ad cA enI (if (μ 0 5) ≤ x3 then (some (x2, μ)) else (bi (fX8_at x1 x3 μ) fun v2 m1 => lb (((5 : Int32) * x2) + v2) fun (y3 : Int32) => lb (x3 + (1 : Int32)) fun (y4 : Int32) => fX8_codeOf_L4 fu x1 y3 y4 m1)) 4 [(0, .ref (ad 0)), (1, .int x1), (2, .int x2), (3, .int x3)] [] μ
    refine tt_iload_n C 3 dX8_codeOf_4 rfl rfl ?_
    refine tt_aload_n C 0 dX8_codeOf_5 rfl rfl ?_
    refine tt_getI C (j := 5) dM_0 rfl fl_RX8_167 dX8_codeOf_6 ?_
    refine tt_if (fun h1 => ?_) (fun h1 => ?_)
    · refine tt_icmp_geT (tgt := 29) C h1 dX8_codeOf_9 (by decide) ?_
      refine tt_iload_n C 2 dX8_codeOf_29 rfl rfl ?_
      exact tt_iret rfl C hr dX8_codeOf_30
    · refine tt_icmp_geF C 29 h1 dX8_codeOf_9 (by decide) ?_
      refine tt_iconst (v := (5 : Int32)) C dX8_codeOf_12 (by decide) ?_
      refine tt_iload_n C 2 dX8_codeOf_13 rfl rfl ?_
      refine tt_imul C dX8_codeOf_14 ?_
      refine tt_aload_n C 0 dX8_codeOf_15 rfl rfl ?_
      refine tt_iload_n C 1 dX8_codeOf_16 rfl rfl ?_
      refine tt_iload_n C 3 dX8_codeOf_17 rfl rfl ?_
      refine tt_bi (fun v2 m1 h2 => ?_)
      refine tt_callV (st := [.int ((5 : Int32) * x2)]) (As := [.int x1, .int x3]) C (kX8_at C.2.2.2.2.2.2.2.1 h2) mi_X8_at ml_RX8_173 mv_X8_at ms_X8_at (q := (RX8, TX8, 45)) dM_0 rfl rfl (by decide) (by decide) (Nat.le_of_ble_eq_true rfl) dX8_codeOf_18 ?_
      refine tt_iadd C dX8_codeOf_21 ?_
      refine tt_lbi (fun y3 => ?_)
      refine tt_istore_n (L2 := [(2, .int y3), (0, .ref (ad 0)), (1, .int x1), (3, .int x3)]) C dX8_codeOf_22 rfl (by decide) rfl ?_
      refine tt_iincB (d := (1 : Int32)) C 3 (fun y4 => [(3, .int y4), (2, .int y3), (0, .ref (ad 0)), (1, .int x1)]) dX8_codeOf_23 rfl (by decide) (by decide) (fun _ => rfl) (fun y4 => ?_)
      refine tt_goto (tgt := 4) C dX8_codeOf_26 (by decide) ?_
      refine tt_sub [2, 3, 1, 0] (L2 := [(0, .ref (ad 0)), (1, .int x1), (2, .int y3), (3, .int y4)]) rfl ?_
      exact ih x1 y3 y4 m1

def fX8_codeOf (x1 : Int32) (μ : Mem) : Option (Int32 × Mem) := lb (0 : Int32) fun (y1 : Int32) => lb (0 : Int32) fun (y2 : Int32) => fX8_codeOf_L4 FU x1 y1 y2 μ
set_option maxHeartbeats 4000000 in
set_option maxRecDepth 100000 in
theorem wX8_codeOf {p : Program} {l : Launch} {e : Env} {s : State} {m : MethodId} {args : Array Value} {below : List Frame} {meth : Method} {c : Code} {A : Nat → Prop} {D : va_G} {ad : Nat → Nat} {cA : Nat → ClassId} (C : Cx p s m args meth c cX8_codeOf RX8 4 A dsM D ad cA EM) (hr : meth.sig.returnType = some .int) (x1 : Int32) (μ : Mem) : T p l e (rmD 1) s m args below meth c 4 A dsM D ad cA enI (fX8_codeOf x1 μ) 0 [(0, .ref (ad 0)), (1, .int x1)] [] μ := by
  unfold fX8_codeOf
  refine tt_iconst (v := (0 : Int32)) C dX8_codeOf_0 (by decide) ?_
  refine tt_lbi (fun y1 => ?_)
  refine tt_istore_n (L2 := [(2, .int y1), (0, .ref (ad 0)), (1, .int x1)]) C dX8_codeOf_1 rfl (by decide) rfl ?_
  refine tt_iconst (v := (0 : Int32)) C dX8_codeOf_2 (by decide) ?_
  refine tt_lbi (fun y2 => ?_)
  refine tt_istore_n (L2 := [(3, .int y2), (2, .int y1), (0, .ref (ad 0)), (1, .int x1)]) C dX8_codeOf_3 rfl (by decide) rfl ?_
  refine tt_sub [2, 3, 1, 0] (L2 := [(0, .ref (ad 0)), (1, .int x1), (2, .int y1), (3, .int y2)]) rfl ?_
  exact wX8_codeOf_L4 C hr FU x1 y1 y2 μ
theorem kX8_codeOf {l : Launch} {A : Nat → Prop} {D : va_G} {ad : Nat → Nat} {cA : Nat → ClassId} (hPk : Pk A dsM ad cA EM) {x1 : Int32} {μ : Mem} {v : Int32} {ν : Mem} (h : fX8_codeOf x1 μ = some (v, ν)) : Ct l A dsM D ad cA EM yX8_codeOf cX8_codeOf 4 (some .int) 1 [.ref (ad 0), .int x1] μ (enI (v, ν)) :=
  ct_of (by decide) (Nat.le_of_ble_eq_true rfl) hPk rfl (fun p e s m args below meth c C hr => wX8_codeOf C hr x1 μ) h

/-! BasketRoundModel.codes()I -/
def fX8_codes_L4 : Nat → Int32 → Int32 → Mem → Option (Int32 × Mem)
  | 0, _, _, _ => none
  | fu + 1, x1, x2, μ => if (μ 0 5) ≤ x2 then (some (x1, μ)) else (lb (x1 * (5 : Int32)) fun (y1 : Int32) => lb (x2 + (1 : Int32)) fun (y2 : Int32) => fX8_codes_L4 fu y1 y2 μ)
set_option maxHeartbeats 4000000 in
set_option maxRecDepth 100000 in
theorem wX8_codes_L4 {p : Program} {l : Launch} {e : Env} {s : State} {m : MethodId} {args : Array Value} {below : List Frame} {meth : Method} {c : Code} {A : Nat → Prop} {D : va_G} {ad : Nat → Nat} {cA : Nat → ClassId} (C : Cx p s m args meth c cX8_codes RX8 3 A dsM D ad cA EM) (hr : meth.sig.returnType = some .int) : ∀ (fu : Nat) (x1 : Int32) (x2 : Int32) (μ : Mem), T p l e (rmD 0) s m args below meth c 3 A dsM D ad cA enI (fX8_codes_L4 fu x1 x2 μ) 4 [(0, .ref (ad 0)), (1, .int x1), (2, .int x2)] [] μ
  | 0, _, _, _ => tt_none
  | fu + 1, x1, x2, μ => by
    have ih := fun (x1 : Int32) (x2 : Int32) (μ : Mem) => wX8_codes_L4 (l := l) (e := e) (below := below) C hr fu x1 x2 μ
    show T p l e (rmD 0) s m args below meth c 3 A dsM D ad cA enI (if (μ 0 5) ≤ x2 then (some (x1, μ)) else (lb (x1 * (5 : Int32)) fun (y1 : Int32) => lb (x2 + (1 : Int32)) fun (y2 : Int32) => fX8_codes_L4 fu y1 y2 μ)) 4 [(0, .ref (ad 0)), (1, .int x1), (2, .int x2)] [] μ
    refine tt_iload_n C 2 dX8_codes_4 rfl rfl ?_
    refine tt_aload_n C 0 dX8_codes_5 rfl rfl ?_
    refine tt_getI C (j := 5) dM_0 rfl fl_RX8_167 dX8_codes_6 ?_
    refine tt_if (fun h1 => ?_) (fun h1 => ?_)
    · refine tt_icmp_geT (tgt := 22) C h1 dX8_codes_9 (by decide) ?_
      refine tt_iload_n C 1 dX8_codes_22 rfl rfl ?_
      exact tt_iret rfl C hr dX8_codes_23
    · refine tt_icmp_geF C 22 h1 dX8_codes_9 (by decide) ?_
      refine tt_iload_n C 1 dX8_codes_12 rfl rfl ?_
      refine tt_iconst (v := (5 : Int32)) C dX8_codes_13 (by decide) ?_
      refine tt_imul C dX8_codes_14 ?_
      refine tt_lbi (fun y1 => ?_)
      refine tt_istore_n (L2 := [(1, .int y1), (0, .ref (ad 0)), (2, .int x2)]) C dX8_codes_15 rfl (by decide) rfl ?_
      refine tt_iincB (d := (1 : Int32)) C 2 (fun y2 => [(2, .int y2), (1, .int y1), (0, .ref (ad 0))]) dX8_codes_16 rfl (by decide) (by decide) (fun _ => rfl) (fun y2 => ?_)
      refine tt_goto (tgt := 4) C dX8_codes_19 (by decide) ?_
      refine tt_sub [2, 1, 0] (L2 := [(0, .ref (ad 0)), (1, .int y1), (2, .int y2)]) rfl ?_
      exact ih y1 y2 μ

def fX8_codes (μ : Mem) : Option (Int32 × Mem) := lb (1 : Int32) fun (y1 : Int32) => lb (0 : Int32) fun (y2 : Int32) => fX8_codes_L4 FU y1 y2 μ
set_option maxHeartbeats 4000000 in
set_option maxRecDepth 100000 in
theorem wX8_codes {p : Program} {l : Launch} {e : Env} {s : State} {m : MethodId} {args : Array Value} {below : List Frame} {meth : Method} {c : Code} {A : Nat → Prop} {D : va_G} {ad : Nat → Nat} {cA : Nat → ClassId} (C : Cx p s m args meth c cX8_codes RX8 3 A dsM D ad cA EM) (hr : meth.sig.returnType = some .int) (μ : Mem) : T p l e (rmD 0) s m args below meth c 3 A dsM D ad cA enI (fX8_codes μ) 0 [(0, .ref (ad 0))] [] μ := by
  unfold fX8_codes
  refine tt_iconst (v := (1 : Int32)) C dX8_codes_0 (by decide) ?_
  refine tt_lbi (fun y1 => ?_)
  refine tt_istore_n (L2 := [(1, .int y1), (0, .ref (ad 0))]) C dX8_codes_1 rfl (by decide) rfl ?_
  refine tt_iconst (v := (0 : Int32)) C dX8_codes_2 (by decide) ?_
  refine tt_lbi (fun y2 => ?_)
  refine tt_istore_n (L2 := [(2, .int y2), (1, .int y1), (0, .ref (ad 0))]) C dX8_codes_3 rfl (by decide) rfl ?_
  refine tt_sub [2, 1, 0] (L2 := [(0, .ref (ad 0)), (1, .int y1), (2, .int y2)]) rfl ?_
  exact wX8_codes_L4 C hr FU y1 y2 μ
theorem kX8_codes {l : Launch} {A : Nat → Prop} {D : va_G} {ad : Nat → Nat} {cA : Nat → ClassId} (hPk : Pk A dsM ad cA EM) {μ : Mem} {v : Int32} {ν : Mem} (h : fX8_codes μ = some (v, ν)) : Ct l A dsM D ad cA EM yX8_codes cX8_codes 3 (some .int) 0 [.ref (ad 0)] μ (enI (v, ν)) :=
  ct_of (by decide) (Nat.le_of_ble_eq_true rfl) hPk rfl (fun p e s m args below meth c C hr => wX8_codes C hr μ) h

/-! BasketRoundModel.laysCode(II)Z -/
def fX8_laysCode_J121 (x5 : Int32) (μ : Mem) : Option (Int32 × Mem) := gd (x5 = (0 : Int32) ∨ x5 = (1 : Int32)) <| some (x5, μ)
set_option maxHeartbeats 4000000 in
set_option maxRecDepth 100000 in
theorem wX8_laysCode_J121 {p : Program} {l : Launch} {e : Env} {s : State} {m : MethodId} {args : Array Value} {below : List Frame} {meth : Method} {c : Code} {A : Nat → Prop} {D : va_G} {ad : Nat → Nat} {cA : Nat → ClassId} (C : Cx p s m args meth c cX8_laysCode RX8 8 A dsM D ad cA EM) (hr : meth.sig.returnType = some .boolean) (x5 : Int32) (μ : Mem) : T p l e (rmD 0) s m args below meth c 8 A dsM D ad cA enI (fX8_laysCode_J121 x5 μ) 121 [(5, .int x5)] [] μ := by
  unfold fX8_laysCode_J121
  refine tt_iload C 0 dX8_laysCode_121 rfl ?_
  refine tt_gd (fun h1 => ?_)
  exact tt_zret rfl C hr h1 dX8_laysCode_123

def fX8_laysCode_L86 : Nat → Int32 → Int32 → Int32 → Int32 → Mem → Option (Int32 × Mem)
  | 0, _, _, _, _, _ => none
  | fu + 1, x1, x3, x5, x6, μ => if x6 < (0 : Int32) then (fX8_laysCode_J121 x5 μ) else (if x5 = (0 : Int32) then (fX8_laysCode_J121 x5 μ) else (gd (¬ (5 : Int32) = (0 : Int32)) <| gr (x1 + x6) 160 <| lb (wr μ 1 (x1 + x6).toNatClampNeg ((irm x3 (5 : Int32)) - x6)) fun m1 => gd (¬ (5 : Int32) = (0 : Int32)) <| lb (x3 / (5 : Int32)) fun (y2 : Int32) => lb (x6 + (-1 : Int32)) fun (y3 : Int32) => fX8_laysCode_L86 fu x1 y2 x5 y3 m1))
set_option maxHeartbeats 4000000 in
set_option maxRecDepth 100000 in
theorem wX8_laysCode_L86 {p : Program} {l : Launch} {e : Env} {s : State} {m : MethodId} {args : Array Value} {below : List Frame} {meth : Method} {c : Code} {A : Nat → Prop} {D : va_G} {ad : Nat → Nat} {cA : Nat → ClassId} (C : Cx p s m args meth c cX8_laysCode RX8 8 A dsM D ad cA EM) (hr : meth.sig.returnType = some .boolean) : ∀ (fu : Nat) (x1 : Int32) (x3 : Int32) (x5 : Int32) (x6 : Int32) (μ : Mem), T p l e (rmD 0) s m args below meth c 8 A dsM D ad cA enI (fX8_laysCode_L86 fu x1 x3 x5 x6 μ) 86 [(0, .ref (ad 0)), (1, .int x1), (3, .int x3), (5, .int x5), (6, .int x6)] [] μ
  | 0, _, _, _, _, _ => tt_none
  | fu + 1, x1, x3, x5, x6, μ => by
    have ih := fun (x1 : Int32) (x3 : Int32) (x5 : Int32) (x6 : Int32) (μ : Mem) => wX8_laysCode_L86 (l := l) (e := e) (below := below) C hr fu x1 x3 x5 x6 μ
    show T p l e (rmD 0) s m args below meth c 8 A dsM D ad cA enI (if x6 < (0 : Int32) then (fX8_laysCode_J121 x5 μ) else (if x5 = (0 : Int32) then (fX8_laysCode_J121 x5 μ) else (gd (¬ (5 : Int32) = (0 : Int32)) <| gr (x1 + x6) 160 <| lb (wr μ 1 (x1 + x6).toNatClampNeg ((irm x3 (5 : Int32)) - x6)) fun m1 => gd (¬ (5 : Int32) = (0 : Int32)) <| lb (x3 / (5 : Int32)) fun (y2 : Int32) => lb (x6 + (-1 : Int32)) fun (y3 : Int32) => fX8_laysCode_L86 fu x1 y2 x5 y3 m1))) 86 [(0, .ref (ad 0)), (1, .int x1), (3, .int x3), (5, .int x5), (6, .int x6)] [] μ
    refine tt_iload C 4 dX8_laysCode_86 rfl ?_
    refine tt_if (fun h1 => ?_) (fun h1 => ?_)
    · refine tt_if_ltT (tgt := 121) C h1 dX8_laysCode_88 (by decide) ?_
      refine tt_sub [3] (L2 := [(5, .int x5)]) rfl ?_
      exact wX8_laysCode_J121 C hr x5 μ
    · refine tt_if_ltF C 121 h1 dX8_laysCode_88 (by decide) ?_
      refine tt_iload C 3 dX8_laysCode_91 rfl ?_
      refine tt_if (fun h2 => ?_) (fun h2 => ?_)
      · refine tt_if_eqT (tgt := 121) C h2 dX8_laysCode_93 (by decide) ?_
        refine tt_sub [3] (L2 := [(5, .int x5)]) rfl ?_
        exact wX8_laysCode_J121 C hr x5 μ
      · refine tt_if_eqF C 121 h2 dX8_laysCode_93 (by decide) ?_
        refine tt_aload_n C 0 dX8_laysCode_96 rfl rfl ?_
        refine tt_getR C (j := 0) (r0 := 1) dM_0 rfl fl_RX8_7 dX8_laysCode_97 ?_
        refine tt_iload_n C 1 dX8_laysCode_100 rfl rfl ?_
        refine tt_iload C 4 dX8_laysCode_101 rfl ?_
        refine tt_iadd C dX8_laysCode_103 ?_
        refine tt_iload_n C 2 dX8_laysCode_104 rfl rfl ?_
        refine tt_iconst (v := (5 : Int32)) C dX8_laysCode_105 (by decide) ?_
        refine tt_gd (fun h3 => ?_)
        refine tt_irem C h3 dX8_laysCode_106 ?_
        refine tt_iload C 4 dX8_laysCode_107 rfl ?_
        refine tt_isub C dX8_laysCode_109 ?_
        refine tt_gr (fun h4 => ?_)
        refine tt_iast C dM_1 h4 dX8_laysCode_110 ?_
        refine tt_lbm (fun m1 => ?_)
        refine tt_iload_n C 2 dX8_laysCode_111 rfl rfl ?_
        refine tt_iconst (v := (5 : Int32)) C dX8_laysCode_112 (by decide) ?_
        refine tt_gd (fun h5 => ?_)
        refine tt_idiv C h5 dX8_laysCode_113 ?_
        refine tt_lbi (fun y2 => ?_)
        refine tt_istore_n (L2 := [(3, .int y2), (0, .ref (ad 0)), (1, .int x1), (5, .int x5), (6, .int x6)]) C dX8_laysCode_114 rfl (by decide) rfl ?_
        refine tt_iincB (d := (-1 : Int32)) C 4 (fun y3 => [(6, .int y3), (3, .int y2), (0, .ref (ad 0)), (1, .int x1), (5, .int x5)]) dX8_laysCode_115 rfl (by decide) (by decide) (fun _ => rfl) (fun y3 => ?_)
        refine tt_goto (tgt := 86) C dX8_laysCode_118 (by decide) ?_
        refine tt_sub [2, 3, 1, 4, 0] (L2 := [(0, .ref (ad 0)), (1, .int x1), (3, .int y2), (5, .int x5), (6, .int y3)]) rfl ?_
        exact ih x1 y2 x5 y3 m1

def fX8_laysCode_J59 (k16 : Int32 → Int32 → Int32 → Int32 → Int32 → Int32 → Mem → Option (Int32 × Mem)) (x1 : Int32) (x2 : Int32) (x3 : Int32) (x4 : Int32) (x6 : Int32) (x7 : Int32) (z0 : Int32) (μ : Mem) : Option (Int32 × Mem) := lb (x4 ||| ((1 : Int32) <<< (x7 &&& 31))) fun (y1 : Int32) => lb (x6 + (-1 : Int32)) fun (y2 : Int32) => k16 x1 x2 x3 y1 z0 y2 μ
set_option maxHeartbeats 4000000 in
set_option maxRecDepth 100000 in
theorem wX8_laysCode_J59 {p : Program} {l : Launch} {e : Env} {s : State} {m : MethodId} {args : Array Value} {below : List Frame} {meth : Method} {c : Code} {A : Nat → Prop} {D : va_G} {ad : Nat → Nat} {cA : Nat → ClassId} (C : Cx p s m args meth c cX8_laysCode RX8 8 A dsM D ad cA EM) (hr : meth.sig.returnType = some .boolean) (k16 : Int32 → Int32 → Int32 → Int32 → Int32 → Int32 → Mem → Option (Int32 × Mem)) (hk16 : ∀ (x1 : Int32) (x2 : Int32) (x3 : Int32) (x4 : Int32) (x5 : Int32) (x6 : Int32) (μ : Mem), T p l e (rmD 0) s m args below meth c 8 A dsM D ad cA enI (k16 x1 x2 x3 x4 x5 x6 μ) 16 [(0, .ref (ad 0)), (1, .int x1), (2, .int x2), (3, .int x3), (4, .int x4), (5, .int x5), (6, .int x6)] [] μ) (x1 : Int32) (x2 : Int32) (x3 : Int32) (x4 : Int32) (x6 : Int32) (x7 : Int32) (z0 : Int32) (μ : Mem) : T p l e (rmD 0) s m args below meth c 8 A dsM D ad cA enI (fX8_laysCode_J59 k16 x1 x2 x3 x4 x6 x7 z0 μ) 59 [(0, .ref (ad 0)), (1, .int x1), (2, .int x2), (3, .int x3), (4, .int x4), (6, .int x6), (7, .int x7)] [.int z0] μ := by
  unfold fX8_laysCode_J59
  refine tt_istore (L2 := [(5, .int z0), (0, .ref (ad 0)), (1, .int x1), (2, .int x2), (3, .int x3), (4, .int x4), (6, .int x6), (7, .int x7)]) C dX8_laysCode_59 (by decide) rfl ?_
  refine tt_iload C 5 dX8_laysCode_61 rfl ?_
  refine tt_iconst (v := (1 : Int32)) C dX8_laysCode_63 (by decide) ?_
  refine tt_iload C 7 dX8_laysCode_64 rfl ?_
  refine tt_ishl C dX8_laysCode_66 ?_
  refine tt_ior C dX8_laysCode_67 ?_
  refine tt_lbi (fun y1 => ?_)
  refine tt_istore (L2 := [(4, .int y1), (5, .int z0), (0, .ref (ad 0)), (1, .int x1), (2, .int x2), (3, .int x3), (6, .int x6), (7, .int x7)]) C dX8_laysCode_68 (by decide) rfl ?_
  refine tt_iincB (d := (-1 : Int32)) C 6 (fun y2 => [(6, .int y2), (4, .int y1), (5, .int z0), (0, .ref (ad 0)), (1, .int x1), (2, .int x2), (3, .int x3), (7, .int x7)]) dX8_laysCode_70 rfl (by decide) (by decide) (fun _ => rfl) (fun y2 => ?_)
  refine tt_goto (tgt := 16) C dX8_laysCode_73 (by decide) ?_
  refine tt_sub [3, 4, 5, 6, 1, 2, 0] (L2 := [(0, .ref (ad 0)), (1, .int x1), (2, .int x2), (3, .int x3), (4, .int y1), (5, .int z0), (6, .int y2)]) rfl ?_
  exact hk16 x1 x2 x3 y1 z0 y2 μ

def fX8_laysCode_J58 (k16 : Int32 → Int32 → Int32 → Int32 → Int32 → Int32 → Mem → Option (Int32 × Mem)) (x1 : Int32) (x2 : Int32) (x3 : Int32) (x4 : Int32) (x6 : Int32) (x7 : Int32) (μ : Mem) : Option (Int32 × Mem) := fX8_laysCode_J59 k16 x1 x2 x3 x4 x6 x7 (0 : Int32) μ
set_option maxHeartbeats 4000000 in
set_option maxRecDepth 100000 in
theorem wX8_laysCode_J58 {p : Program} {l : Launch} {e : Env} {s : State} {m : MethodId} {args : Array Value} {below : List Frame} {meth : Method} {c : Code} {A : Nat → Prop} {D : va_G} {ad : Nat → Nat} {cA : Nat → ClassId} (C : Cx p s m args meth c cX8_laysCode RX8 8 A dsM D ad cA EM) (hr : meth.sig.returnType = some .boolean) (k16 : Int32 → Int32 → Int32 → Int32 → Int32 → Int32 → Mem → Option (Int32 × Mem)) (hk16 : ∀ (x1 : Int32) (x2 : Int32) (x3 : Int32) (x4 : Int32) (x5 : Int32) (x6 : Int32) (μ : Mem), T p l e (rmD 0) s m args below meth c 8 A dsM D ad cA enI (k16 x1 x2 x3 x4 x5 x6 μ) 16 [(0, .ref (ad 0)), (1, .int x1), (2, .int x2), (3, .int x3), (4, .int x4), (5, .int x5), (6, .int x6)] [] μ) (x1 : Int32) (x2 : Int32) (x3 : Int32) (x4 : Int32) (x6 : Int32) (x7 : Int32) (μ : Mem) : T p l e (rmD 0) s m args below meth c 8 A dsM D ad cA enI (fX8_laysCode_J58 k16 x1 x2 x3 x4 x6 x7 μ) 58 [(0, .ref (ad 0)), (1, .int x1), (2, .int x2), (3, .int x3), (4, .int x4), (6, .int x6), (7, .int x7)] [] μ := by
  unfold fX8_laysCode_J58
  refine tt_iconst (v := (0 : Int32)) C dX8_laysCode_58 (by decide) ?_
  refine tt_sub [0, 1, 2, 3, 4, 5, 6] (L2 := [(0, .ref (ad 0)), (1, .int x1), (2, .int x2), (3, .int x3), (4, .int x4), (6, .int x6), (7, .int x7)]) rfl ?_
  exact wX8_laysCode_J59 C hr k16 hk16 x1 x2 x3 x4 x6 x7 (0 : Int32) μ

def fX8_laysCode_L16 : Nat → Int32 → Int32 → Int32 → Int32 → Int32 → Int32 → Mem → Option (Int32 × Mem)
  | 0, _, _, _, _, _, _, _ => none
  | fu + 1, x1, x2, x3, x4, x5, x6, μ => if x6 < (0 : Int32) then (lb ((μ 0 5) - (1 : Int32)) fun (y1 : Int32) => fX8_laysCode_L86 FU x1 x2 x5 y1 μ) else (gd (¬ (5 : Int32) = (0 : Int32)) <| lb (irm x3 (5 : Int32)) fun (y2 : Int32) => gd (¬ (5 : Int32) = (0 : Int32)) <| lb (x3 / (5 : Int32)) fun (y3 : Int32) => if x5 = (0 : Int32) then (fX8_laysCode_J58 (fun x1 x2 x3 x4 x5 x6 μ => fX8_laysCode_L16 fu x1 x2 x3 x4 x5 x6 μ) x1 x2 y3 x4 x6 y2 μ) else (if (μ 0 5) ≤ y2 then (fX8_laysCode_J58 (fun x1 x2 x3 x4 x5 x6 μ => fX8_laysCode_L16 fu x1 x2 x3 x4 x5 x6 μ) x1 x2 y3 x4 x6 y2 μ) else (if ((x4 >>> (y2 &&& 31)) &&& (1 : Int32)) = (0 : Int32) then (fX8_laysCode_J59 (fun x1 x2 x3 x4 x5 x6 μ => fX8_laysCode_L16 fu x1 x2 x3 x4 x5 x6 μ) x1 x2 y3 x4 x6 y2 (1 : Int32) μ) else (fX8_laysCode_J58 (fun x1 x2 x3 x4 x5 x6 μ => fX8_laysCode_L16 fu x1 x2 x3 x4 x5 x6 μ) x1 x2 y3 x4 x6 y2 μ))))
set_option maxHeartbeats 4000000 in
set_option maxRecDepth 100000 in
theorem wX8_laysCode_L16 {p : Program} {l : Launch} {e : Env} {s : State} {m : MethodId} {args : Array Value} {below : List Frame} {meth : Method} {c : Code} {A : Nat → Prop} {D : va_G} {ad : Nat → Nat} {cA : Nat → ClassId} (C : Cx p s m args meth c cX8_laysCode RX8 8 A dsM D ad cA EM) (hr : meth.sig.returnType = some .boolean) : ∀ (fu : Nat) (x1 : Int32) (x2 : Int32) (x3 : Int32) (x4 : Int32) (x5 : Int32) (x6 : Int32) (μ : Mem), T p l e (rmD 0) s m args below meth c 8 A dsM D ad cA enI (fX8_laysCode_L16 fu x1 x2 x3 x4 x5 x6 μ) 16 [(0, .ref (ad 0)), (1, .int x1), (2, .int x2), (3, .int x3), (4, .int x4), (5, .int x5), (6, .int x6)] [] μ
  | 0, _, _, _, _, _, _, _ => tt_none
  | fu + 1, x1, x2, x3, x4, x5, x6, μ => by
    have ih := fun (x1 : Int32) (x2 : Int32) (x3 : Int32) (x4 : Int32) (x5 : Int32) (x6 : Int32) (μ : Mem) => wX8_laysCode_L16 (l := l) (e := e) (below := below) C hr fu x1 x2 x3 x4 x5 x6 μ
    show T p l e (rmD 0) s m args below meth c 8 A dsM D ad cA enI (if x6 < (0 : Int32) then (lb ((μ 0 5) - (1 : Int32)) fun (y1 : Int32) => fX8_laysCode_L86 FU x1 x2 x5 y1 μ) else (gd (¬ (5 : Int32) = (0 : Int32)) <| lb (irm x3 (5 : Int32)) fun (y2 : Int32) => gd (¬ (5 : Int32) = (0 : Int32)) <| lb (x3 / (5 : Int32)) fun (y3 : Int32) => if x5 = (0 : Int32) then (fX8_laysCode_J58 (fun x1 x2 x3 x4 x5 x6 μ => fX8_laysCode_L16 fu x1 x2 x3 x4 x5 x6 μ) x1 x2 y3 x4 x6 y2 μ) else (if (μ 0 5) ≤ y2 then (fX8_laysCode_J58 (fun x1 x2 x3 x4 x5 x6 μ => fX8_laysCode_L16 fu x1 x2 x3 x4 x5 x6 μ) x1 x2 y3 x4 x6 y2 μ) else (if ((x4 >>> (y2 &&& 31)) &&& (1 : Int32)) = (0 : Int32) then (fX8_laysCode_J59 (fun x1 x2 x3 x4 x5 x6 μ => fX8_laysCode_L16 fu x1 x2 x3 x4 x5 x6 μ) x1 x2 y3 x4 x6 y2 (1 : Int32) μ) else (fX8_laysCode_J58 (fun x1 x2 x3 x4 x5 x6 μ => fX8_laysCode_L16 fu x1 x2 x3 x4 x5 x6 μ) x1 x2 y3 x4 x6 y2 μ))))) 16 [(0, .ref (ad 0)), (1, .int x1), (2, .int x2), (3, .int x3), (4, .int x4), (5, .int x5), (6, .int x6)] [] μ
    refine tt_iload C 6 dX8_laysCode_16 rfl ?_
    refine tt_if (fun h1 => ?_) (fun h1 => ?_)
    · refine tt_if_ltT (tgt := 76) C h1 dX8_laysCode_18 (by decide) ?_
      refine tt_iload_n C 2 dX8_laysCode_76 rfl rfl ?_
      refine tt_istore_n (L2 := [(3, .int x2), (0, .ref (ad 0)), (1, .int x1), (2, .int x2), (4, .int x4), (5, .int x5), (6, .int x6)]) C dX8_laysCode_77 rfl (by decide) rfl ?_
      refine tt_aload_n C 1 dX8_laysCode_78 rfl rfl ?_
      refine tt_getI C (j := 5) dM_0 rfl fl_RX8_167 dX8_laysCode_79 ?_
      refine tt_iconst (v := (1 : Int32)) C dX8_laysCode_82 (by decide) ?_
      refine tt_isub C dX8_laysCode_83 ?_
      refine tt_lbi (fun y1 => ?_)
      refine tt_istore (L2 := [(6, .int y1), (3, .int x2), (0, .ref (ad 0)), (1, .int x1), (2, .int x2), (4, .int x4), (5, .int x5)]) C dX8_laysCode_84 (by decide) rfl ?_
      refine tt_sub [2, 3, 1, 6, 0] (L2 := [(0, .ref (ad 0)), (1, .int x1), (3, .int x2), (5, .int x5), (6, .int y1)]) rfl ?_
      exact wX8_laysCode_L86 C hr FU x1 x2 x5 y1 μ
    · refine tt_if_ltF C 76 h1 dX8_laysCode_18 (by decide) ?_
      refine tt_iload_n C 3 dX8_laysCode_21 rfl rfl ?_
      refine tt_iconst (v := (5 : Int32)) C dX8_laysCode_22 (by decide) ?_
      refine tt_gd (fun h2 => ?_)
      refine tt_irem C h2 dX8_laysCode_23 ?_
      refine tt_lbi (fun y2 => ?_)
      refine tt_istore (L2 := [(7, .int y2), (0, .ref (ad 0)), (1, .int x1), (2, .int x2), (3, .int x3), (4, .int x4), (5, .int x5), (6, .int x6)]) C dX8_laysCode_24 (by decide) rfl ?_
      refine tt_iload_n C 4 dX8_laysCode_26 rfl rfl ?_
      refine tt_iconst (v := (5 : Int32)) C dX8_laysCode_27 (by decide) ?_
      refine tt_gd (fun h3 => ?_)
      refine tt_idiv C h3 dX8_laysCode_28 ?_
      refine tt_lbi (fun y3 => ?_)
      refine tt_istore_n (L2 := [(3, .int y3), (7, .int y2), (0, .ref (ad 0)), (1, .int x1), (2, .int x2), (4, .int x4), (5, .int x5), (6, .int x6)]) C dX8_laysCode_29 rfl (by decide) rfl ?_
      refine tt_iload C 6 dX8_laysCode_30 rfl ?_
      refine tt_if (fun h4 => ?_) (fun h4 => ?_)
      · refine tt_if_eqT (tgt := 58) C h4 dX8_laysCode_32 (by decide) ?_
        refine tt_sub [2, 3, 4, 0, 5, 7, 1] (L2 := [(0, .ref (ad 0)), (1, .int x1), (2, .int x2), (3, .int y3), (4, .int x4), (6, .int x6), (7, .int y2)]) rfl ?_
        exact wX8_laysCode_J58 C hr (fun x1 x2 x3 x4 x5 x6 μ => fX8_laysCode_L16 fu x1 x2 x3 x4 x5 x6 μ) (fun x1 x2 x3 x4 x5 x6 μ => ih x1 x2 x3 x4 x5 x6 μ) x1 x2 y3 x4 x6 y2 μ
      · refine tt_if_eqF C 58 h4 dX8_laysCode_32 (by decide) ?_
        refine tt_iload C 1 dX8_laysCode_35 rfl ?_
        refine tt_aload_n C 2 dX8_laysCode_37 rfl rfl ?_
        refine tt_getI C (j := 5) dM_0 rfl fl_RX8_167 dX8_laysCode_38 ?_
        refine tt_if (fun h5 => ?_) (fun h5 => ?_)
        · refine tt_icmp_geT (tgt := 58) C h5 dX8_laysCode_41 (by decide) ?_
          refine tt_sub [2, 3, 4, 0, 5, 7, 1] (L2 := [(0, .ref (ad 0)), (1, .int x1), (2, .int x2), (3, .int y3), (4, .int x4), (6, .int x6), (7, .int y2)]) rfl ?_
          exact wX8_laysCode_J58 C hr (fun x1 x2 x3 x4 x5 x6 μ => fX8_laysCode_L16 fu x1 x2 x3 x4 x5 x6 μ) (fun x1 x2 x3 x4 x5 x6 μ => ih x1 x2 x3 x4 x5 x6 μ) x1 x2 y3 x4 x6 y2 μ
        · refine tt_icmp_geF C 58 h5 dX8_laysCode_41 (by decide) ?_
          refine tt_iload C 5 dX8_laysCode_44 rfl ?_
          refine tt_iload C 1 dX8_laysCode_46 rfl ?_
          refine tt_ishr C dX8_laysCode_48 ?_
          refine tt_iconst (v := (1 : Int32)) C dX8_laysCode_49 (by decide) ?_
          refine tt_iand C dX8_laysCode_50 ?_
          refine tt_if (fun h6 => ?_) (fun h6 => ?_)
          · refine tt_if_neF C 58 h6 dX8_laysCode_51 (by decide) ?_
            refine tt_iconst (v := (1 : Int32)) C dX8_laysCode_54 (by decide) ?_
            refine tt_goto (tgt := 59) C dX8_laysCode_55 (by decide) ?_
            refine tt_sub [2, 3, 4, 0, 5, 7, 1] (L2 := [(0, .ref (ad 0)), (1, .int x1), (2, .int x2), (3, .int y3), (4, .int x4), (6, .int x6), (7, .int y2)]) rfl ?_
            exact wX8_laysCode_J59 C hr (fun x1 x2 x3 x4 x5 x6 μ => fX8_laysCode_L16 fu x1 x2 x3 x4 x5 x6 μ) (fun x1 x2 x3 x4 x5 x6 μ => ih x1 x2 x3 x4 x5 x6 μ) x1 x2 y3 x4 x6 y2 (1 : Int32) μ
          · refine tt_if_neT (tgt := 58) C h6 dX8_laysCode_51 (by decide) ?_
            refine tt_sub [2, 3, 4, 0, 5, 7, 1] (L2 := [(0, .ref (ad 0)), (1, .int x1), (2, .int x2), (3, .int y3), (4, .int x4), (6, .int x6), (7, .int y2)]) rfl ?_
            exact wX8_laysCode_J58 C hr (fun x1 x2 x3 x4 x5 x6 μ => fX8_laysCode_L16 fu x1 x2 x3 x4 x5 x6 μ) (fun x1 x2 x3 x4 x5 x6 μ => ih x1 x2 x3 x4 x5 x6 μ) x1 x2 y3 x4 x6 y2 μ

def fX8_laysCode (x1 : Int32) (x2 : Int32) (μ : Mem) : Option (Int32 × Mem) := lb (0 : Int32) fun (y1 : Int32) => lb (1 : Int32) fun (y2 : Int32) => lb ((μ 0 5) - (1 : Int32)) fun (y3 : Int32) => fX8_laysCode_L16 FU x1 x2 x2 y1 y2 y3 μ
set_option maxHeartbeats 4000000 in
set_option maxRecDepth 100000 in
theorem wX8_laysCode {p : Program} {l : Launch} {e : Env} {s : State} {m : MethodId} {args : Array Value} {below : List Frame} {meth : Method} {c : Code} {A : Nat → Prop} {D : va_G} {ad : Nat → Nat} {cA : Nat → ClassId} (C : Cx p s m args meth c cX8_laysCode RX8 8 A dsM D ad cA EM) (hr : meth.sig.returnType = some .boolean) (x1 : Int32) (x2 : Int32) (μ : Mem) : T p l e (rmD 0) s m args below meth c 8 A dsM D ad cA enI (fX8_laysCode x1 x2 μ) 0 [(0, .ref (ad 0)), (1, .int x1), (2, .int x2)] [] μ := by
  unfold fX8_laysCode
  refine tt_iload_n C 2 dX8_laysCode_0 rfl rfl ?_
  refine tt_istore_n (L2 := [(3, .int x2), (0, .ref (ad 0)), (1, .int x1), (2, .int x2)]) C dX8_laysCode_1 rfl (by decide) rfl ?_
  refine tt_iconst (v := (0 : Int32)) C dX8_laysCode_2 (by decide) ?_
  refine tt_lbi (fun y1 => ?_)
  refine tt_istore (L2 := [(4, .int y1), (3, .int x2), (0, .ref (ad 0)), (1, .int x1), (2, .int x2)]) C dX8_laysCode_3 (by decide) rfl ?_
  refine tt_iconst (v := (1 : Int32)) C dX8_laysCode_5 (by decide) ?_
  refine tt_lbi (fun y2 => ?_)
  refine tt_istore (L2 := [(5, .int y2), (4, .int y1), (3, .int x2), (0, .ref (ad 0)), (1, .int x1), (2, .int x2)]) C dX8_laysCode_6 (by decide) rfl ?_
  refine tt_aload_n C 3 dX8_laysCode_8 rfl rfl ?_
  refine tt_getI C (j := 5) dM_0 rfl fl_RX8_167 dX8_laysCode_9 ?_
  refine tt_iconst (v := (1 : Int32)) C dX8_laysCode_12 (by decide) ?_
  refine tt_isub C dX8_laysCode_13 ?_
  refine tt_lbi (fun y3 => ?_)
  refine tt_istore (L2 := [(6, .int y3), (5, .int y2), (4, .int y1), (3, .int x2), (0, .ref (ad 0)), (1, .int x1), (2, .int x2)]) C dX8_laysCode_14 (by decide) rfl ?_
  refine tt_sub [4, 5, 6, 3, 2, 1, 0] (L2 := [(0, .ref (ad 0)), (1, .int x1), (2, .int x2), (3, .int x2), (4, .int y1), (5, .int y2), (6, .int y3)]) rfl ?_
  exact wX8_laysCode_L16 C hr FU x1 x2 x2 y1 y2 y3 μ
theorem kX8_laysCode {l : Launch} {A : Nat → Prop} {D : va_G} {ad : Nat → Nat} {cA : Nat → ClassId} (hPk : Pk A dsM ad cA EM) {x1 : Int32} {x2 : Int32} {μ : Mem} {v : Int32} {ν : Mem} (h : fX8_laysCode x1 x2 μ = some (v, ν)) : Ct l A dsM D ad cA EM yX8_laysCode cX8_laysCode 8 (some .boolean) 0 [.ref (ad 0), .int x1, .int x2] μ (enI (v, ν)) :=
  ct_of (by decide) (Nat.le_of_ble_eq_true rfl) hPk rfl (fun p e s m args below meth c C hr => wX8_laysCode C hr x1 x2 μ) h

/-! BasketRoundModel.clears()V -/
def fX8_clears (μ : Mem) : Option (Mem) := lb (wr μ 0 29 (0 : Int32)) fun m1 => lb (wr m1 0 30 (0 : Int32)) fun m2 => lb (wr m2 0 31 (0 : Int32)) fun m3 => lb (wr m3 0 32 (0 : Int32)) fun m4 => lb (wr m4 0 33 (0 : Int32)) fun m5 => some m5
set_option maxHeartbeats 4000000 in
set_option maxRecDepth 100000 in
theorem wX8_clears {p : Program} {l : Launch} {e : Env} {s : State} {m : MethodId} {args : Array Value} {below : List Frame} {meth : Method} {c : Code} {A : Nat → Prop} {D : va_G} {ad : Nat → Nat} {cA : Nat → ClassId} (C : Cx p s m args meth c cX8_clears RX8 1 A dsM D ad cA EM) (hr : meth.sig.returnType = none) (μ : Mem) : T p l e (rmD 0) s m args below meth c 1 A dsM D ad cA enV (fX8_clears μ) 0 [(0, .ref (ad 0))] [] μ := by
  unfold fX8_clears
  refine tt_aload_n C 0 dX8_clears_0 rfl rfl ?_
  refine tt_iconst (v := (0 : Int32)) C dX8_clears_1 (by decide) ?_
  refine tt_putI C (j := 29) dM_0 rfl fl_RX8_212 fw_8_29 dX8_clears_2 ?_
  refine tt_lbm (fun m1 => ?_)
  refine tt_aload_n C 0 dX8_clears_5 rfl rfl ?_
  refine tt_iconst (v := (0 : Int32)) C dX8_clears_6 (by decide) ?_
  refine tt_putI C (j := 30) dM_0 rfl fl_RX8_215 fw_8_30 dX8_clears_7 ?_
  refine tt_lbm (fun m2 => ?_)
  refine tt_aload_n C 0 dX8_clears_10 rfl rfl ?_
  refine tt_iconst (v := (0 : Int32)) C dX8_clears_11 (by decide) ?_
  refine tt_putI C (j := 31) dM_0 rfl fl_RX8_218 fw_8_31 dX8_clears_12 ?_
  refine tt_lbm (fun m3 => ?_)
  refine tt_aload_n C 0 dX8_clears_15 rfl rfl ?_
  refine tt_iconst (v := (0 : Int32)) C dX8_clears_16 (by decide) ?_
  refine tt_putI C (j := 32) dM_0 rfl fl_RX8_221 fw_8_32 dX8_clears_17 ?_
  refine tt_lbm (fun m4 => ?_)
  refine tt_aload_n C 0 dX8_clears_20 rfl rfl ?_
  refine tt_iconst (v := (0 : Int32)) C dX8_clears_21 (by decide) ?_
  refine tt_putI C (j := 33) dM_0 rfl fl_RX8_224 fw_8_33 dX8_clears_22 ?_
  refine tt_lbm (fun m5 => ?_)
  exact tt_vret rfl C hr dX8_clears_25
theorem kX8_clears {l : Launch} {A : Nat → Prop} {D : va_G} {ad : Nat → Nat} {cA : Nat → ClassId} (hPk : Pk A dsM ad cA EM) {μ : Mem} {ν : Mem} (h : fX8_clears μ = some ν) : Ct l A dsM D ad cA EM yX8_clears cX8_clears 1 none 0 [.ref (ad 0)] μ (enV ν) :=
  ct_of (by decide) (Nat.le_of_ble_eq_true rfl) hPk rfl (fun p e s m args below meth c C hr => wX8_clears C hr μ) h

/-! BasketRoundModel.every()I -/
def fX8_every (μ : Mem) : Option (Int32 × Mem) := some ((((1 : Int32) <<< ((μ 0 5) &&& 31)) - (1 : Int32)), μ)
set_option maxHeartbeats 4000000 in
set_option maxRecDepth 100000 in
theorem wX8_every {p : Program} {l : Launch} {e : Env} {s : State} {m : MethodId} {args : Array Value} {below : List Frame} {meth : Method} {c : Code} {A : Nat → Prop} {D : va_G} {ad : Nat → Nat} {cA : Nat → ClassId} (C : Cx p s m args meth c cX8_every RX8 1 A dsM D ad cA EM) (hr : meth.sig.returnType = some .int) (μ : Mem) : T p l e (rmD 0) s m args below meth c 1 A dsM D ad cA enI (fX8_every μ) 0 [(0, .ref (ad 0))] [] μ := by
  unfold fX8_every
  refine tt_iconst (v := (1 : Int32)) C dX8_every_0 (by decide) ?_
  refine tt_aload_n C 0 dX8_every_1 rfl rfl ?_
  refine tt_getI C (j := 5) dM_0 rfl fl_RX8_167 dX8_every_2 ?_
  refine tt_ishl C dX8_every_5 ?_
  refine tt_iconst (v := (1 : Int32)) C dX8_every_6 (by decide) ?_
  refine tt_isub C dX8_every_7 ?_
  exact tt_iret rfl C hr dX8_every_8
theorem kX8_every {l : Launch} {A : Nat → Prop} {D : va_G} {ad : Nat → Nat} {cA : Nat → ClassId} (hPk : Pk A dsM ad cA EM) {μ : Mem} {v : Int32} {ν : Mem} (h : fX8_every μ = some (v, ν)) : Ct l A dsM D ad cA EM yX8_every cX8_every 1 (some .int) 0 [.ref (ad 0)] μ (enI (v, ν)) :=
  ct_of (by decide) (Nat.le_of_ble_eq_true rfl) hPk rfl (fun p e s m args below meth c C hr => wX8_every C hr μ) h

/-! BasketRoundModel.weightOf(I)I -/
def fX8_weightOf_J34 (k4 : Int32 → Int32 → Int32 → Mem → Option (Int32 × Mem)) (x1 : Int32) (x3 : Int32) (z0 : Int32) (z1 : Int32) (μ : Mem) : Option (Int32 × Mem) := lb (z0 + z1) fun (y1 : Int32) => lb (x3 + (1 : Int32)) fun (y2 : Int32) => k4 x1 y1 y2 μ
set_option maxHeartbeats 4000000 in
set_option maxRecDepth 100000 in
theorem wX8_weightOf_J34 {p : Program} {l : Launch} {e : Env} {s : State} {m : MethodId} {args : Array Value} {below : List Frame} {meth : Method} {c : Code} {A : Nat → Prop} {D : va_G} {ad : Nat → Nat} {cA : Nat → ClassId} (C : Cx p s m args meth c cX8_weightOf RX8 4 A dsM D ad cA EM) (hr : meth.sig.returnType = some .int) (k4 : Int32 → Int32 → Int32 → Mem → Option (Int32 × Mem)) (hk4 : ∀ (x1 : Int32) (x2 : Int32) (x3 : Int32) (μ : Mem), T p l e (rmD 0) s m args below meth c 4 A dsM D ad cA enI (k4 x1 x2 x3 μ) 4 [(0, .ref (ad 0)), (1, .int x1), (2, .int x2), (3, .int x3)] [] μ) (x1 : Int32) (x3 : Int32) (z0 : Int32) (z1 : Int32) (μ : Mem) : T p l e (rmD 0) s m args below meth c 4 A dsM D ad cA enI (fX8_weightOf_J34 k4 x1 x3 z0 z1 μ) 34 [(0, .ref (ad 0)), (1, .int x1), (3, .int x3)] [.int z1, .int z0] μ := by
  unfold fX8_weightOf_J34
  refine tt_iadd C dX8_weightOf_34 ?_
  refine tt_lbi (fun y1 => ?_)
  refine tt_istore_n (L2 := [(2, .int y1), (0, .ref (ad 0)), (1, .int x1), (3, .int x3)]) C dX8_weightOf_35 rfl (by decide) rfl ?_
  refine tt_iincB (d := (1 : Int32)) C 3 (fun y2 => [(3, .int y2), (2, .int y1), (0, .ref (ad 0)), (1, .int x1)]) dX8_weightOf_36 rfl (by decide) (by decide) (fun _ => rfl) (fun y2 => ?_)
  refine tt_goto (tgt := 4) C dX8_weightOf_39 (by decide) ?_
  refine tt_sub [2, 3, 1, 0] (L2 := [(0, .ref (ad 0)), (1, .int x1), (2, .int y1), (3, .int y2)]) rfl ?_
  exact hk4 x1 y1 y2 μ

def fX8_weightOf_L4 : Nat → Int32 → Int32 → Int32 → Mem → Option (Int32 × Mem)
  | 0, _, _, _, _ => none
  | fu + 1, x1, x2, x3, μ => if (μ 0 5) ≤ x3 then (some (x2, μ)) else (if ((x1 >>> (x3 &&& 31)) &&& (1 : Int32)) = (1 : Int32) then (gr ((5 : Int32) + x3) 160 <| fX8_weightOf_J34 (fun x1 x2 x3 μ => fX8_weightOf_L4 fu x1 x2 x3 μ) x1 x3 x2 (μ 1 ((5 : Int32) + x3).toNatClampNeg) μ) else (fX8_weightOf_J34 (fun x1 x2 x3 μ => fX8_weightOf_L4 fu x1 x2 x3 μ) x1 x3 x2 (0 : Int32) μ))
set_option maxHeartbeats 4000000 in
set_option maxRecDepth 100000 in
theorem wX8_weightOf_L4 {p : Program} {l : Launch} {e : Env} {s : State} {m : MethodId} {args : Array Value} {below : List Frame} {meth : Method} {c : Code} {A : Nat → Prop} {D : va_G} {ad : Nat → Nat} {cA : Nat → ClassId} (C : Cx p s m args meth c cX8_weightOf RX8 4 A dsM D ad cA EM) (hr : meth.sig.returnType = some .int) : ∀ (fu : Nat) (x1 : Int32) (x2 : Int32) (x3 : Int32) (μ : Mem), T p l e (rmD 0) s m args below meth c 4 A dsM D ad cA enI (fX8_weightOf_L4 fu x1 x2 x3 μ) 4 [(0, .ref (ad 0)), (1, .int x1), (2, .int x2), (3, .int x3)] [] μ
  | 0, _, _, _, _ => tt_none
  | fu + 1, x1, x2, x3, μ => by
    have ih := fun (x1 : Int32) (x2 : Int32) (x3 : Int32) (μ : Mem) => wX8_weightOf_L4 (l := l) (e := e) (below := below) C hr fu x1 x2 x3 μ
    show T p l e (rmD 0) s m args below meth c 4 A dsM D ad cA enI (if (μ 0 5) ≤ x3 then (some (x2, μ)) else (if ((x1 >>> (x3 &&& 31)) &&& (1 : Int32)) = (1 : Int32) then (gr ((5 : Int32) + x3) 160 <| fX8_weightOf_J34 (fun x1 x2 x3 μ => fX8_weightOf_L4 fu x1 x2 x3 μ) x1 x3 x2 (μ 1 ((5 : Int32) + x3).toNatClampNeg) μ) else (fX8_weightOf_J34 (fun x1 x2 x3 μ => fX8_weightOf_L4 fu x1 x2 x3 μ) x1 x3 x2 (0 : Int32) μ))) 4 [(0, .ref (ad 0)), (1, .int x1), (2, .int x2), (3, .int x3)] [] μ
    refine tt_iload_n C 3 dX8_weightOf_4 rfl rfl ?_
    refine tt_aload_n C 0 dX8_weightOf_5 rfl rfl ?_
    refine tt_getI C (j := 5) dM_0 rfl fl_RX8_167 dX8_weightOf_6 ?_
    refine tt_if (fun h1 => ?_) (fun h1 => ?_)
    · refine tt_icmp_geT (tgt := 42) C h1 dX8_weightOf_9 (by decide) ?_
      refine tt_iload_n C 2 dX8_weightOf_42 rfl rfl ?_
      exact tt_iret rfl C hr dX8_weightOf_43
    · refine tt_icmp_geF C 42 h1 dX8_weightOf_9 (by decide) ?_
      refine tt_iload_n C 2 dX8_weightOf_12 rfl rfl ?_
      refine tt_iload_n C 1 dX8_weightOf_13 rfl rfl ?_
      refine tt_iload_n C 3 dX8_weightOf_14 rfl rfl ?_
      refine tt_ishr C dX8_weightOf_15 ?_
      refine tt_iconst (v := (1 : Int32)) C dX8_weightOf_16 (by decide) ?_
      refine tt_iand C dX8_weightOf_17 ?_
      refine tt_iconst (v := (1 : Int32)) C dX8_weightOf_18 (by decide) ?_
      refine tt_if (fun h2 => ?_) (fun h2 => ?_)
      · refine tt_icmp_neF C 33 h2 dX8_weightOf_19 (by decide) ?_
        refine tt_aload_n C 0 dX8_weightOf_22 rfl rfl ?_
        refine tt_getR C (j := 0) (r0 := 1) dM_0 rfl fl_RX8_7 dX8_weightOf_23 ?_
        refine tt_iconst (v := (5 : Int32)) C dX8_weightOf_26 (by decide) ?_
        refine tt_iload_n C 3 dX8_weightOf_27 rfl rfl ?_
        refine tt_iadd C dX8_weightOf_28 ?_
        refine tt_gr (fun h3 => ?_)
        refine tt_iald C dM_1 h3 dX8_weightOf_29 ?_
        refine tt_goto (tgt := 34) C dX8_weightOf_30 (by decide) ?_
        refine tt_sub [0, 1, 3] (L2 := [(0, .ref (ad 0)), (1, .int x1), (3, .int x3)]) rfl ?_
        exact wX8_weightOf_J34 C hr (fun x1 x2 x3 μ => fX8_weightOf_L4 fu x1 x2 x3 μ) (fun x1 x2 x3 μ => ih x1 x2 x3 μ) x1 x3 x2 (μ 1 ((5 : Int32) + x3).toNatClampNeg) μ
      · refine tt_icmp_neT (tgt := 33) C h2 dX8_weightOf_19 (by decide) ?_
        refine tt_iconst (v := (0 : Int32)) C dX8_weightOf_33 (by decide) ?_
        refine tt_sub [0, 1, 3] (L2 := [(0, .ref (ad 0)), (1, .int x1), (3, .int x3)]) rfl ?_
        exact wX8_weightOf_J34 C hr (fun x1 x2 x3 μ => fX8_weightOf_L4 fu x1 x2 x3 μ) (fun x1 x2 x3 μ => ih x1 x2 x3 μ) x1 x3 x2 (0 : Int32) μ

def fX8_weightOf (x1 : Int32) (μ : Mem) : Option (Int32 × Mem) := lb (0 : Int32) fun (y1 : Int32) => lb (0 : Int32) fun (y2 : Int32) => fX8_weightOf_L4 FU x1 y1 y2 μ
set_option maxHeartbeats 4000000 in
set_option maxRecDepth 100000 in
theorem wX8_weightOf {p : Program} {l : Launch} {e : Env} {s : State} {m : MethodId} {args : Array Value} {below : List Frame} {meth : Method} {c : Code} {A : Nat → Prop} {D : va_G} {ad : Nat → Nat} {cA : Nat → ClassId} (C : Cx p s m args meth c cX8_weightOf RX8 4 A dsM D ad cA EM) (hr : meth.sig.returnType = some .int) (x1 : Int32) (μ : Mem) : T p l e (rmD 0) s m args below meth c 4 A dsM D ad cA enI (fX8_weightOf x1 μ) 0 [(0, .ref (ad 0)), (1, .int x1)] [] μ := by
  unfold fX8_weightOf
  refine tt_iconst (v := (0 : Int32)) C dX8_weightOf_0 (by decide) ?_
  refine tt_lbi (fun y1 => ?_)
  refine tt_istore_n (L2 := [(2, .int y1), (0, .ref (ad 0)), (1, .int x1)]) C dX8_weightOf_1 rfl (by decide) rfl ?_
  refine tt_iconst (v := (0 : Int32)) C dX8_weightOf_2 (by decide) ?_
  refine tt_lbi (fun y2 => ?_)
  refine tt_istore_n (L2 := [(3, .int y2), (2, .int y1), (0, .ref (ad 0)), (1, .int x1)]) C dX8_weightOf_3 rfl (by decide) rfl ?_
  refine tt_sub [2, 3, 1, 0] (L2 := [(0, .ref (ad 0)), (1, .int x1), (2, .int y1), (3, .int y2)]) rfl ?_
  exact wX8_weightOf_L4 C hr FU x1 y1 y2 μ
theorem kX8_weightOf {l : Launch} {A : Nat → Prop} {D : va_G} {ad : Nat → Nat} {cA : Nat → ClassId} (hPk : Pk A dsM ad cA EM) {x1 : Int32} {μ : Mem} {v : Int32} {ν : Mem} (h : fX8_weightOf x1 μ = some (v, ν)) : Ct l A dsM D ad cA EM yX8_weightOf cX8_weightOf 4 (some .int) 0 [.ref (ad 0), .int x1] μ (enI (v, ν)) :=
  ct_of (by decide) (Nat.le_of_ble_eq_true rfl) hPk rfl (fun p e s m args below meth c C hr => wX8_weightOf C hr x1 μ) h

/-! BasketRoundModel.push()I -/
def fX8_push (μ : Mem) : Option (Int32 × Mem) := gr (30 : Int32) 160 <| some (((μ 1 (30 : Int32).toNatClampNeg) + (10 : Int32)), μ)
set_option maxHeartbeats 4000000 in
set_option maxRecDepth 100000 in
theorem wX8_push {p : Program} {l : Launch} {e : Env} {s : State} {m : MethodId} {args : Array Value} {below : List Frame} {meth : Method} {c : Code} {A : Nat → Prop} {D : va_G} {ad : Nat → Nat} {cA : Nat → ClassId} (C : Cx p s m args meth c cX8_push RX8 1 A dsM D ad cA EM) (hr : meth.sig.returnType = some .int) (μ : Mem) : T p l e (rmD 0) s m args below meth c 1 A dsM D ad cA enI (fX8_push μ) 0 [(0, .ref (ad 0))] [] μ := by
  unfold fX8_push
  refine tt_aload_n C 0 dX8_push_0 rfl rfl ?_
  refine tt_getR C (j := 0) (r0 := 1) dM_0 rfl fl_RX8_7 dX8_push_1 ?_
  refine tt_bipush (v := (30 : Int32)) C dX8_push_4 (by decide) ?_
  refine tt_gr (fun h1 => ?_)
  refine tt_iald C dM_1 h1 dX8_push_6 ?_
  refine tt_bipush (v := (10 : Int32)) C dX8_push_7 (by decide) ?_
  refine tt_iadd C dX8_push_9 ?_
  exact tt_iret rfl C hr dX8_push_10
theorem kX8_push {l : Launch} {A : Nat → Prop} {D : va_G} {ad : Nat → Nat} {cA : Nat → ClassId} (hPk : Pk A dsM ad cA EM) {μ : Mem} {v : Int32} {ν : Mem} (h : fX8_push μ = some (v, ν)) : Ct l A dsM D ad cA EM yX8_push cX8_push 1 (some .int) 0 [.ref (ad 0)] μ (enI (v, ν)) :=
  ct_of (by decide) (Nat.le_of_ble_eq_true rfl) hPk rfl (fun p e s m args below meth c C hr => wX8_push C hr μ) h

/-! BasketRoundModel.wayOf(III)I -/
def fX8_wayOf_J107 (k64 : Int32 → Int32 → Int32 → Int32 → Mem → Option (Int32 × Mem)) (x2 : Int32) (x3 : Int32) (x5 : Int32) (z0 : Int32) (z1 : Int32) (z2 : Int32) (μ : Mem) : Option (Int32 × Mem) := lb (z0 + (z1 * z2)) fun (y1 : Int32) => lb (x5 + (-1 : Int32)) fun (y2 : Int32) => k64 x2 x3 y1 y2 μ
set_option maxHeartbeats 4000000 in
set_option maxRecDepth 100000 in
theorem wX8_wayOf_J107 {p : Program} {l : Launch} {e : Env} {s : State} {m : MethodId} {args : Array Value} {below : List Frame} {meth : Method} {c : Code} {A : Nat → Prop} {D : va_G} {ad : Nat → Nat} {cA : Nat → ClassId} (C : Cx p s m args meth c cX8_wayOf RX8 6 A dsM D ad cA EM) (hr : meth.sig.returnType = some .int) (k64 : Int32 → Int32 → Int32 → Int32 → Mem → Option (Int32 × Mem)) (hk64 : ∀ (x2 : Int32) (x3 : Int32) (x4 : Int32) (x5 : Int32) (μ : Mem), T p l e (rmD 1) s m args below meth c 6 A dsM D ad cA enI (k64 x2 x3 x4 x5 μ) 64 [(0, .ref (ad 0)), (2, .int x2), (3, .int x3), (4, .int x4), (5, .int x5)] [] μ) (x2 : Int32) (x3 : Int32) (x5 : Int32) (z0 : Int32) (z1 : Int32) (z2 : Int32) (μ : Mem) : T p l e (rmD 1) s m args below meth c 6 A dsM D ad cA enI (fX8_wayOf_J107 k64 x2 x3 x5 z0 z1 z2 μ) 107 [(0, .ref (ad 0)), (2, .int x2), (3, .int x3), (5, .int x5)] [.int z2, .int z1, .int z0] μ := by
  unfold fX8_wayOf_J107
  refine tt_imul C dX8_wayOf_107 ?_
  refine tt_iadd C dX8_wayOf_108 ?_
  refine tt_lbi (fun y1 => ?_)
  refine tt_istore (L2 := [(4, .int y1), (0, .ref (ad 0)), (2, .int x2), (3, .int x3), (5, .int x5)]) C dX8_wayOf_109 (by decide) rfl ?_
  refine tt_iincB (d := (-1 : Int32)) C 4 (fun y2 => [(5, .int y2), (4, .int y1), (0, .ref (ad 0)), (2, .int x2), (3, .int x3)]) dX8_wayOf_111 rfl (by decide) (by decide) (fun _ => rfl) (fun y2 => ?_)
  refine tt_goto (tgt := 64) C dX8_wayOf_114 (by decide) ?_
  refine tt_sub [2, 3, 4, 1, 0] (L2 := [(0, .ref (ad 0)), (2, .int x2), (3, .int x3), (4, .int y1), (5, .int y2)]) rfl ?_
  exact hk64 x2 x3 y1 y2 μ

def fX8_wayOf_J106 (k64 : Int32 → Int32 → Int32 → Int32 → Mem → Option (Int32 × Mem)) (x2 : Int32) (x3 : Int32) (x5 : Int32) (z0 : Int32) (z1 : Int32) (μ : Mem) : Option (Int32 × Mem) := fX8_wayOf_J107 k64 x2 x3 x5 z0 z1 (1 : Int32) μ
set_option maxHeartbeats 4000000 in
set_option maxRecDepth 100000 in
theorem wX8_wayOf_J106 {p : Program} {l : Launch} {e : Env} {s : State} {m : MethodId} {args : Array Value} {below : List Frame} {meth : Method} {c : Code} {A : Nat → Prop} {D : va_G} {ad : Nat → Nat} {cA : Nat → ClassId} (C : Cx p s m args meth c cX8_wayOf RX8 6 A dsM D ad cA EM) (hr : meth.sig.returnType = some .int) (k64 : Int32 → Int32 → Int32 → Int32 → Mem → Option (Int32 × Mem)) (hk64 : ∀ (x2 : Int32) (x3 : Int32) (x4 : Int32) (x5 : Int32) (μ : Mem), T p l e (rmD 1) s m args below meth c 6 A dsM D ad cA enI (k64 x2 x3 x4 x5 μ) 64 [(0, .ref (ad 0)), (2, .int x2), (3, .int x3), (4, .int x4), (5, .int x5)] [] μ) (x2 : Int32) (x3 : Int32) (x5 : Int32) (z0 : Int32) (z1 : Int32) (μ : Mem) : T p l e (rmD 1) s m args below meth c 6 A dsM D ad cA enI (fX8_wayOf_J106 k64 x2 x3 x5 z0 z1 μ) 106 [(0, .ref (ad 0)), (2, .int x2), (3, .int x3), (5, .int x5)] [.int z1, .int z0] μ := by
  unfold fX8_wayOf_J106
  refine tt_iconst (v := (1 : Int32)) C dX8_wayOf_106 (by decide) ?_
  refine tt_sub [0, 1, 2, 3] (L2 := [(0, .ref (ad 0)), (2, .int x2), (3, .int x3), (5, .int x5)]) rfl ?_
  exact wX8_wayOf_J107 C hr k64 hk64 x2 x3 x5 z0 z1 (1 : Int32) μ

def fX8_wayOf_L64 : Nat → Int32 → Int32 → Int32 → Int32 → Mem → Option (Int32 × Mem)
  | 0, _, _, _, _, _ => none
  | fu + 1, x2, x3, x4, x5, μ => if x5 ≤ x2 then (some (x4, μ)) else (gr (x5 - (1 : Int32)) 6 <| gr (x5 - (1 : Int32)) 6 <| if (μ 3 (x5 - (1 : Int32)).toNatClampNeg) = (2 : Int32) then (bi (fX8_push μ) fun v2 m1 => if x3 ≤ v2 then (fX8_wayOf_J106 (fun x2 x3 x4 x5 μ => fX8_wayOf_L64 fu x2 x3 x4 x5 μ) x2 x3 x5 x4 (μ 2 (x5 - (1 : Int32)).toNatClampNeg) m1) else (fX8_wayOf_J107 (fun x2 x3 x4 x5 μ => fX8_wayOf_L64 fu x2 x3 x4 x5 μ) x2 x3 x5 x4 (μ 2 (x5 - (1 : Int32)).toNatClampNeg) (2 : Int32) m1)) else (fX8_wayOf_J106 (fun x2 x3 x4 x5 μ => fX8_wayOf_L64 fu x2 x3 x4 x5 μ) x2 x3 x5 x4 (μ 2 (x5 - (1 : Int32)).toNatClampNeg) μ))
set_option maxHeartbeats 4000000 in
set_option maxRecDepth 100000 in
theorem wX8_wayOf_L64 {p : Program} {l : Launch} {e : Env} {s : State} {m : MethodId} {args : Array Value} {below : List Frame} {meth : Method} {c : Code} {A : Nat → Prop} {D : va_G} {ad : Nat → Nat} {cA : Nat → ClassId} (C : Cx p s m args meth c cX8_wayOf RX8 6 A dsM D ad cA EM) (hr : meth.sig.returnType = some .int) : ∀ (fu : Nat) (x2 : Int32) (x3 : Int32) (x4 : Int32) (x5 : Int32) (μ : Mem), T p l e (rmD 1) s m args below meth c 6 A dsM D ad cA enI (fX8_wayOf_L64 fu x2 x3 x4 x5 μ) 64 [(0, .ref (ad 0)), (2, .int x2), (3, .int x3), (4, .int x4), (5, .int x5)] [] μ
  | 0, _, _, _, _, _ => tt_none
  | fu + 1, x2, x3, x4, x5, μ => by
    have ih := fun (x2 : Int32) (x3 : Int32) (x4 : Int32) (x5 : Int32) (μ : Mem) => wX8_wayOf_L64 (l := l) (e := e) (below := below) C hr fu x2 x3 x4 x5 μ
    show T p l e (rmD 1) s m args below meth c 6 A dsM D ad cA enI (if x5 ≤ x2 then (some (x4, μ)) else (gr (x5 - (1 : Int32)) 6 <| gr (x5 - (1 : Int32)) 6 <| if (μ 3 (x5 - (1 : Int32)).toNatClampNeg) = (2 : Int32) then (bi (fX8_push μ) fun v2 m1 => if x3 ≤ v2 then (fX8_wayOf_J106 (fun x2 x3 x4 x5 μ => fX8_wayOf_L64 fu x2 x3 x4 x5 μ) x2 x3 x5 x4 (μ 2 (x5 - (1 : Int32)).toNatClampNeg) m1) else (fX8_wayOf_J107 (fun x2 x3 x4 x5 μ => fX8_wayOf_L64 fu x2 x3 x4 x5 μ) x2 x3 x5 x4 (μ 2 (x5 - (1 : Int32)).toNatClampNeg) (2 : Int32) m1)) else (fX8_wayOf_J106 (fun x2 x3 x4 x5 μ => fX8_wayOf_L64 fu x2 x3 x4 x5 μ) x2 x3 x5 x4 (μ 2 (x5 - (1 : Int32)).toNatClampNeg) μ))) 64 [(0, .ref (ad 0)), (2, .int x2), (3, .int x3), (4, .int x4), (5, .int x5)] [] μ
    refine tt_iload C 4 dX8_wayOf_64 rfl ?_
    refine tt_iload_n C 1 dX8_wayOf_66 rfl rfl ?_
    refine tt_if (fun h1 => ?_) (fun h1 => ?_)
    · refine tt_icmp_leT (tgt := 117) C h1 dX8_wayOf_67 (by decide) ?_
      refine tt_iload C 3 dX8_wayOf_117 rfl ?_
      exact tt_iret rfl C hr dX8_wayOf_119
    · refine tt_icmp_leF C 117 h1 dX8_wayOf_67 (by decide) ?_
      refine tt_iload C 3 dX8_wayOf_70 rfl ?_
      refine tt_aload_n C 0 dX8_wayOf_72 rfl rfl ?_
      refine tt_getR C (j := 1) (r0 := 2) dM_0 rfl fl_RX8_13 dX8_wayOf_73 ?_
      refine tt_iload C 4 dX8_wayOf_76 rfl ?_
      refine tt_iconst (v := (1 : Int32)) C dX8_wayOf_78 (by decide) ?_
      refine tt_isub C dX8_wayOf_79 ?_
      refine tt_gr (fun h2 => ?_)
      refine tt_iald C dM_2 h2 dX8_wayOf_80 ?_
      refine tt_aload_n C 0 dX8_wayOf_81 rfl rfl ?_
      refine tt_getR C (j := 2) (r0 := 3) dM_0 rfl fl_RX8_16 dX8_wayOf_82 ?_
      refine tt_iload C 4 dX8_wayOf_85 rfl ?_
      refine tt_iconst (v := (1 : Int32)) C dX8_wayOf_87 (by decide) ?_
      refine tt_isub C dX8_wayOf_88 ?_
      refine tt_gr (fun h3 => ?_)
      refine tt_iald C dM_3 h3 dX8_wayOf_89 ?_
      refine tt_iconst (v := (2 : Int32)) C dX8_wayOf_90 (by decide) ?_
      refine tt_if (fun h4 => ?_) (fun h4 => ?_)
      · refine tt_icmp_neF C 106 h4 dX8_wayOf_91 (by decide) ?_
        refine tt_iload_n C 2 dX8_wayOf_94 rfl rfl ?_
        refine tt_aload_n C 0 dX8_wayOf_95 rfl rfl ?_
        refine tt_bi (fun v2 m1 h5 => ?_)
        refine tt_callV (st := [.int x3, .int (μ 2 (x5 - (1 : Int32)).toNatClampNeg), .int x4]) (As := []) C (kX8_push C.2.2.2.2.2.2.2.1 h5) mi_X8_push ml_RX8_176 mv_X8_push ms_X8_push (q := (RX8, TX8, 45)) dM_0 rfl rfl (by decide) (by decide) (Nat.le_of_ble_eq_true rfl) dX8_wayOf_96 ?_
        refine tt_if (fun h6 => ?_) (fun h6 => ?_)
        · refine tt_icmp_leT (tgt := 106) C h6 dX8_wayOf_99 (by decide) ?_
          refine tt_sub [0, 1, 2, 4] (L2 := [(0, .ref (ad 0)), (2, .int x2), (3, .int x3), (5, .int x5)]) rfl ?_
          exact wX8_wayOf_J106 C hr (fun x2 x3 x4 x5 μ => fX8_wayOf_L64 fu x2 x3 x4 x5 μ) (fun x2 x3 x4 x5 μ => ih x2 x3 x4 x5 μ) x2 x3 x5 x4 (μ 2 (x5 - (1 : Int32)).toNatClampNeg) m1
        · refine tt_icmp_leF C 106 h6 dX8_wayOf_99 (by decide) ?_
          refine tt_iconst (v := (2 : Int32)) C dX8_wayOf_102 (by decide) ?_
          refine tt_goto (tgt := 107) C dX8_wayOf_103 (by decide) ?_
          refine tt_sub [0, 1, 2, 4] (L2 := [(0, .ref (ad 0)), (2, .int x2), (3, .int x3), (5, .int x5)]) rfl ?_
          exact wX8_wayOf_J107 C hr (fun x2 x3 x4 x5 μ => fX8_wayOf_L64 fu x2 x3 x4 x5 μ) (fun x2 x3 x4 x5 μ => ih x2 x3 x4 x5 μ) x2 x3 x5 x4 (μ 2 (x5 - (1 : Int32)).toNatClampNeg) (2 : Int32) m1
      · refine tt_icmp_neT (tgt := 106) C h4 dX8_wayOf_91 (by decide) ?_
        refine tt_sub [0, 1, 2, 4] (L2 := [(0, .ref (ad 0)), (2, .int x2), (3, .int x3), (5, .int x5)]) rfl ?_
        exact wX8_wayOf_J106 C hr (fun x2 x3 x4 x5 μ => fX8_wayOf_L64 fu x2 x3 x4 x5 μ) (fun x2 x3 x4 x5 μ => ih x2 x3 x4 x5 μ) x2 x3 x5 x4 (μ 2 (x5 - (1 : Int32)).toNatClampNeg) μ

def fX8_wayOf_J51 (k8 : Int32 → Int32 → Int32 → Int32 → Int32 → Mem → Option (Int32 × Mem)) (x1 : Int32) (x2 : Int32) (x3 : Int32) (x5 : Int32) (z0 : Int32) (z1 : Int32) (z2 : Int32) (μ : Mem) : Option (Int32 × Mem) := lb (z0 + (z1 * z2)) fun (y1 : Int32) => lb (x5 + (1 : Int32)) fun (y2 : Int32) => k8 x1 x2 x3 y1 y2 μ
set_option maxHeartbeats 4000000 in
set_option maxRecDepth 100000 in
theorem wX8_wayOf_J51 {p : Program} {l : Launch} {e : Env} {s : State} {m : MethodId} {args : Array Value} {below : List Frame} {meth : Method} {c : Code} {A : Nat → Prop} {D : va_G} {ad : Nat → Nat} {cA : Nat → ClassId} (C : Cx p s m args meth c cX8_wayOf RX8 6 A dsM D ad cA EM) (hr : meth.sig.returnType = some .int) (k8 : Int32 → Int32 → Int32 → Int32 → Int32 → Mem → Option (Int32 × Mem)) (hk8 : ∀ (x1 : Int32) (x2 : Int32) (x3 : Int32) (x4 : Int32) (x5 : Int32) (μ : Mem), T p l e (rmD 1) s m args below meth c 6 A dsM D ad cA enI (k8 x1 x2 x3 x4 x5 μ) 8 [(0, .ref (ad 0)), (1, .int x1), (2, .int x2), (3, .int x3), (4, .int x4), (5, .int x5)] [] μ) (x1 : Int32) (x2 : Int32) (x3 : Int32) (x5 : Int32) (z0 : Int32) (z1 : Int32) (z2 : Int32) (μ : Mem) : T p l e (rmD 1) s m args below meth c 6 A dsM D ad cA enI (fX8_wayOf_J51 k8 x1 x2 x3 x5 z0 z1 z2 μ) 51 [(0, .ref (ad 0)), (1, .int x1), (2, .int x2), (3, .int x3), (5, .int x5)] [.int z2, .int z1, .int z0] μ := by
  unfold fX8_wayOf_J51
  refine tt_imul C dX8_wayOf_51 ?_
  refine tt_iadd C dX8_wayOf_52 ?_
  refine tt_lbi (fun y1 => ?_)
  refine tt_istore (L2 := [(4, .int y1), (0, .ref (ad 0)), (1, .int x1), (2, .int x2), (3, .int x3), (5, .int x5)]) C dX8_wayOf_53 (by decide) rfl ?_
  refine tt_iincB (d := (1 : Int32)) C 5 (fun y2 => [(5, .int y2), (4, .int y1), (0, .ref (ad 0)), (1, .int x1), (2, .int x2), (3, .int x3)]) dX8_wayOf_55 rfl (by decide) (by decide) (fun _ => rfl) (fun y2 => ?_)
  refine tt_goto (tgt := 8) C dX8_wayOf_58 (by decide) ?_
  refine tt_sub [2, 3, 4, 5, 1, 0] (L2 := [(0, .ref (ad 0)), (1, .int x1), (2, .int x2), (3, .int x3), (4, .int y1), (5, .int y2)]) rfl ?_
  exact hk8 x1 x2 x3 y1 y2 μ

def fX8_wayOf_J50 (k8 : Int32 → Int32 → Int32 → Int32 → Int32 → Mem → Option (Int32 × Mem)) (x1 : Int32) (x2 : Int32) (x3 : Int32) (x5 : Int32) (z0 : Int32) (z1 : Int32) (μ : Mem) : Option (Int32 × Mem) := fX8_wayOf_J51 k8 x1 x2 x3 x5 z0 z1 (1 : Int32) μ
set_option maxHeartbeats 4000000 in
set_option maxRecDepth 100000 in
theorem wX8_wayOf_J50 {p : Program} {l : Launch} {e : Env} {s : State} {m : MethodId} {args : Array Value} {below : List Frame} {meth : Method} {c : Code} {A : Nat → Prop} {D : va_G} {ad : Nat → Nat} {cA : Nat → ClassId} (C : Cx p s m args meth c cX8_wayOf RX8 6 A dsM D ad cA EM) (hr : meth.sig.returnType = some .int) (k8 : Int32 → Int32 → Int32 → Int32 → Int32 → Mem → Option (Int32 × Mem)) (hk8 : ∀ (x1 : Int32) (x2 : Int32) (x3 : Int32) (x4 : Int32) (x5 : Int32) (μ : Mem), T p l e (rmD 1) s m args below meth c 6 A dsM D ad cA enI (k8 x1 x2 x3 x4 x5 μ) 8 [(0, .ref (ad 0)), (1, .int x1), (2, .int x2), (3, .int x3), (4, .int x4), (5, .int x5)] [] μ) (x1 : Int32) (x2 : Int32) (x3 : Int32) (x5 : Int32) (z0 : Int32) (z1 : Int32) (μ : Mem) : T p l e (rmD 1) s m args below meth c 6 A dsM D ad cA enI (fX8_wayOf_J50 k8 x1 x2 x3 x5 z0 z1 μ) 50 [(0, .ref (ad 0)), (1, .int x1), (2, .int x2), (3, .int x3), (5, .int x5)] [.int z1, .int z0] μ := by
  unfold fX8_wayOf_J50
  refine tt_iconst (v := (1 : Int32)) C dX8_wayOf_50 (by decide) ?_
  refine tt_sub [0, 1, 2, 3, 4] (L2 := [(0, .ref (ad 0)), (1, .int x1), (2, .int x2), (3, .int x3), (5, .int x5)]) rfl ?_
  exact wX8_wayOf_J51 C hr k8 hk8 x1 x2 x3 x5 z0 z1 (1 : Int32) μ

def fX8_wayOf_L8 : Nat → Int32 → Int32 → Int32 → Int32 → Int32 → Mem → Option (Int32 × Mem)
  | 0, _, _, _, _, _, _ => none
  | fu + 1, x1, x2, x3, x4, x5, μ => if x2 < x5 then (fX8_wayOf_L64 FU x2 x3 x4 x1 μ) else (gr (x5 - (1 : Int32)) 6 <| gr (x5 - (1 : Int32)) 6 <| if (μ 3 (x5 - (1 : Int32)).toNatClampNeg) = (1 : Int32) then (bi (fX8_push μ) fun v2 m1 => if x3 ≤ v2 then (fX8_wayOf_J50 (fun x1 x2 x3 x4 x5 μ => fX8_wayOf_L8 fu x1 x2 x3 x4 x5 μ) x1 x2 x3 x5 x4 (μ 2 (x5 - (1 : Int32)).toNatClampNeg) m1) else (fX8_wayOf_J51 (fun x1 x2 x3 x4 x5 μ => fX8_wayOf_L8 fu x1 x2 x3 x4 x5 μ) x1 x2 x3 x5 x4 (μ 2 (x5 - (1 : Int32)).toNatClampNeg) (2 : Int32) m1)) else (fX8_wayOf_J50 (fun x1 x2 x3 x4 x5 μ => fX8_wayOf_L8 fu x1 x2 x3 x4 x5 μ) x1 x2 x3 x5 x4 (μ 2 (x5 - (1 : Int32)).toNatClampNeg) μ))
set_option maxHeartbeats 4000000 in
set_option maxRecDepth 100000 in
theorem wX8_wayOf_L8 {p : Program} {l : Launch} {e : Env} {s : State} {m : MethodId} {args : Array Value} {below : List Frame} {meth : Method} {c : Code} {A : Nat → Prop} {D : va_G} {ad : Nat → Nat} {cA : Nat → ClassId} (C : Cx p s m args meth c cX8_wayOf RX8 6 A dsM D ad cA EM) (hr : meth.sig.returnType = some .int) : ∀ (fu : Nat) (x1 : Int32) (x2 : Int32) (x3 : Int32) (x4 : Int32) (x5 : Int32) (μ : Mem), T p l e (rmD 1) s m args below meth c 6 A dsM D ad cA enI (fX8_wayOf_L8 fu x1 x2 x3 x4 x5 μ) 8 [(0, .ref (ad 0)), (1, .int x1), (2, .int x2), (3, .int x3), (4, .int x4), (5, .int x5)] [] μ
  | 0, _, _, _, _, _, _ => tt_none
  | fu + 1, x1, x2, x3, x4, x5, μ => by
    have ih := fun (x1 : Int32) (x2 : Int32) (x3 : Int32) (x4 : Int32) (x5 : Int32) (μ : Mem) => wX8_wayOf_L8 (l := l) (e := e) (below := below) C hr fu x1 x2 x3 x4 x5 μ
    show T p l e (rmD 1) s m args below meth c 6 A dsM D ad cA enI (if x2 < x5 then (fX8_wayOf_L64 FU x2 x3 x4 x1 μ) else (gr (x5 - (1 : Int32)) 6 <| gr (x5 - (1 : Int32)) 6 <| if (μ 3 (x5 - (1 : Int32)).toNatClampNeg) = (1 : Int32) then (bi (fX8_push μ) fun v2 m1 => if x3 ≤ v2 then (fX8_wayOf_J50 (fun x1 x2 x3 x4 x5 μ => fX8_wayOf_L8 fu x1 x2 x3 x4 x5 μ) x1 x2 x3 x5 x4 (μ 2 (x5 - (1 : Int32)).toNatClampNeg) m1) else (fX8_wayOf_J51 (fun x1 x2 x3 x4 x5 μ => fX8_wayOf_L8 fu x1 x2 x3 x4 x5 μ) x1 x2 x3 x5 x4 (μ 2 (x5 - (1 : Int32)).toNatClampNeg) (2 : Int32) m1)) else (fX8_wayOf_J50 (fun x1 x2 x3 x4 x5 μ => fX8_wayOf_L8 fu x1 x2 x3 x4 x5 μ) x1 x2 x3 x5 x4 (μ 2 (x5 - (1 : Int32)).toNatClampNeg) μ))) 8 [(0, .ref (ad 0)), (1, .int x1), (2, .int x2), (3, .int x3), (4, .int x4), (5, .int x5)] [] μ
    refine tt_iload C 5 dX8_wayOf_8 rfl ?_
    refine tt_iload_n C 2 dX8_wayOf_10 rfl rfl ?_
    refine tt_if (fun h1 => ?_) (fun h1 => ?_)
    · refine tt_icmp_gtT (tgt := 61) C h1 dX8_wayOf_11 (by decide) ?_
      refine tt_iload_n C 1 dX8_wayOf_61 rfl rfl ?_
      refine tt_istore (L2 := [(5, .int x1), (0, .ref (ad 0)), (1, .int x1), (2, .int x2), (3, .int x3), (4, .int x4)]) C dX8_wayOf_62 (by decide) rfl ?_
      refine tt_sub [1, 3, 4, 5, 0] (L2 := [(0, .ref (ad 0)), (2, .int x2), (3, .int x3), (4, .int x4), (5, .int x1)]) rfl ?_
      exact wX8_wayOf_L64 C hr FU x2 x3 x4 x1 μ
    · refine tt_icmp_gtF C 61 h1 dX8_wayOf_11 (by decide) ?_
      refine tt_iload C 4 dX8_wayOf_14 rfl ?_
      refine tt_aload_n C 0 dX8_wayOf_16 rfl rfl ?_
      refine tt_getR C (j := 1) (r0 := 2) dM_0 rfl fl_RX8_13 dX8_wayOf_17 ?_
      refine tt_iload C 5 dX8_wayOf_20 rfl ?_
      refine tt_iconst (v := (1 : Int32)) C dX8_wayOf_22 (by decide) ?_
      refine tt_isub C dX8_wayOf_23 ?_
      refine tt_gr (fun h2 => ?_)
      refine tt_iald C dM_2 h2 dX8_wayOf_24 ?_
      refine tt_aload_n C 0 dX8_wayOf_25 rfl rfl ?_
      refine tt_getR C (j := 2) (r0 := 3) dM_0 rfl fl_RX8_16 dX8_wayOf_26 ?_
      refine tt_iload C 5 dX8_wayOf_29 rfl ?_
      refine tt_iconst (v := (1 : Int32)) C dX8_wayOf_31 (by decide) ?_
      refine tt_isub C dX8_wayOf_32 ?_
      refine tt_gr (fun h3 => ?_)
      refine tt_iald C dM_3 h3 dX8_wayOf_33 ?_
      refine tt_iconst (v := (1 : Int32)) C dX8_wayOf_34 (by decide) ?_
      refine tt_if (fun h4 => ?_) (fun h4 => ?_)
      · refine tt_icmp_neF C 50 h4 dX8_wayOf_35 (by decide) ?_
        refine tt_iload_n C 3 dX8_wayOf_38 rfl rfl ?_
        refine tt_aload_n C 0 dX8_wayOf_39 rfl rfl ?_
        refine tt_bi (fun v2 m1 h5 => ?_)
        refine tt_callV (st := [.int x3, .int (μ 2 (x5 - (1 : Int32)).toNatClampNeg), .int x4]) (As := []) C (kX8_push C.2.2.2.2.2.2.2.1 h5) mi_X8_push ml_RX8_176 mv_X8_push ms_X8_push (q := (RX8, TX8, 45)) dM_0 rfl rfl (by decide) (by decide) (Nat.le_of_ble_eq_true rfl) dX8_wayOf_40 ?_
        refine tt_if (fun h6 => ?_) (fun h6 => ?_)
        · refine tt_icmp_leT (tgt := 50) C h6 dX8_wayOf_43 (by decide) ?_
          refine tt_sub [0, 1, 2, 3, 5] (L2 := [(0, .ref (ad 0)), (1, .int x1), (2, .int x2), (3, .int x3), (5, .int x5)]) rfl ?_
          exact wX8_wayOf_J50 C hr (fun x1 x2 x3 x4 x5 μ => fX8_wayOf_L8 fu x1 x2 x3 x4 x5 μ) (fun x1 x2 x3 x4 x5 μ => ih x1 x2 x3 x4 x5 μ) x1 x2 x3 x5 x4 (μ 2 (x5 - (1 : Int32)).toNatClampNeg) m1
        · refine tt_icmp_leF C 50 h6 dX8_wayOf_43 (by decide) ?_
          refine tt_iconst (v := (2 : Int32)) C dX8_wayOf_46 (by decide) ?_
          refine tt_goto (tgt := 51) C dX8_wayOf_47 (by decide) ?_
          refine tt_sub [0, 1, 2, 3, 5] (L2 := [(0, .ref (ad 0)), (1, .int x1), (2, .int x2), (3, .int x3), (5, .int x5)]) rfl ?_
          exact wX8_wayOf_J51 C hr (fun x1 x2 x3 x4 x5 μ => fX8_wayOf_L8 fu x1 x2 x3 x4 x5 μ) (fun x1 x2 x3 x4 x5 μ => ih x1 x2 x3 x4 x5 μ) x1 x2 x3 x5 x4 (μ 2 (x5 - (1 : Int32)).toNatClampNeg) (2 : Int32) m1
      · refine tt_icmp_neT (tgt := 50) C h4 dX8_wayOf_35 (by decide) ?_
        refine tt_sub [0, 1, 2, 3, 5] (L2 := [(0, .ref (ad 0)), (1, .int x1), (2, .int x2), (3, .int x3), (5, .int x5)]) rfl ?_
        exact wX8_wayOf_J50 C hr (fun x1 x2 x3 x4 x5 μ => fX8_wayOf_L8 fu x1 x2 x3 x4 x5 μ) (fun x1 x2 x3 x4 x5 μ => ih x1 x2 x3 x4 x5 μ) x1 x2 x3 x5 x4 (μ 2 (x5 - (1 : Int32)).toNatClampNeg) μ

def fX8_wayOf (x1 : Int32) (x2 : Int32) (x3 : Int32) (μ : Mem) : Option (Int32 × Mem) := lb (0 : Int32) fun (y1 : Int32) => lb (x1 + (1 : Int32)) fun (y2 : Int32) => fX8_wayOf_L8 FU x1 x2 x3 y1 y2 μ
set_option maxHeartbeats 4000000 in
set_option maxRecDepth 100000 in
theorem wX8_wayOf {p : Program} {l : Launch} {e : Env} {s : State} {m : MethodId} {args : Array Value} {below : List Frame} {meth : Method} {c : Code} {A : Nat → Prop} {D : va_G} {ad : Nat → Nat} {cA : Nat → ClassId} (C : Cx p s m args meth c cX8_wayOf RX8 6 A dsM D ad cA EM) (hr : meth.sig.returnType = some .int) (x1 : Int32) (x2 : Int32) (x3 : Int32) (μ : Mem) : T p l e (rmD 1) s m args below meth c 6 A dsM D ad cA enI (fX8_wayOf x1 x2 x3 μ) 0 [(0, .ref (ad 0)), (1, .int x1), (2, .int x2), (3, .int x3)] [] μ := by
  unfold fX8_wayOf
  refine tt_iconst (v := (0 : Int32)) C dX8_wayOf_0 (by decide) ?_
  refine tt_lbi (fun y1 => ?_)
  refine tt_istore (L2 := [(4, .int y1), (0, .ref (ad 0)), (1, .int x1), (2, .int x2), (3, .int x3)]) C dX8_wayOf_1 (by decide) rfl ?_
  refine tt_iload_n C 2 dX8_wayOf_3 rfl rfl ?_
  refine tt_iconst (v := (1 : Int32)) C dX8_wayOf_4 (by decide) ?_
  refine tt_iadd C dX8_wayOf_5 ?_
  refine tt_lbi (fun y2 => ?_)
  refine tt_istore (L2 := [(5, .int y2), (4, .int y1), (0, .ref (ad 0)), (1, .int x1), (2, .int x2), (3, .int x3)]) C dX8_wayOf_6 (by decide) rfl ?_
  refine tt_sub [2, 3, 4, 5, 1, 0] (L2 := [(0, .ref (ad 0)), (1, .int x1), (2, .int x2), (3, .int x3), (4, .int y1), (5, .int y2)]) rfl ?_
  exact wX8_wayOf_L8 C hr FU x1 x2 x3 y1 y2 μ
theorem kX8_wayOf {l : Launch} {A : Nat → Prop} {D : va_G} {ad : Nat → Nat} {cA : Nat → ClassId} (hPk : Pk A dsM ad cA EM) {x1 : Int32} {x2 : Int32} {x3 : Int32} {μ : Mem} {v : Int32} {ν : Mem} (h : fX8_wayOf x1 x2 x3 μ = some (v, ν)) : Ct l A dsM D ad cA EM yX8_wayOf cX8_wayOf 6 (some .int) 1 [.ref (ad 0), .int x1, .int x2, .int x3] μ (enI (v, ν)) :=
  ct_of (by decide) (Nat.le_of_ble_eq_true rfl) hPk rfl (fun p e s m args below meth c C hr => wX8_wayOf C hr x1 x2 x3 μ) h

/-! BasketRoundModel.bitsOf(I)I -/
def fX8_bitsOf_L4 : Nat → Int32 → Int32 → Int32 → Mem → Option (Int32 × Mem)
  | 0, _, _, _, _ => none
  | fu + 1, x0, x1, x2, μ => if (5 : Int32) ≤ x2 then (some (x1, μ)) else (lb (x1 + ((x0 >>> (x2 &&& 31)) &&& (1 : Int32))) fun (y1 : Int32) => lb (x2 + (1 : Int32)) fun (y2 : Int32) => fX8_bitsOf_L4 fu x0 y1 y2 μ)
set_option maxHeartbeats 4000000 in
set_option maxRecDepth 100000 in
theorem wX8_bitsOf_L4 {p : Program} {l : Launch} {e : Env} {s : State} {m : MethodId} {args : Array Value} {below : List Frame} {meth : Method} {c : Code} {A : Nat → Prop} {D : va_G} {ad : Nat → Nat} {cA : Nat → ClassId} (C : Cx p s m args meth c cX8_bitsOf RX8 3 A dsM D ad cA EM) (hr : meth.sig.returnType = some .int) : ∀ (fu : Nat) (x0 : Int32) (x1 : Int32) (x2 : Int32) (μ : Mem), T p l e (rmD 0) s m args below meth c 3 A dsM D ad cA enI (fX8_bitsOf_L4 fu x0 x1 x2 μ) 4 [(0, .int x0), (1, .int x1), (2, .int x2)] [] μ
  | 0, _, _, _, _ => tt_none
  | fu + 1, x0, x1, x2, μ => by
    have ih := fun (x0 : Int32) (x1 : Int32) (x2 : Int32) (μ : Mem) => wX8_bitsOf_L4 (l := l) (e := e) (below := below) C hr fu x0 x1 x2 μ
    show T p l e (rmD 0) s m args below meth c 3 A dsM D ad cA enI (if (5 : Int32) ≤ x2 then (some (x1, μ)) else (lb (x1 + ((x0 >>> (x2 &&& 31)) &&& (1 : Int32))) fun (y1 : Int32) => lb (x2 + (1 : Int32)) fun (y2 : Int32) => fX8_bitsOf_L4 fu x0 y1 y2 μ)) 4 [(0, .int x0), (1, .int x1), (2, .int x2)] [] μ
    refine tt_iload_n C 2 dX8_bitsOf_4 rfl rfl ?_
    refine tt_iconst (v := (5 : Int32)) C dX8_bitsOf_5 (by decide) ?_
    refine tt_if (fun h1 => ?_) (fun h1 => ?_)
    · refine tt_icmp_geT (tgt := 23) C h1 dX8_bitsOf_6 (by decide) ?_
      refine tt_iload_n C 1 dX8_bitsOf_23 rfl rfl ?_
      exact tt_iret rfl C hr dX8_bitsOf_24
    · refine tt_icmp_geF C 23 h1 dX8_bitsOf_6 (by decide) ?_
      refine tt_iload_n C 1 dX8_bitsOf_9 rfl rfl ?_
      refine tt_iload_n C 0 dX8_bitsOf_10 rfl rfl ?_
      refine tt_iload_n C 2 dX8_bitsOf_11 rfl rfl ?_
      refine tt_ishr C dX8_bitsOf_12 ?_
      refine tt_iconst (v := (1 : Int32)) C dX8_bitsOf_13 (by decide) ?_
      refine tt_iand C dX8_bitsOf_14 ?_
      refine tt_iadd C dX8_bitsOf_15 ?_
      refine tt_lbi (fun y1 => ?_)
      refine tt_istore_n (L2 := [(1, .int y1), (0, .int x0), (2, .int x2)]) C dX8_bitsOf_16 rfl (by decide) rfl ?_
      refine tt_iincB (d := (1 : Int32)) C 2 (fun y2 => [(2, .int y2), (1, .int y1), (0, .int x0)]) dX8_bitsOf_17 rfl (by decide) (by decide) (fun _ => rfl) (fun y2 => ?_)
      refine tt_goto (tgt := 4) C dX8_bitsOf_20 (by decide) ?_
      refine tt_sub [2, 1, 0] (L2 := [(0, .int x0), (1, .int y1), (2, .int y2)]) rfl ?_
      exact ih x0 y1 y2 μ

def fX8_bitsOf (x0 : Int32) (μ : Mem) : Option (Int32 × Mem) := lb (0 : Int32) fun (y1 : Int32) => lb (0 : Int32) fun (y2 : Int32) => fX8_bitsOf_L4 FU x0 y1 y2 μ
set_option maxHeartbeats 4000000 in
set_option maxRecDepth 100000 in
theorem wX8_bitsOf {p : Program} {l : Launch} {e : Env} {s : State} {m : MethodId} {args : Array Value} {below : List Frame} {meth : Method} {c : Code} {A : Nat → Prop} {D : va_G} {ad : Nat → Nat} {cA : Nat → ClassId} (C : Cx p s m args meth c cX8_bitsOf RX8 3 A dsM D ad cA EM) (hr : meth.sig.returnType = some .int) (x0 : Int32) (μ : Mem) : T p l e (rmD 0) s m args below meth c 3 A dsM D ad cA enI (fX8_bitsOf x0 μ) 0 [(0, .int x0)] [] μ := by
  unfold fX8_bitsOf
  refine tt_iconst (v := (0 : Int32)) C dX8_bitsOf_0 (by decide) ?_
  refine tt_lbi (fun y1 => ?_)
  refine tt_istore_n (L2 := [(1, .int y1), (0, .int x0)]) C dX8_bitsOf_1 rfl (by decide) rfl ?_
  refine tt_iconst (v := (0 : Int32)) C dX8_bitsOf_2 (by decide) ?_
  refine tt_lbi (fun y2 => ?_)
  refine tt_istore_n (L2 := [(2, .int y2), (1, .int y1), (0, .int x0)]) C dX8_bitsOf_3 rfl (by decide) rfl ?_
  refine tt_sub [2, 1, 0] (L2 := [(0, .int x0), (1, .int y1), (2, .int y2)]) rfl ?_
  exact wX8_bitsOf_L4 C hr FU x0 y1 y2 μ
theorem kX8_bitsOf {l : Launch} {A : Nat → Prop} {D : va_G} {ad : Nat → Nat} {cA : Nat → ClassId} (hPk : Pk A dsM ad cA EM) {x0 : Int32} {μ : Mem} {v : Int32} {ν : Mem} (h : fX8_bitsOf x0 μ = some (v, ν)) : Ct l A dsM D ad cA EM yX8_bitsOf cX8_bitsOf 3 (some .int) 0 [.int x0] μ (enI (v, ν)) :=
  ct_of (by decide) (Nat.le_of_ble_eq_true rfl) hPk rfl (fun p e s m args below meth c C hr => wX8_bitsOf C hr x0 μ) h

/-! BasketRoundModel.rightAbove(II)I -/
def fX8_rightAbove_J46 (k6 : Int32 → Int32 → Int32 → Int32 → Mem → Option (Int32 × Mem)) (x1 : Int32) (x2 : Int32) (x4 : Int32) (z0 : Int32) (μ : Mem) : Option (Int32 × Mem) := lb (x4 + (1 : Int32)) fun (y1 : Int32) => k6 x1 x2 z0 y1 μ
set_option maxHeartbeats 4000000 in
set_option maxRecDepth 100000 in
theorem wX8_rightAbove_J46 {p : Program} {l : Launch} {e : Env} {s : State} {m : MethodId} {args : Array Value} {below : List Frame} {meth : Method} {c : Code} {A : Nat → Prop} {D : va_G} {ad : Nat → Nat} {cA : Nat → ClassId} (C : Cx p s m args meth c cX8_rightAbove RX8 5 A dsM D ad cA EM) (hr : meth.sig.returnType = some .int) (k6 : Int32 → Int32 → Int32 → Int32 → Mem → Option (Int32 × Mem)) (hk6 : ∀ (x1 : Int32) (x2 : Int32) (x3 : Int32) (x4 : Int32) (μ : Mem), T p l e (rmD 1) s m args below meth c 5 A dsM D ad cA enI (k6 x1 x2 x3 x4 μ) 6 [(0, .ref (ad 0)), (1, .int x1), (2, .int x2), (3, .int x3), (4, .int x4)] [] μ) (x1 : Int32) (x2 : Int32) (x4 : Int32) (z0 : Int32) (μ : Mem) : T p l e (rmD 1) s m args below meth c 5 A dsM D ad cA enI (fX8_rightAbove_J46 k6 x1 x2 x4 z0 μ) 46 [(0, .ref (ad 0)), (1, .int x1), (2, .int x2), (4, .int x4)] [.int z0] μ := by
  unfold fX8_rightAbove_J46
  refine tt_istore_n (L2 := [(3, .int z0), (0, .ref (ad 0)), (1, .int x1), (2, .int x2), (4, .int x4)]) C dX8_rightAbove_46 rfl (by decide) rfl ?_
  refine tt_iincB (d := (1 : Int32)) C 4 (fun y1 => [(4, .int y1), (3, .int z0), (0, .ref (ad 0)), (1, .int x1), (2, .int x2)]) dX8_rightAbove_47 rfl (by decide) (by decide) (fun _ => rfl) (fun y1 => ?_)
  refine tt_goto (tgt := 6) C dX8_rightAbove_50 (by decide) ?_
  refine tt_sub [2, 3, 4, 1, 0] (L2 := [(0, .ref (ad 0)), (1, .int x1), (2, .int x2), (3, .int z0), (4, .int y1)]) rfl ?_
  exact hk6 x1 x2 z0 y1 μ

def fX8_rightAbove_L6 : Nat → Int32 → Int32 → Int32 → Int32 → Mem → Option (Int32 × Mem)
  | 0, _, _, _, _, _ => none
  | fu + 1, x1, x2, x3, x4, μ => bi (fX8_at (20 : Int32) x4 μ) fun v2 m1 => if v2 = x1 then (some (x3, m1)) else (bi (fX8_at (20 : Int32) x4 m1) fun v4 m3 => if ((x2 >>> (v4 &&& 31)) &&& (1 : Int32)) = (1 : Int32) then (bi (fX8_at (20 : Int32) x4 m3) fun v6 m5 => fX8_rightAbove_J46 (fun x1 x2 x3 x4 μ => fX8_rightAbove_L6 fu x1 x2 x3 x4 μ) x1 x2 x4 v6 m5) else (fX8_rightAbove_J46 (fun x1 x2 x3 x4 μ => fX8_rightAbove_L6 fu x1 x2 x3 x4 μ) x1 x2 x4 x3 m3))
set_option maxHeartbeats 4000000 in
set_option maxRecDepth 100000 in
theorem wX8_rightAbove_L6 {p : Program} {l : Launch} {e : Env} {s : State} {m : MethodId} {args : Array Value} {below : List Frame} {meth : Method} {c : Code} {A : Nat → Prop} {D : va_G} {ad : Nat → Nat} {cA : Nat → ClassId} (C : Cx p s m args meth c cX8_rightAbove RX8 5 A dsM D ad cA EM) (hr : meth.sig.returnType = some .int) : ∀ (fu : Nat) (x1 : Int32) (x2 : Int32) (x3 : Int32) (x4 : Int32) (μ : Mem), T p l e (rmD 1) s m args below meth c 5 A dsM D ad cA enI (fX8_rightAbove_L6 fu x1 x2 x3 x4 μ) 6 [(0, .ref (ad 0)), (1, .int x1), (2, .int x2), (3, .int x3), (4, .int x4)] [] μ
  | 0, _, _, _, _, _ => tt_none
  | fu + 1, x1, x2, x3, x4, μ => by
    have ih := fun (x1 : Int32) (x2 : Int32) (x3 : Int32) (x4 : Int32) (μ : Mem) => wX8_rightAbove_L6 (l := l) (e := e) (below := below) C hr fu x1 x2 x3 x4 μ
    show T p l e (rmD 1) s m args below meth c 5 A dsM D ad cA enI (bi (fX8_at (20 : Int32) x4 μ) fun v2 m1 => if v2 = x1 then (some (x3, m1)) else (bi (fX8_at (20 : Int32) x4 m1) fun v4 m3 => if ((x2 >>> (v4 &&& 31)) &&& (1 : Int32)) = (1 : Int32) then (bi (fX8_at (20 : Int32) x4 m3) fun v6 m5 => fX8_rightAbove_J46 (fun x1 x2 x3 x4 μ => fX8_rightAbove_L6 fu x1 x2 x3 x4 μ) x1 x2 x4 v6 m5) else (fX8_rightAbove_J46 (fun x1 x2 x3 x4 μ => fX8_rightAbove_L6 fu x1 x2 x3 x4 μ) x1 x2 x4 x3 m3))) 6 [(0, .ref (ad 0)), (1, .int x1), (2, .int x2), (3, .int x3), (4, .int x4)] [] μ
    refine tt_aload_n C 0 dX8_rightAbove_6 rfl rfl ?_
    refine tt_bipush (v := (20 : Int32)) C dX8_rightAbove_7 (by decide) ?_
    refine tt_iload C 4 dX8_rightAbove_9 rfl ?_
    refine tt_bi (fun v2 m1 h1 => ?_)
    refine tt_callV (st := []) (As := [.int (20 : Int32), .int x4]) C (kX8_at C.2.2.2.2.2.2.2.1 h1) mi_X8_at ml_RX8_173 mv_X8_at ms_X8_at (q := (RX8, TX8, 45)) dM_0 rfl rfl (by decide) (by decide) (Nat.le_of_ble_eq_true rfl) dX8_rightAbove_11 ?_
    refine tt_iload_n C 1 dX8_rightAbove_14 rfl rfl ?_
    refine tt_if (fun h2 => ?_) (fun h2 => ?_)
    · refine tt_icmp_eqT (tgt := 53) C h2 dX8_rightAbove_15 (by decide) ?_
      refine tt_iload_n C 3 dX8_rightAbove_53 rfl rfl ?_
      exact tt_iret rfl C hr dX8_rightAbove_54
    · refine tt_icmp_eqF C 53 h2 dX8_rightAbove_15 (by decide) ?_
      refine tt_iload_n C 2 dX8_rightAbove_18 rfl rfl ?_
      refine tt_aload_n C 0 dX8_rightAbove_19 rfl rfl ?_
      refine tt_bipush (v := (20 : Int32)) C dX8_rightAbove_20 (by decide) ?_
      refine tt_iload C 4 dX8_rightAbove_22 rfl ?_
      refine tt_bi (fun v4 m3 h3 => ?_)
      refine tt_callV (st := [.int x2]) (As := [.int (20 : Int32), .int x4]) C (kX8_at C.2.2.2.2.2.2.2.1 h3) mi_X8_at ml_RX8_173 mv_X8_at ms_X8_at (q := (RX8, TX8, 45)) dM_0 rfl rfl (by decide) (by decide) (Nat.le_of_ble_eq_true rfl) dX8_rightAbove_24 ?_
      refine tt_ishr C dX8_rightAbove_27 ?_
      refine tt_iconst (v := (1 : Int32)) C dX8_rightAbove_28 (by decide) ?_
      refine tt_iand C dX8_rightAbove_29 ?_
      refine tt_iconst (v := (1 : Int32)) C dX8_rightAbove_30 (by decide) ?_
      refine tt_if (fun h4 => ?_) (fun h4 => ?_)
      · refine tt_icmp_neF C 45 h4 dX8_rightAbove_31 (by decide) ?_
        refine tt_aload_n C 0 dX8_rightAbove_34 rfl rfl ?_
        refine tt_bipush (v := (20 : Int32)) C dX8_rightAbove_35 (by decide) ?_
        refine tt_iload C 4 dX8_rightAbove_37 rfl ?_
        refine tt_bi (fun v6 m5 h5 => ?_)
        refine tt_callV (st := []) (As := [.int (20 : Int32), .int x4]) C (kX8_at C.2.2.2.2.2.2.2.1 h5) mi_X8_at ml_RX8_173 mv_X8_at ms_X8_at (q := (RX8, TX8, 45)) dM_0 rfl rfl (by decide) (by decide) (Nat.le_of_ble_eq_true rfl) dX8_rightAbove_39 ?_
        refine tt_goto (tgt := 46) C dX8_rightAbove_42 (by decide) ?_
        refine tt_sub [0, 1, 2, 4] (L2 := [(0, .ref (ad 0)), (1, .int x1), (2, .int x2), (4, .int x4)]) rfl ?_
        exact wX8_rightAbove_J46 C hr (fun x1 x2 x3 x4 μ => fX8_rightAbove_L6 fu x1 x2 x3 x4 μ) (fun x1 x2 x3 x4 μ => ih x1 x2 x3 x4 μ) x1 x2 x4 v6 m5
      · refine tt_icmp_neT (tgt := 45) C h4 dX8_rightAbove_31 (by decide) ?_
        refine tt_iload_n C 3 dX8_rightAbove_45 rfl rfl ?_
        refine tt_sub [0, 1, 2, 4] (L2 := [(0, .ref (ad 0)), (1, .int x1), (2, .int x2), (4, .int x4)]) rfl ?_
        exact wX8_rightAbove_J46 C hr (fun x1 x2 x3 x4 μ => fX8_rightAbove_L6 fu x1 x2 x3 x4 μ) (fun x1 x2 x3 x4 μ => ih x1 x2 x3 x4 μ) x1 x2 x4 x3 m3

def fX8_rightAbove (x1 : Int32) (x2 : Int32) (μ : Mem) : Option (Int32 × Mem) := lb (-4 : Int32) fun (y1 : Int32) => lb (0 : Int32) fun (y2 : Int32) => fX8_rightAbove_L6 FU x1 x2 y1 y2 μ
set_option maxHeartbeats 4000000 in
set_option maxRecDepth 100000 in
theorem wX8_rightAbove {p : Program} {l : Launch} {e : Env} {s : State} {m : MethodId} {args : Array Value} {below : List Frame} {meth : Method} {c : Code} {A : Nat → Prop} {D : va_G} {ad : Nat → Nat} {cA : Nat → ClassId} (C : Cx p s m args meth c cX8_rightAbove RX8 5 A dsM D ad cA EM) (hr : meth.sig.returnType = some .int) (x1 : Int32) (x2 : Int32) (μ : Mem) : T p l e (rmD 1) s m args below meth c 5 A dsM D ad cA enI (fX8_rightAbove x1 x2 μ) 0 [(0, .ref (ad 0)), (1, .int x1), (2, .int x2)] [] μ := by
  unfold fX8_rightAbove
  refine tt_bipush (v := (-4 : Int32)) C dX8_rightAbove_0 (by decide) ?_
  refine tt_lbi (fun y1 => ?_)
  refine tt_istore_n (L2 := [(3, .int y1), (0, .ref (ad 0)), (1, .int x1), (2, .int x2)]) C dX8_rightAbove_2 rfl (by decide) rfl ?_
  refine tt_iconst (v := (0 : Int32)) C dX8_rightAbove_3 (by decide) ?_
  refine tt_lbi (fun y2 => ?_)
  refine tt_istore (L2 := [(4, .int y2), (3, .int y1), (0, .ref (ad 0)), (1, .int x1), (2, .int x2)]) C dX8_rightAbove_4 (by decide) rfl ?_
  refine tt_sub [2, 3, 4, 1, 0] (L2 := [(0, .ref (ad 0)), (1, .int x1), (2, .int x2), (3, .int y1), (4, .int y2)]) rfl ?_
  exact wX8_rightAbove_L6 C hr FU x1 x2 y1 y2 μ
theorem kX8_rightAbove {l : Launch} {A : Nat → Prop} {D : va_G} {ad : Nat → Nat} {cA : Nat → ClassId} (hPk : Pk A dsM ad cA EM) {x1 : Int32} {x2 : Int32} {μ : Mem} {v : Int32} {ν : Mem} (h : fX8_rightAbove x1 x2 μ = some (v, ν)) : Ct l A dsM D ad cA EM yX8_rightAbove cX8_rightAbove 5 (some .int) 1 [.ref (ad 0), .int x1, .int x2] μ (enI (v, ν)) :=
  ct_of (by decide) (Nat.le_of_ble_eq_true rfl) hPk rfl (fun p e s m args below meth c C hr => wX8_rightAbove C hr x1 x2 μ) h

/-! BasketRoundModel.goes(II)I -/
def fX8_goes_J296 (k11 : Int32 → Int32 → Int32 → Int32 → Int32 → Int32 → Mem → Option (Int32 × Mem)) (x1 : Int32) (x2 : Int32) (x3 : Int32) (x4 : Int32) (x5 : Int32) (x6 : Int32) (μ : Mem) : Option (Int32 × Mem) := lb (x6 + (1 : Int32)) fun (y1 : Int32) => k11 x1 x2 x3 x4 x5 y1 μ
set_option maxHeartbeats 4000000 in
set_option maxRecDepth 100000 in
theorem wX8_goes_J296 {p : Program} {l : Launch} {e : Env} {s : State} {m : MethodId} {args : Array Value} {below : List Frame} {meth : Method} {c : Code} {A : Nat → Prop} {D : va_G} {ad : Nat → Nat} {cA : Nat → ClassId} (C : Cx p s m args meth c cX8_goes RX8 13 A dsM D ad cA EM) (hr : meth.sig.returnType = some .int) (k11 : Int32 → Int32 → Int32 → Int32 → Int32 → Int32 → Mem → Option (Int32 × Mem)) (hk11 : ∀ (x1 : Int32) (x2 : Int32) (x3 : Int32) (x4 : Int32) (x5 : Int32) (x6 : Int32) (μ : Mem), T p l e (rmD 2) s m args below meth c 13 A dsM D ad cA enI (k11 x1 x2 x3 x4 x5 x6 μ) 11 [(0, .ref (ad 0)), (1, .int x1), (2, .int x2), (3, .int x3), (4, .int x4), (5, .int x5), (6, .int x6)] [] μ) (x1 : Int32) (x2 : Int32) (x3 : Int32) (x4 : Int32) (x5 : Int32) (x6 : Int32) (μ : Mem) : T p l e (rmD 2) s m args below meth c 13 A dsM D ad cA enI (fX8_goes_J296 k11 x1 x2 x3 x4 x5 x6 μ) 296 [(0, .ref (ad 0)), (1, .int x1), (2, .int x2), (3, .int x3), (4, .int x4), (5, .int x5), (6, .int x6)] [] μ := by
  unfold fX8_goes_J296
  refine tt_iincB (d := (1 : Int32)) C 6 (fun y1 => [(6, .int y1), (0, .ref (ad 0)), (1, .int x1), (2, .int x2), (3, .int x3), (4, .int x4), (5, .int x5)]) dX8_goes_296 rfl (by decide) (by decide) (fun _ => rfl) (fun y1 => ?_)
  refine tt_goto (tgt := 11) C dX8_goes_299 (by decide) ?_
  refine tt_sub [1, 2, 3, 4, 5, 6, 0] (L2 := [(0, .ref (ad 0)), (1, .int x1), (2, .int x2), (3, .int x3), (4, .int x4), (5, .int x5), (6, .int y1)]) rfl ?_
  exact hk11 x1 x2 x3 x4 x5 y1 μ

def fX8_goes_J292 (k11 : Int32 → Int32 → Int32 → Int32 → Int32 → Int32 → Mem → Option (Int32 × Mem)) (x1 : Int32) (x2 : Int32) (x3 : Int32) (x4 : Int32) (x5 : Int32) (x6 : Int32) (z1 : Int32) (z2 : Int32) (μ : Mem) : Option (Int32 × Mem) := lb (wr μ 0 33 (z1 ||| z2)) fun m1 => fX8_goes_J296 k11 x1 x2 x3 x4 x5 x6 m1
set_option maxHeartbeats 4000000 in
set_option maxRecDepth 100000 in
theorem wX8_goes_J292 {p : Program} {l : Launch} {e : Env} {s : State} {m : MethodId} {args : Array Value} {below : List Frame} {meth : Method} {c : Code} {A : Nat → Prop} {D : va_G} {ad : Nat → Nat} {cA : Nat → ClassId} (C : Cx p s m args meth c cX8_goes RX8 13 A dsM D ad cA EM) (hr : meth.sig.returnType = some .int) (k11 : Int32 → Int32 → Int32 → Int32 → Int32 → Int32 → Mem → Option (Int32 × Mem)) (hk11 : ∀ (x1 : Int32) (x2 : Int32) (x3 : Int32) (x4 : Int32) (x5 : Int32) (x6 : Int32) (μ : Mem), T p l e (rmD 2) s m args below meth c 13 A dsM D ad cA enI (k11 x1 x2 x3 x4 x5 x6 μ) 11 [(0, .ref (ad 0)), (1, .int x1), (2, .int x2), (3, .int x3), (4, .int x4), (5, .int x5), (6, .int x6)] [] μ) (x1 : Int32) (x2 : Int32) (x3 : Int32) (x4 : Int32) (x5 : Int32) (x6 : Int32) (z1 : Int32) (z2 : Int32) (μ : Mem) : T p l e (rmD 2) s m args below meth c 13 A dsM D ad cA enI (fX8_goes_J292 k11 x1 x2 x3 x4 x5 x6 z1 z2 μ) 292 [(0, .ref (ad 0)), (1, .int x1), (2, .int x2), (3, .int x3), (4, .int x4), (5, .int x5), (6, .int x6)] [.int z2, .int z1, .ref (ad 0)] μ := by
  unfold fX8_goes_J292
  refine tt_ior C dX8_goes_292 ?_
  refine tt_putI C (j := 33) dM_0 rfl fl_RX8_224 fw_8_33 dX8_goes_293 ?_
  refine tt_lbm (fun m1 => ?_)
  refine tt_sub [0, 1, 2, 3, 4, 5, 6] (L2 := [(0, .ref (ad 0)), (1, .int x1), (2, .int x2), (3, .int x3), (4, .int x4), (5, .int x5), (6, .int x6)]) rfl ?_
  exact wX8_goes_J296 C hr k11 hk11 x1 x2 x3 x4 x5 x6 m1

def fX8_goes_J261 (k11 : Int32 → Int32 → Int32 → Int32 → Int32 → Int32 → Mem → Option (Int32 × Mem)) (x1 : Int32) (x2 : Int32) (x3 : Int32) (x4 : Int32) (x5 : Int32) (x6 : Int32) (x7 : Int32) (z1 : Int32) (z2 : Int32) (μ : Mem) : Option (Int32 × Mem) := lb (wr μ 0 32 (z1 ||| z2)) fun m1 => gr ((15 : Int32) + x7) 160 <| if x3 ≤ (m1 1 ((15 : Int32) + x7).toNatClampNeg) then (fX8_goes_J292 k11 x1 x2 x3 x4 x5 x6 (m1 0 33) (0 : Int32) m1) else (fX8_goes_J292 k11 x1 x2 x3 x4 x5 x6 (m1 0 33) ((1 : Int32) <<< (x7 &&& 31)) m1)
set_option maxHeartbeats 4000000 in
set_option maxRecDepth 100000 in
theorem wX8_goes_J261 {p : Program} {l : Launch} {e : Env} {s : State} {m : MethodId} {args : Array Value} {below : List Frame} {meth : Method} {c : Code} {A : Nat → Prop} {D : va_G} {ad : Nat → Nat} {cA : Nat → ClassId} (C : Cx p s m args meth c cX8_goes RX8 13 A dsM D ad cA EM) (hr : meth.sig.returnType = some .int) (k11 : Int32 → Int32 → Int32 → Int32 → Int32 → Int32 → Mem → Option (Int32 × Mem)) (hk11 : ∀ (x1 : Int32) (x2 : Int32) (x3 : Int32) (x4 : Int32) (x5 : Int32) (x6 : Int32) (μ : Mem), T p l e (rmD 2) s m args below meth c 13 A dsM D ad cA enI (k11 x1 x2 x3 x4 x5 x6 μ) 11 [(0, .ref (ad 0)), (1, .int x1), (2, .int x2), (3, .int x3), (4, .int x4), (5, .int x5), (6, .int x6)] [] μ) (x1 : Int32) (x2 : Int32) (x3 : Int32) (x4 : Int32) (x5 : Int32) (x6 : Int32) (x7 : Int32) (z1 : Int32) (z2 : Int32) (μ : Mem) : T p l e (rmD 2) s m args below meth c 13 A dsM D ad cA enI (fX8_goes_J261 k11 x1 x2 x3 x4 x5 x6 x7 z1 z2 μ) 261 [(0, .ref (ad 0)), (1, .int x1), (2, .int x2), (3, .int x3), (4, .int x4), (5, .int x5), (6, .int x6), (7, .int x7)] [.int z2, .int z1, .ref (ad 0)] μ := by
  unfold fX8_goes_J261
  refine tt_ior C dX8_goes_261 ?_
  refine tt_putI C (j := 32) dM_0 rfl fl_RX8_221 fw_8_32 dX8_goes_262 ?_
  refine tt_lbm (fun m1 => ?_)
  refine tt_aload_n C 0 dX8_goes_265 rfl rfl ?_
  refine tt_dup C dX8_goes_266 rfl ?_
  refine tt_getI C (j := 33) dM_0 rfl fl_RX8_224 dX8_goes_267 ?_
  refine tt_iload_n C 3 dX8_goes_270 rfl rfl ?_
  refine tt_aload_n C 0 dX8_goes_271 rfl rfl ?_
  refine tt_getR C (j := 0) (r0 := 1) dM_0 rfl fl_RX8_7 dX8_goes_272 ?_
  refine tt_bipush (v := (15 : Int32)) C dX8_goes_275 (by decide) ?_
  refine tt_iload C 7 dX8_goes_277 rfl ?_
  refine tt_iadd C dX8_goes_279 ?_
  refine tt_gr (fun h1 => ?_)
  refine tt_iald C dM_1 h1 dX8_goes_280 ?_
  refine tt_if (fun h2 => ?_) (fun h2 => ?_)
  · refine tt_icmp_leT (tgt := 291) C h2 dX8_goes_281 (by decide) ?_
    refine tt_iconst (v := (0 : Int32)) C dX8_goes_291 (by decide) ?_
    refine tt_sub [0, 1, 2, 3, 4, 5, 6] (L2 := [(0, .ref (ad 0)), (1, .int x1), (2, .int x2), (3, .int x3), (4, .int x4), (5, .int x5), (6, .int x6)]) rfl ?_
    exact wX8_goes_J292 C hr k11 hk11 x1 x2 x3 x4 x5 x6 (m1 0 33) (0 : Int32) m1
  · refine tt_icmp_leF C 291 h2 dX8_goes_281 (by decide) ?_
    refine tt_iconst (v := (1 : Int32)) C dX8_goes_284 (by decide) ?_
    refine tt_iload C 7 dX8_goes_285 rfl ?_
    refine tt_ishl C dX8_goes_287 ?_
    refine tt_goto (tgt := 292) C dX8_goes_288 (by decide) ?_
    refine tt_sub [0, 1, 2, 3, 4, 5, 6] (L2 := [(0, .ref (ad 0)), (1, .int x1), (2, .int x2), (3, .int x3), (4, .int x4), (5, .int x5), (6, .int x6)]) rfl ?_
    exact wX8_goes_J292 C hr k11 hk11 x1 x2 x3 x4 x5 x6 (m1 0 33) ((1 : Int32) <<< (x7 &&& 31)) m1

def fX8_goes_J241 (k11 : Int32 → Int32 → Int32 → Int32 → Int32 → Int32 → Mem → Option (Int32 × Mem)) (x1 : Int32) (x2 : Int32) (x3 : Int32) (x4 : Int32) (x5 : Int32) (x6 : Int32) (x7 : Int32) (z0 : Int32) (μ : Mem) : Option (Int32 × Mem) := if z0 = (0 : Int32) then (fX8_goes_J261 k11 x1 x2 x3 x4 x5 x6 x7 (μ 0 32) (0 : Int32) μ) else (fX8_goes_J261 k11 x1 x2 x3 x4 x5 x6 x7 (μ 0 32) ((1 : Int32) <<< (x7 &&& 31)) μ)
set_option maxHeartbeats 4000000 in
set_option maxRecDepth 100000 in
theorem wX8_goes_J241 {p : Program} {l : Launch} {e : Env} {s : State} {m : MethodId} {args : Array Value} {below : List Frame} {meth : Method} {c : Code} {A : Nat → Prop} {D : va_G} {ad : Nat → Nat} {cA : Nat → ClassId} (C : Cx p s m args meth c cX8_goes RX8 13 A dsM D ad cA EM) (hr : meth.sig.returnType = some .int) (k11 : Int32 → Int32 → Int32 → Int32 → Int32 → Int32 → Mem → Option (Int32 × Mem)) (hk11 : ∀ (x1 : Int32) (x2 : Int32) (x3 : Int32) (x4 : Int32) (x5 : Int32) (x6 : Int32) (μ : Mem), T p l e (rmD 2) s m args below meth c 13 A dsM D ad cA enI (k11 x1 x2 x3 x4 x5 x6 μ) 11 [(0, .ref (ad 0)), (1, .int x1), (2, .int x2), (3, .int x3), (4, .int x4), (5, .int x5), (6, .int x6)] [] μ) (x1 : Int32) (x2 : Int32) (x3 : Int32) (x4 : Int32) (x5 : Int32) (x6 : Int32) (x7 : Int32) (z0 : Int32) (μ : Mem) : T p l e (rmD 2) s m args below meth c 13 A dsM D ad cA enI (fX8_goes_J241 k11 x1 x2 x3 x4 x5 x6 x7 z0 μ) 241 [(0, .ref (ad 0)), (1, .int x1), (2, .int x2), (3, .int x3), (4, .int x4), (5, .int x5), (6, .int x6), (7, .int x7)] [.int z0] μ := by
  unfold fX8_goes_J241
  refine tt_istore (L2 := [(12, .int z0), (0, .ref (ad 0)), (1, .int x1), (2, .int x2), (3, .int x3), (4, .int x4), (5, .int x5), (6, .int x6), (7, .int x7)]) C dX8_goes_241 (by decide) rfl ?_
  refine tt_aload_n C 1 dX8_goes_243 rfl rfl ?_
  refine tt_dup C dX8_goes_244 rfl ?_
  refine tt_getI C (j := 32) dM_0 rfl fl_RX8_221 dX8_goes_245 ?_
  refine tt_iload C 0 dX8_goes_248 rfl ?_
  refine tt_if (fun h1 => ?_) (fun h1 => ?_)
  · refine tt_if_eqT (tgt := 260) C h1 dX8_goes_250 (by decide) ?_
    refine tt_iconst (v := (0 : Int32)) C dX8_goes_260 (by decide) ?_
    refine tt_sub [1, 2, 3, 4, 5, 6, 7, 8] (L2 := [(0, .ref (ad 0)), (1, .int x1), (2, .int x2), (3, .int x3), (4, .int x4), (5, .int x5), (6, .int x6), (7, .int x7)]) rfl ?_
    exact wX8_goes_J261 C hr k11 hk11 x1 x2 x3 x4 x5 x6 x7 (μ 0 32) (0 : Int32) μ
  · refine tt_if_eqF C 260 h1 dX8_goes_250 (by decide) ?_
    refine tt_iconst (v := (1 : Int32)) C dX8_goes_253 (by decide) ?_
    refine tt_iload C 8 dX8_goes_254 rfl ?_
    refine tt_ishl C dX8_goes_256 ?_
    refine tt_goto (tgt := 261) C dX8_goes_257 (by decide) ?_
    refine tt_sub [1, 2, 3, 4, 5, 6, 7, 8] (L2 := [(0, .ref (ad 0)), (1, .int x1), (2, .int x2), (3, .int x3), (4, .int x4), (5, .int x5), (6, .int x6), (7, .int x7)]) rfl ?_
    exact wX8_goes_J261 C hr k11 hk11 x1 x2 x3 x4 x5 x6 x7 (μ 0 32) ((1 : Int32) <<< (x7 &&& 31)) μ

def fX8_goes_J240 (k11 : Int32 → Int32 → Int32 → Int32 → Int32 → Int32 → Mem → Option (Int32 × Mem)) (x1 : Int32) (x2 : Int32) (x3 : Int32) (x4 : Int32) (x5 : Int32) (x6 : Int32) (x7 : Int32) (μ : Mem) : Option (Int32 × Mem) := fX8_goes_J241 k11 x1 x2 x3 x4 x5 x6 x7 (0 : Int32) μ
set_option maxHeartbeats 4000000 in
set_option maxRecDepth 100000 in
theorem wX8_goes_J240 {p : Program} {l : Launch} {e : Env} {s : State} {m : MethodId} {args : Array Value} {below : List Frame} {meth : Method} {c : Code} {A : Nat → Prop} {D : va_G} {ad : Nat → Nat} {cA : Nat → ClassId} (C : Cx p s m args meth c cX8_goes RX8 13 A dsM D ad cA EM) (hr : meth.sig.returnType = some .int) (k11 : Int32 → Int32 → Int32 → Int32 → Int32 → Int32 → Mem → Option (Int32 × Mem)) (hk11 : ∀ (x1 : Int32) (x2 : Int32) (x3 : Int32) (x4 : Int32) (x5 : Int32) (x6 : Int32) (μ : Mem), T p l e (rmD 2) s m args below meth c 13 A dsM D ad cA enI (k11 x1 x2 x3 x4 x5 x6 μ) 11 [(0, .ref (ad 0)), (1, .int x1), (2, .int x2), (3, .int x3), (4, .int x4), (5, .int x5), (6, .int x6)] [] μ) (x1 : Int32) (x2 : Int32) (x3 : Int32) (x4 : Int32) (x5 : Int32) (x6 : Int32) (x7 : Int32) (μ : Mem) : T p l e (rmD 2) s m args below meth c 13 A dsM D ad cA enI (fX8_goes_J240 k11 x1 x2 x3 x4 x5 x6 x7 μ) 240 [(0, .ref (ad 0)), (1, .int x1), (2, .int x2), (3, .int x3), (4, .int x4), (5, .int x5), (6, .int x6), (7, .int x7)] [] μ := by
  unfold fX8_goes_J240
  refine tt_iconst (v := (0 : Int32)) C dX8_goes_240 (by decide) ?_
  refine tt_sub [0, 1, 2, 3, 4, 5, 6, 7] (L2 := [(0, .ref (ad 0)), (1, .int x1), (2, .int x2), (3, .int x3), (4, .int x4), (5, .int x5), (6, .int x6), (7, .int x7)]) rfl ?_
  exact wX8_goes_J241 C hr k11 hk11 x1 x2 x3 x4 x5 x6 x7 (0 : Int32) μ

def fX8_goes_J236 (k11 : Int32 → Int32 → Int32 → Int32 → Int32 → Int32 → Mem → Option (Int32 × Mem)) (x1 : Int32) (x2 : Int32) (x3 : Int32) (x4 : Int32) (x5 : Int32) (x6 : Int32) (x7 : Int32) (μ : Mem) : Option (Int32 × Mem) := fX8_goes_J241 k11 x1 x2 x3 x4 x5 x6 x7 (1 : Int32) μ
set_option maxHeartbeats 4000000 in
set_option maxRecDepth 100000 in
theorem wX8_goes_J236 {p : Program} {l : Launch} {e : Env} {s : State} {m : MethodId} {args : Array Value} {below : List Frame} {meth : Method} {c : Code} {A : Nat → Prop} {D : va_G} {ad : Nat → Nat} {cA : Nat → ClassId} (C : Cx p s m args meth c cX8_goes RX8 13 A dsM D ad cA EM) (hr : meth.sig.returnType = some .int) (k11 : Int32 → Int32 → Int32 → Int32 → Int32 → Int32 → Mem → Option (Int32 × Mem)) (hk11 : ∀ (x1 : Int32) (x2 : Int32) (x3 : Int32) (x4 : Int32) (x5 : Int32) (x6 : Int32) (μ : Mem), T p l e (rmD 2) s m args below meth c 13 A dsM D ad cA enI (k11 x1 x2 x3 x4 x5 x6 μ) 11 [(0, .ref (ad 0)), (1, .int x1), (2, .int x2), (3, .int x3), (4, .int x4), (5, .int x5), (6, .int x6)] [] μ) (x1 : Int32) (x2 : Int32) (x3 : Int32) (x4 : Int32) (x5 : Int32) (x6 : Int32) (x7 : Int32) (μ : Mem) : T p l e (rmD 2) s m args below meth c 13 A dsM D ad cA enI (fX8_goes_J236 k11 x1 x2 x3 x4 x5 x6 x7 μ) 236 [(0, .ref (ad 0)), (1, .int x1), (2, .int x2), (3, .int x3), (4, .int x4), (5, .int x5), (6, .int x6), (7, .int x7)] [] μ := by
  unfold fX8_goes_J236
  refine tt_iconst (v := (1 : Int32)) C dX8_goes_236 (by decide) ?_
  refine tt_goto (tgt := 241) C dX8_goes_237 (by decide) ?_
  refine tt_sub [0, 1, 2, 3, 4, 5, 6, 7] (L2 := [(0, .ref (ad 0)), (1, .int x1), (2, .int x2), (3, .int x3), (4, .int x4), (5, .int x5), (6, .int x6), (7, .int x7)]) rfl ?_
  exact wX8_goes_J241 C hr k11 hk11 x1 x2 x3 x4 x5 x6 x7 (1 : Int32) μ

def fX8_goes_J218 (k11 : Int32 → Int32 → Int32 → Int32 → Int32 → Int32 → Mem → Option (Int32 × Mem)) (x1 : Int32) (x2 : Int32) (x3 : Int32) (x4 : Int32) (x5 : Int32) (x6 : Int32) (x7 : Int32) (x11 : Int32) (μ : Mem) : Option (Int32 × Mem) := if x11 = (-4 : Int32) then (fX8_goes_J240 k11 x1 x2 x3 x4 x5 x6 x7 μ) else (gr x11 160 <| if (μ 1 x11.toNatClampNeg) = (4 : Int32) then (fX8_goes_J236 k11 x1 x2 x3 x4 x5 x6 x7 μ) else (fX8_goes_J240 k11 x1 x2 x3 x4 x5 x6 x7 μ))
set_option maxHeartbeats 4000000 in
set_option maxRecDepth 100000 in
theorem wX8_goes_J218 {p : Program} {l : Launch} {e : Env} {s : State} {m : MethodId} {args : Array Value} {below : List Frame} {meth : Method} {c : Code} {A : Nat → Prop} {D : va_G} {ad : Nat → Nat} {cA : Nat → ClassId} (C : Cx p s m args meth c cX8_goes RX8 13 A dsM D ad cA EM) (hr : meth.sig.returnType = some .int) (k11 : Int32 → Int32 → Int32 → Int32 → Int32 → Int32 → Mem → Option (Int32 × Mem)) (hk11 : ∀ (x1 : Int32) (x2 : Int32) (x3 : Int32) (x4 : Int32) (x5 : Int32) (x6 : Int32) (μ : Mem), T p l e (rmD 2) s m args below meth c 13 A dsM D ad cA enI (k11 x1 x2 x3 x4 x5 x6 μ) 11 [(0, .ref (ad 0)), (1, .int x1), (2, .int x2), (3, .int x3), (4, .int x4), (5, .int x5), (6, .int x6)] [] μ) (x1 : Int32) (x2 : Int32) (x3 : Int32) (x4 : Int32) (x5 : Int32) (x6 : Int32) (x7 : Int32) (x11 : Int32) (μ : Mem) : T p l e (rmD 2) s m args below meth c 13 A dsM D ad cA enI (fX8_goes_J218 k11 x1 x2 x3 x4 x5 x6 x7 x11 μ) 218 [(0, .ref (ad 0)), (1, .int x1), (2, .int x2), (3, .int x3), (4, .int x4), (5, .int x5), (6, .int x6), (7, .int x7), (11, .int x11)] [] μ := by
  unfold fX8_goes_J218
  refine tt_iload C 8 dX8_goes_218 rfl ?_
  refine tt_bipush (v := (-4 : Int32)) C dX8_goes_220 (by decide) ?_
  refine tt_if (fun h1 => ?_) (fun h1 => ?_)
  · refine tt_icmp_eqT (tgt := 240) C h1 dX8_goes_222 (by decide) ?_
    refine tt_sub [0, 1, 2, 3, 4, 5, 6, 7] (L2 := [(0, .ref (ad 0)), (1, .int x1), (2, .int x2), (3, .int x3), (4, .int x4), (5, .int x5), (6, .int x6), (7, .int x7)]) rfl ?_
    exact wX8_goes_J240 C hr k11 hk11 x1 x2 x3 x4 x5 x6 x7 μ
  · refine tt_icmp_eqF C 240 h1 dX8_goes_222 (by decide) ?_
    refine tt_aload_n C 0 dX8_goes_225 rfl rfl ?_
    refine tt_getR C (j := 0) (r0 := 1) dM_0 rfl fl_RX8_7 dX8_goes_226 ?_
    refine tt_iload C 8 dX8_goes_229 rfl ?_
    refine tt_gr (fun h2 => ?_)
    refine tt_iald C dM_1 h2 dX8_goes_231 ?_
    refine tt_iconst (v := (4 : Int32)) C dX8_goes_232 (by decide) ?_
    refine tt_if (fun h3 => ?_) (fun h3 => ?_)
    · refine tt_icmp_neF C 240 h3 dX8_goes_233 (by decide) ?_
      refine tt_sub [0, 1, 2, 3, 4, 5, 6, 7] (L2 := [(0, .ref (ad 0)), (1, .int x1), (2, .int x2), (3, .int x3), (4, .int x4), (5, .int x5), (6, .int x6), (7, .int x7)]) rfl ?_
      exact wX8_goes_J236 C hr k11 hk11 x1 x2 x3 x4 x5 x6 x7 μ
    · refine tt_icmp_neT (tgt := 240) C h3 dX8_goes_233 (by decide) ?_
      refine tt_sub [0, 1, 2, 3, 4, 5, 6, 7] (L2 := [(0, .ref (ad 0)), (1, .int x1), (2, .int x2), (3, .int x3), (4, .int x4), (5, .int x5), (6, .int x6), (7, .int x7)]) rfl ?_
      exact wX8_goes_J240 C hr k11 hk11 x1 x2 x3 x4 x5 x6 x7 μ

def fX8_goes_J199 (k11 : Int32 → Int32 → Int32 → Int32 → Int32 → Int32 → Mem → Option (Int32 × Mem)) (x1 : Int32) (x2 : Int32) (x3 : Int32) (x4 : Int32) (x5 : Int32) (x6 : Int32) (x7 : Int32) (x11 : Int32) (μ : Mem) : Option (Int32 × Mem) := gr x7 160 <| if (μ 1 x7.toNatClampNeg) = (2 : Int32) then (if (20 : Int32) < (x3 - x2) then (fX8_goes_J236 k11 x1 x2 x3 x4 x5 x6 x7 μ) else (fX8_goes_J218 k11 x1 x2 x3 x4 x5 x6 x7 x11 μ)) else (fX8_goes_J218 k11 x1 x2 x3 x4 x5 x6 x7 x11 μ)
set_option maxHeartbeats 4000000 in
set_option maxRecDepth 100000 in
theorem wX8_goes_J199 {p : Program} {l : Launch} {e : Env} {s : State} {m : MethodId} {args : Array Value} {below : List Frame} {meth : Method} {c : Code} {A : Nat → Prop} {D : va_G} {ad : Nat → Nat} {cA : Nat → ClassId} (C : Cx p s m args meth c cX8_goes RX8 13 A dsM D ad cA EM) (hr : meth.sig.returnType = some .int) (k11 : Int32 → Int32 → Int32 → Int32 → Int32 → Int32 → Mem → Option (Int32 × Mem)) (hk11 : ∀ (x1 : Int32) (x2 : Int32) (x3 : Int32) (x4 : Int32) (x5 : Int32) (x6 : Int32) (μ : Mem), T p l e (rmD 2) s m args below meth c 13 A dsM D ad cA enI (k11 x1 x2 x3 x4 x5 x6 μ) 11 [(0, .ref (ad 0)), (1, .int x1), (2, .int x2), (3, .int x3), (4, .int x4), (5, .int x5), (6, .int x6)] [] μ) (x1 : Int32) (x2 : Int32) (x3 : Int32) (x4 : Int32) (x5 : Int32) (x6 : Int32) (x7 : Int32) (x11 : Int32) (μ : Mem) : T p l e (rmD 2) s m args below meth c 13 A dsM D ad cA enI (fX8_goes_J199 k11 x1 x2 x3 x4 x5 x6 x7 x11 μ) 199 [(0, .ref (ad 0)), (1, .int x1), (2, .int x2), (3, .int x3), (4, .int x4), (5, .int x5), (6, .int x6), (7, .int x7), (11, .int x11)] [] μ := by
  unfold fX8_goes_J199
  refine tt_aload_n C 0 dX8_goes_199 rfl rfl ?_
  refine tt_getR C (j := 0) (r0 := 1) dM_0 rfl fl_RX8_7 dX8_goes_200 ?_
  refine tt_iload C 7 dX8_goes_203 rfl ?_
  refine tt_gr (fun h1 => ?_)
  refine tt_iald C dM_1 h1 dX8_goes_205 ?_
  refine tt_iconst (v := (2 : Int32)) C dX8_goes_206 (by decide) ?_
  refine tt_if (fun h2 => ?_) (fun h2 => ?_)
  · refine tt_icmp_neF C 218 h2 dX8_goes_207 (by decide) ?_
    refine tt_iload_n C 3 dX8_goes_210 rfl rfl ?_
    refine tt_iload_n C 2 dX8_goes_211 rfl rfl ?_
    refine tt_isub C dX8_goes_212 ?_
    refine tt_bipush (v := (20 : Int32)) C dX8_goes_213 (by decide) ?_
    refine tt_if (fun h3 => ?_) (fun h3 => ?_)
    · refine tt_icmp_gtT (tgt := 236) C h3 dX8_goes_215 (by decide) ?_
      refine tt_sub [0, 1, 2, 3, 4, 5, 6, 7] (L2 := [(0, .ref (ad 0)), (1, .int x1), (2, .int x2), (3, .int x3), (4, .int x4), (5, .int x5), (6, .int x6), (7, .int x7)]) rfl ?_
      exact wX8_goes_J236 C hr k11 hk11 x1 x2 x3 x4 x5 x6 x7 μ
    · refine tt_icmp_gtF C 236 h3 dX8_goes_215 (by decide) ?_
      refine tt_sub [0, 1, 2, 3, 4, 5, 6, 7, 8] (L2 := [(0, .ref (ad 0)), (1, .int x1), (2, .int x2), (3, .int x3), (4, .int x4), (5, .int x5), (6, .int x6), (7, .int x7), (11, .int x11)]) rfl ?_
      exact wX8_goes_J218 C hr k11 hk11 x1 x2 x3 x4 x5 x6 x7 x11 μ
  · refine tt_icmp_neT (tgt := 218) C h2 dX8_goes_207 (by decide) ?_
    refine tt_sub [0, 1, 2, 3, 4, 5, 6, 7, 8] (L2 := [(0, .ref (ad 0)), (1, .int x1), (2, .int x2), (3, .int x3), (4, .int x4), (5, .int x5), (6, .int x6), (7, .int x7), (11, .int x11)]) rfl ?_
    exact wX8_goes_J218 C hr k11 hk11 x1 x2 x3 x4 x5 x6 x7 x11 μ

def fX8_goes_J90 (k11 : Int32 → Int32 → Int32 → Int32 → Int32 → Int32 → Mem → Option (Int32 × Mem)) (x1 : Int32) (x2 : Int32) (x3 : Int32) (x4 : Int32) (x6 : Int32) (x7 : Int32) (x8 : Int32) (x9 : Int32) (z0 : Int32) (μ : Mem) : Option (Int32 × Mem) := bi (fX8_rightAbove x7 x1 μ) fun v2 m1 => lb (x3 + ((x8 + x9) + z0)) fun (y3 : Int32) => lb (wr m1 0 30 ((m1 0 30) + x8)) fun m4 => lb (wr m4 0 29 ((m4 0 29) + x9)) fun m5 => lb (wr m5 0 31 ((m5 0 31) + z0)) fun m6 => gr x7 5 <| lb (wr m6 14 x7.toNatClampNeg y3) fun m7 => gr x7 5 <| lb (m7 4 x7.toNatClampNeg) fun (y8 : Int32) => lb (x4 &&& (((1 : Int32) <<< (x7 &&& 31)) ^^^ (-1 : Int32))) fun (y9 : Int32) => gr x7 160 <| if (m7 1 x7.toNatClampNeg) = (1 : Int32) then (bi (fX8_above x7 x1 m7) fun v11 m10 => bi (fX8_weightOf v11 m10) fun v13 m12 => if (5 : Int32) < v13 then (fX8_goes_J236 k11 x1 x2 y3 y9 y8 x6 x7 m12) else (fX8_goes_J199 k11 x1 x2 y3 y9 y8 x6 x7 v2 m12)) else (fX8_goes_J199 k11 x1 x2 y3 y9 y8 x6 x7 v2 m7)
set_option maxHeartbeats 4000000 in
set_option maxRecDepth 100000 in
theorem wX8_goes_J90 {p : Program} {l : Launch} {e : Env} {s : State} {m : MethodId} {args : Array Value} {below : List Frame} {meth : Method} {c : Code} {A : Nat → Prop} {D : va_G} {ad : Nat → Nat} {cA : Nat → ClassId} (C : Cx p s m args meth c cX8_goes RX8 13 A dsM D ad cA EM) (hr : meth.sig.returnType = some .int) (k11 : Int32 → Int32 → Int32 → Int32 → Int32 → Int32 → Mem → Option (Int32 × Mem)) (hk11 : ∀ (x1 : Int32) (x2 : Int32) (x3 : Int32) (x4 : Int32) (x5 : Int32) (x6 : Int32) (μ : Mem), T p l e (rmD 2) s m args below meth c 13 A dsM D ad cA enI (k11 x1 x2 x3 x4 x5 x6 μ) 11 [(0, .ref (ad 0)), (1, .int x1), (2, .int x2), (3, .int x3), (4, .int x4), (5, .int x5), (6, .int x6)] [] μ) (x1 : Int32) (x2 : Int32) (x3 : Int32) (x4 : Int32) (x6 : Int32) (x7 : Int32) (x8 : Int32) (x9 : Int32) (z0 : Int32) (μ : Mem) : T p l e (rmD 2) s m args below meth c 13 A dsM D ad cA enI (fX8_goes_J90 k11 x1 x2 x3 x4 x6 x7 x8 x9 z0 μ) 90 [(0, .ref (ad 0)), (1, .int x1), (2, .int x2), (3, .int x3), (4, .int x4), (6, .int x6), (7, .int x7), (8, .int x8), (9, .int x9)] [.int z0] μ := by
  unfold fX8_goes_J90
  refine tt_istore (L2 := [(10, .int z0), (0, .ref (ad 0)), (1, .int x1), (2, .int x2), (3, .int x3), (4, .int x4), (6, .int x6), (7, .int x7), (8, .int x8), (9, .int x9)]) C dX8_goes_90 (by decide) rfl ?_
  refine tt_aload_n C 1 dX8_goes_92 rfl rfl ?_
  refine tt_iload C 7 dX8_goes_93 rfl ?_
  refine tt_iload_n C 2 dX8_goes_95 rfl rfl ?_
  refine tt_bi (fun v2 m1 h1 => ?_)
  refine tt_callV (st := []) (As := [.int x7, .int x1]) C (kX8_rightAbove C.2.2.2.2.2.2.2.1 h1) mi_X8_rightAbove ml_RX8_233 mv_X8_rightAbove ms_X8_rightAbove (q := (RX8, TX8, 45)) dM_0 rfl rfl (by decide) (by decide) (Nat.le_of_ble_eq_true rfl) dX8_goes_96 ?_
  refine tt_istore (L2 := [(11, .int v2), (10, .int z0), (0, .ref (ad 0)), (1, .int x1), (2, .int x2), (3, .int x3), (4, .int x4), (6, .int x6), (7, .int x7), (8, .int x8), (9, .int x9)]) C dX8_goes_99 (by decide) rfl ?_
  refine tt_iload_n C 5 dX8_goes_101 rfl rfl ?_
  refine tt_iload C 9 dX8_goes_102 rfl ?_
  refine tt_iload C 10 dX8_goes_104 rfl ?_
  refine tt_iadd C dX8_goes_106 ?_
  refine tt_iload C 1 dX8_goes_107 rfl ?_
  refine tt_iadd C dX8_goes_109 ?_
  refine tt_iadd C dX8_goes_110 ?_
  refine tt_lbi (fun y3 => ?_)
  refine tt_istore_n (L2 := [(3, .int y3), (11, .int v2), (10, .int z0), (0, .ref (ad 0)), (1, .int x1), (2, .int x2), (4, .int x4), (6, .int x6), (7, .int x7), (8, .int x8), (9, .int x9)]) C dX8_goes_111 rfl (by decide) rfl ?_
  refine tt_aload_n C 3 dX8_goes_112 rfl rfl ?_
  refine tt_dup C dX8_goes_113 rfl ?_
  refine tt_getI C (j := 30) dM_0 rfl fl_RX8_215 dX8_goes_114 ?_
  refine tt_iload C 9 dX8_goes_117 rfl ?_
  refine tt_iadd C dX8_goes_119 ?_
  refine tt_putI C (j := 30) dM_0 rfl fl_RX8_215 fw_8_30 dX8_goes_120 ?_
  refine tt_lbm (fun m4 => ?_)
  refine tt_aload_n C 3 dX8_goes_123 rfl rfl ?_
  refine tt_dup C dX8_goes_124 rfl ?_
  refine tt_getI C (j := 29) dM_0 rfl fl_RX8_212 dX8_goes_125 ?_
  refine tt_iload C 10 dX8_goes_128 rfl ?_
  refine tt_iadd C dX8_goes_130 ?_
  refine tt_putI C (j := 29) dM_0 rfl fl_RX8_212 fw_8_29 dX8_goes_131 ?_
  refine tt_lbm (fun m5 => ?_)
  refine tt_aload_n C 3 dX8_goes_134 rfl rfl ?_
  refine tt_dup C dX8_goes_135 rfl ?_
  refine tt_getI C (j := 31) dM_0 rfl fl_RX8_218 dX8_goes_136 ?_
  refine tt_iload C 2 dX8_goes_139 rfl ?_
  refine tt_iadd C dX8_goes_141 ?_
  refine tt_putI C (j := 31) dM_0 rfl fl_RX8_218 fw_8_31 dX8_goes_142 ?_
  refine tt_lbm (fun m6 => ?_)
  refine tt_aload_n C 3 dX8_goes_145 rfl rfl ?_
  refine tt_getR C (j := 28) (r0 := 14) dM_0 rfl fl_RX8_49 dX8_goes_146 ?_
  refine tt_iload C 8 dX8_goes_149 rfl ?_
  refine tt_iload_n C 0 dX8_goes_151 rfl rfl ?_
  refine tt_gr (fun h2 => ?_)
  refine tt_iast C dM_14 h2 dX8_goes_152 ?_
  refine tt_lbm (fun m7 => ?_)
  refine tt_aload_n C 3 dX8_goes_153 rfl rfl ?_
  refine tt_getR C (j := 4) (r0 := 4) dM_0 rfl fl_RX8_19 dX8_goes_154 ?_
  refine tt_iload C 8 dX8_goes_157 rfl ?_
  refine tt_gr (fun h3 => ?_)
  refine tt_iald C dM_4 h3 dX8_goes_159 ?_
  refine tt_lbi (fun y8 => ?_)
  refine tt_istore (L2 := [(5, .int y8), (3, .int y3), (11, .int v2), (10, .int z0), (0, .ref (ad 0)), (1, .int x1), (2, .int x2), (4, .int x4), (6, .int x6), (7, .int x7), (8, .int x8), (9, .int x9)]) C dX8_goes_160 (by decide) rfl ?_
  refine tt_iload C 7 dX8_goes_162 rfl ?_
  refine tt_iconst (v := (1 : Int32)) C dX8_goes_164 (by decide) ?_
  refine tt_iload C 9 dX8_goes_165 rfl ?_
  refine tt_ishl C dX8_goes_167 ?_
  refine tt_iconst (v := (-1 : Int32)) C dX8_goes_168 (by decide) ?_
  refine tt_ixor C dX8_goes_169 ?_
  refine tt_iand C dX8_goes_170 ?_
  refine tt_lbi (fun y9 => ?_)
  refine tt_istore (L2 := [(4, .int y9), (5, .int y8), (3, .int y3), (11, .int v2), (10, .int z0), (0, .ref (ad 0)), (1, .int x1), (2, .int x2), (6, .int x6), (7, .int x7), (8, .int x8), (9, .int x9)]) C dX8_goes_171 (by decide) rfl ?_
  refine tt_aload_n C 5 dX8_goes_173 rfl rfl ?_
  refine tt_getR C (j := 0) (r0 := 1) dM_0 rfl fl_RX8_7 dX8_goes_174 ?_
  refine tt_iload C 9 dX8_goes_177 rfl ?_
  refine tt_gr (fun h4 => ?_)
  refine tt_iald C dM_1 h4 dX8_goes_179 ?_
  refine tt_iconst (v := (1 : Int32)) C dX8_goes_180 (by decide) ?_
  refine tt_if (fun h5 => ?_) (fun h5 => ?_)
  · refine tt_icmp_neF C 199 h5 dX8_goes_181 (by decide) ?_
    refine tt_aload_n C 5 dX8_goes_184 rfl rfl ?_
    refine tt_aload_n C 5 dX8_goes_185 rfl rfl ?_
    refine tt_iload C 9 dX8_goes_186 rfl ?_
    refine tt_iload_n C 6 dX8_goes_188 rfl rfl ?_
    refine tt_bi (fun v11 m10 h6 => ?_)
    refine tt_callV (st := [.ref (ad 0)]) (As := [.int x7, .int x1]) C (kX8_above C.2.2.2.2.2.2.2.1 h6) mi_X8_above ml_RX8_227 mv_X8_above ms_X8_above (q := (RX8, TX8, 45)) dM_0 rfl rfl (by decide) (by decide) (Nat.le_of_ble_eq_true rfl) dX8_goes_189 ?_
    refine tt_bi (fun v13 m12 h7 => ?_)
    refine tt_callV (st := []) (As := [.int v11]) C (kX8_weightOf C.2.2.2.2.2.2.2.1 h7) mi_X8_weightOf ml_RX8_182 mv_X8_weightOf ms_X8_weightOf (q := (RX8, TX8, 45)) dM_0 rfl rfl (by decide) (by decide) (Nat.le_of_ble_eq_true rfl) dX8_goes_192 ?_
    refine tt_iconst (v := (5 : Int32)) C dX8_goes_195 (by decide) ?_
    refine tt_if (fun h8 => ?_) (fun h8 => ?_)
    · refine tt_icmp_gtT (tgt := 236) C h8 dX8_goes_196 (by decide) ?_
      refine tt_sub [5, 6, 7, 2, 0, 1, 8, 9] (L2 := [(0, .ref (ad 0)), (1, .int x1), (2, .int x2), (3, .int y3), (4, .int y9), (5, .int y8), (6, .int x6), (7, .int x7)]) rfl ?_
      exact wX8_goes_J236 C hr k11 hk11 x1 x2 y3 y9 y8 x6 x7 m12
    · refine tt_icmp_gtF C 236 h8 dX8_goes_196 (by decide) ?_
      refine tt_sub [5, 6, 7, 2, 0, 1, 8, 9, 3] (L2 := [(0, .ref (ad 0)), (1, .int x1), (2, .int x2), (3, .int y3), (4, .int y9), (5, .int y8), (6, .int x6), (7, .int x7), (11, .int v2)]) rfl ?_
      exact wX8_goes_J199 C hr k11 hk11 x1 x2 y3 y9 y8 x6 x7 v2 m12
  · refine tt_icmp_neT (tgt := 199) C h5 dX8_goes_181 (by decide) ?_
    refine tt_sub [5, 6, 7, 2, 0, 1, 8, 9, 3] (L2 := [(0, .ref (ad 0)), (1, .int x1), (2, .int x2), (3, .int y3), (4, .int y9), (5, .int y8), (6, .int x6), (7, .int x7), (11, .int v2)]) rfl ?_
    exact wX8_goes_J199 C hr k11 hk11 x1 x2 y3 y9 y8 x6 x7 v2 m7

def fX8_goes_L11 : Nat → Int32 → Int32 → Int32 → Int32 → Int32 → Int32 → Mem → Option (Int32 × Mem)
  | 0, _, _, _, _, _, _, _ => none
  | fu + 1, x1, x2, x3, x4, x5, x6, μ => if (μ 0 5) ≤ x6 then (bi (fX8_wayOf x5 (0 : Int32) (0 : Int32) μ) fun v2 m1 => lb (wr m1 0 30 ((m1 0 30) + v2)) fun m3 => some ((x3 + v2), m3)) else (bi (fX8_at (25 : Int32) x6 μ) fun v5 m4 => if ((x1 >>> (v5 &&& 31)) &&& (1 : Int32)) = (1 : Int32) then (gr v5 5 <| bi (fX8_weightOf x4 m4) fun v7 m6 => bi (fX8_wayOf x5 (m4 4 v5.toNatClampNeg) v7 m6) fun v9 m8 => bi (fX8_above v5 x4 m8) fun v11 m10 => bi (fX8_bitsOf v11 m10) fun v13 m12 => gr v5 160 <| if (m12 1 v5.toNatClampNeg) = (3 : Int32) then (fX8_goes_J90 (fun x1 x2 x3 x4 x5 x6 μ => fX8_goes_L11 fu x1 x2 x3 x4 x5 x6 μ) x1 x2 x3 x4 x6 v5 v9 v13 (2 : Int32) m12) else (fX8_goes_J90 (fun x1 x2 x3 x4 x5 x6 μ => fX8_goes_L11 fu x1 x2 x3 x4 x5 x6 μ) x1 x2 x3 x4 x6 v5 v9 v13 (1 : Int32) m12)) else (fX8_goes_J296 (fun x1 x2 x3 x4 x5 x6 μ => fX8_goes_L11 fu x1 x2 x3 x4 x5 x6 μ) x1 x2 x3 x4 x5 x6 m4))
set_option maxHeartbeats 4000000 in
set_option maxRecDepth 100000 in
theorem wX8_goes_L11 {p : Program} {l : Launch} {e : Env} {s : State} {m : MethodId} {args : Array Value} {below : List Frame} {meth : Method} {c : Code} {A : Nat → Prop} {D : va_G} {ad : Nat → Nat} {cA : Nat → ClassId} (C : Cx p s m args meth c cX8_goes RX8 13 A dsM D ad cA EM) (hr : meth.sig.returnType = some .int) : ∀ (fu : Nat) (x1 : Int32) (x2 : Int32) (x3 : Int32) (x4 : Int32) (x5 : Int32) (x6 : Int32) (μ : Mem), T p l e (rmD 2) s m args below meth c 13 A dsM D ad cA enI (fX8_goes_L11 fu x1 x2 x3 x4 x5 x6 μ) 11 [(0, .ref (ad 0)), (1, .int x1), (2, .int x2), (3, .int x3), (4, .int x4), (5, .int x5), (6, .int x6)] [] μ
  | 0, _, _, _, _, _, _, _ => tt_none
  | fu + 1, x1, x2, x3, x4, x5, x6, μ => by
    have ih := fun (x1 : Int32) (x2 : Int32) (x3 : Int32) (x4 : Int32) (x5 : Int32) (x6 : Int32) (μ : Mem) => wX8_goes_L11 (l := l) (e := e) (below := below) C hr fu x1 x2 x3 x4 x5 x6 μ
    show T p l e (rmD 2) s m args below meth c 13 A dsM D ad cA enI (if (μ 0 5) ≤ x6 then (bi (fX8_wayOf x5 (0 : Int32) (0 : Int32) μ) fun v2 m1 => lb (wr m1 0 30 ((m1 0 30) + v2)) fun m3 => some ((x3 + v2), m3)) else (bi (fX8_at (25 : Int32) x6 μ) fun v5 m4 => if ((x1 >>> (v5 &&& 31)) &&& (1 : Int32)) = (1 : Int32) then (gr v5 5 <| bi (fX8_weightOf x4 m4) fun v7 m6 => bi (fX8_wayOf x5 (m4 4 v5.toNatClampNeg) v7 m6) fun v9 m8 => bi (fX8_above v5 x4 m8) fun v11 m10 => bi (fX8_bitsOf v11 m10) fun v13 m12 => gr v5 160 <| if (m12 1 v5.toNatClampNeg) = (3 : Int32) then (fX8_goes_J90 (fun x1 x2 x3 x4 x5 x6 μ => fX8_goes_L11 fu x1 x2 x3 x4 x5 x6 μ) x1 x2 x3 x4 x6 v5 v9 v13 (2 : Int32) m12) else (fX8_goes_J90 (fun x1 x2 x3 x4 x5 x6 μ => fX8_goes_L11 fu x1 x2 x3 x4 x5 x6 μ) x1 x2 x3 x4 x6 v5 v9 v13 (1 : Int32) m12)) else (fX8_goes_J296 (fun x1 x2 x3 x4 x5 x6 μ => fX8_goes_L11 fu x1 x2 x3 x4 x5 x6 μ) x1 x2 x3 x4 x5 x6 m4))) 11 [(0, .ref (ad 0)), (1, .int x1), (2, .int x2), (3, .int x3), (4, .int x4), (5, .int x5), (6, .int x6)] [] μ
    refine tt_iload C 6 dX8_goes_11 rfl ?_
    refine tt_aload_n C 0 dX8_goes_13 rfl rfl ?_
    refine tt_getI C (j := 5) dM_0 rfl fl_RX8_167 dX8_goes_14 ?_
    refine tt_if (fun h1 => ?_) (fun h1 => ?_)
    · refine tt_icmp_geT (tgt := 302) C h1 dX8_goes_17 (by decide) ?_
      refine tt_aload_n C 0 dX8_goes_302 rfl rfl ?_
      refine tt_iload C 5 dX8_goes_303 rfl ?_
      refine tt_iconst (v := (0 : Int32)) C dX8_goes_305 (by decide) ?_
      refine tt_iconst (v := (0 : Int32)) C dX8_goes_306 (by decide) ?_
      refine tt_bi (fun v2 m1 h2 => ?_)
      refine tt_callV (st := []) (As := [.int x5, .int (0 : Int32), .int (0 : Int32)]) C (kX8_wayOf C.2.2.2.2.2.2.2.1 h2) mi_X8_wayOf ml_RX8_209 mv_X8_wayOf ms_X8_wayOf (q := (RX8, TX8, 45)) dM_0 rfl rfl (by decide) (by decide) (Nat.le_of_ble_eq_true rfl) dX8_goes_307 ?_
      refine tt_istore (L2 := [(6, .int v2), (0, .ref (ad 0)), (1, .int x1), (2, .int x2), (3, .int x3), (4, .int x4), (5, .int x5)]) C dX8_goes_310 (by decide) rfl ?_
      refine tt_aload_n C 1 dX8_goes_312 rfl rfl ?_
      refine tt_dup C dX8_goes_313 rfl ?_
      refine tt_getI C (j := 30) dM_0 rfl fl_RX8_215 dX8_goes_314 ?_
      refine tt_iload C 0 dX8_goes_317 rfl ?_
      refine tt_iadd C dX8_goes_319 ?_
      refine tt_putI C (j := 30) dM_0 rfl fl_RX8_215 fw_8_30 dX8_goes_320 ?_
      refine tt_lbm (fun m3 => ?_)
      refine tt_iload_n C 4 dX8_goes_323 rfl rfl ?_
      refine tt_iload C 0 dX8_goes_324 rfl ?_
      refine tt_iadd C dX8_goes_326 ?_
      exact tt_iret rfl C hr dX8_goes_327
    · refine tt_icmp_geF C 302 h1 dX8_goes_17 (by decide) ?_
      refine tt_aload_n C 0 dX8_goes_20 rfl rfl ?_
      refine tt_bipush (v := (25 : Int32)) C dX8_goes_21 (by decide) ?_
      refine tt_iload C 6 dX8_goes_23 rfl ?_
      refine tt_bi (fun v5 m4 h3 => ?_)
      refine tt_callV (st := []) (As := [.int (25 : Int32), .int x6]) C (kX8_at C.2.2.2.2.2.2.2.1 h3) mi_X8_at ml_RX8_173 mv_X8_at ms_X8_at (q := (RX8, TX8, 45)) dM_0 rfl rfl (by decide) (by decide) (Nat.le_of_ble_eq_true rfl) dX8_goes_25 ?_
      refine tt_istore (L2 := [(7, .int v5), (0, .ref (ad 0)), (1, .int x1), (2, .int x2), (3, .int x3), (4, .int x4), (5, .int x5), (6, .int x6)]) C dX8_goes_28 (by decide) rfl ?_
      refine tt_iload_n C 2 dX8_goes_30 rfl rfl ?_
      refine tt_iload C 0 dX8_goes_31 rfl ?_
      refine tt_ishr C dX8_goes_33 ?_
      refine tt_iconst (v := (1 : Int32)) C dX8_goes_34 (by decide) ?_
      refine tt_iand C dX8_goes_35 ?_
      refine tt_iconst (v := (1 : Int32)) C dX8_goes_36 (by decide) ?_
      refine tt_if (fun h4 => ?_) (fun h4 => ?_)
      · refine tt_icmp_neF C 296 h4 dX8_goes_37 (by decide) ?_
        refine tt_aload_n C 1 dX8_goes_40 rfl rfl ?_
        refine tt_iload C 6 dX8_goes_41 rfl ?_
        refine tt_aload_n C 1 dX8_goes_43 rfl rfl ?_
        refine tt_getR C (j := 4) (r0 := 4) dM_0 rfl fl_RX8_19 dX8_goes_44 ?_
        refine tt_iload C 0 dX8_goes_47 rfl ?_
        refine tt_gr (fun h5 => ?_)
        refine tt_iald C dM_4 h5 dX8_goes_49 ?_
        refine tt_aload_n C 1 dX8_goes_50 rfl rfl ?_
        refine tt_iload C 5 dX8_goes_51 rfl ?_
        refine tt_bi (fun v7 m6 h6 => ?_)
        refine tt_callV (st := [.int (m4 4 v5.toNatClampNeg), .int x5, .ref (ad 0)]) (As := [.int x4]) C (kX8_weightOf C.2.2.2.2.2.2.2.1 h6) mi_X8_weightOf ml_RX8_182 mv_X8_weightOf ms_X8_weightOf (q := (RX8, TX8, 45)) dM_0 rfl rfl (by decide) (by decide) (Nat.le_of_ble_eq_true rfl) dX8_goes_53 ?_
        refine tt_bi (fun v9 m8 h7 => ?_)
        refine tt_callV (st := []) (As := [.int x5, .int (m4 4 v5.toNatClampNeg), .int v7]) C (kX8_wayOf C.2.2.2.2.2.2.2.1 h7) mi_X8_wayOf ml_RX8_209 mv_X8_wayOf ms_X8_wayOf (q := (RX8, TX8, 45)) dM_0 rfl rfl (by decide) (by decide) (Nat.le_of_ble_eq_true rfl) dX8_goes_56 ?_
        refine tt_istore (L2 := [(8, .int v9), (7, .int v5), (0, .ref (ad 0)), (1, .int x1), (2, .int x2), (3, .int x3), (4, .int x4), (5, .int x5), (6, .int x6)]) C dX8_goes_59 (by decide) rfl ?_
        refine tt_aload_n C 2 dX8_goes_61 rfl rfl ?_
        refine tt_iload C 1 dX8_goes_62 rfl ?_
        refine tt_iload C 6 dX8_goes_64 rfl ?_
        refine tt_bi (fun v11 m10 h8 => ?_)
        refine tt_callV (st := []) (As := [.int v5, .int x4]) C (kX8_above C.2.2.2.2.2.2.2.1 h8) mi_X8_above ml_RX8_227 mv_X8_above ms_X8_above (q := (RX8, TX8, 45)) dM_0 rfl rfl (by decide) (by decide) (Nat.le_of_ble_eq_true rfl) dX8_goes_66 ?_
        refine tt_bi (fun v13 m12 h9 => ?_)
        refine tt_callS (st := []) (As := [.int v11]) C (kX8_bitsOf C.2.2.2.2.2.2.2.1 h9) mi_X8_bitsOf ml_RX8_230 mt_X8_bitsOf rfl (by decide) (by decide) (Nat.le_of_ble_eq_true rfl) dX8_goes_69 ?_
        refine tt_istore (L2 := [(9, .int v13), (8, .int v9), (7, .int v5), (0, .ref (ad 0)), (1, .int x1), (2, .int x2), (3, .int x3), (4, .int x4), (5, .int x5), (6, .int x6)]) C dX8_goes_72 (by decide) rfl ?_
        refine tt_aload_n C 3 dX8_goes_74 rfl rfl ?_
        refine tt_getR C (j := 0) (r0 := 1) dM_0 rfl fl_RX8_7 dX8_goes_75 ?_
        refine tt_iload C 2 dX8_goes_78 rfl ?_
        refine tt_gr (fun h10 => ?_)
        refine tt_iald C dM_1 h10 dX8_goes_80 ?_
        refine tt_iconst (v := (3 : Int32)) C dX8_goes_81 (by decide) ?_
        refine tt_if (fun h11 => ?_) (fun h11 => ?_)
        · refine tt_icmp_neF C 89 h11 dX8_goes_82 (by decide) ?_
          refine tt_iconst (v := (2 : Int32)) C dX8_goes_85 (by decide) ?_
          refine tt_goto (tgt := 90) C dX8_goes_86 (by decide) ?_
          refine tt_sub [3, 4, 5, 6, 7, 9, 2, 1, 0] (L2 := [(0, .ref (ad 0)), (1, .int x1), (2, .int x2), (3, .int x3), (4, .int x4), (6, .int x6), (7, .int v5), (8, .int v9), (9, .int v13)]) rfl ?_
          exact wX8_goes_J90 C hr (fun x1 x2 x3 x4 x5 x6 μ => fX8_goes_L11 fu x1 x2 x3 x4 x5 x6 μ) (fun x1 x2 x3 x4 x5 x6 μ => ih x1 x2 x3 x4 x5 x6 μ) x1 x2 x3 x4 x6 v5 v9 v13 (2 : Int32) m12
        · refine tt_icmp_neT (tgt := 89) C h11 dX8_goes_82 (by decide) ?_
          refine tt_iconst (v := (1 : Int32)) C dX8_goes_89 (by decide) ?_
          refine tt_sub [3, 4, 5, 6, 7, 9, 2, 1, 0] (L2 := [(0, .ref (ad 0)), (1, .int x1), (2, .int x2), (3, .int x3), (4, .int x4), (6, .int x6), (7, .int v5), (8, .int v9), (9, .int v13)]) rfl ?_
          exact wX8_goes_J90 C hr (fun x1 x2 x3 x4 x5 x6 μ => fX8_goes_L11 fu x1 x2 x3 x4 x5 x6 μ) (fun x1 x2 x3 x4 x5 x6 μ => ih x1 x2 x3 x4 x5 x6 μ) x1 x2 x3 x4 x6 v5 v9 v13 (1 : Int32) m12
      · refine tt_icmp_neT (tgt := 296) C h4 dX8_goes_37 (by decide) ?_
        refine tt_sub [1, 2, 3, 4, 5, 6, 7] (L2 := [(0, .ref (ad 0)), (1, .int x1), (2, .int x2), (3, .int x3), (4, .int x4), (5, .int x5), (6, .int x6)]) rfl ?_
        exact wX8_goes_J296 C hr (fun x1 x2 x3 x4 x5 x6 μ => fX8_goes_L11 fu x1 x2 x3 x4 x5 x6 μ) (fun x1 x2 x3 x4 x5 x6 μ => ih x1 x2 x3 x4 x5 x6 μ) x1 x2 x3 x4 x5 x6 m4

def fX8_goes (x1 : Int32) (x2 : Int32) (μ : Mem) : Option (Int32 × Mem) := lb (0 : Int32) fun (y1 : Int32) => lb (0 : Int32) fun (y2 : Int32) => fX8_goes_L11 FU x1 x2 x2 x1 y1 y2 μ
set_option maxHeartbeats 4000000 in
set_option maxRecDepth 100000 in
theorem wX8_goes {p : Program} {l : Launch} {e : Env} {s : State} {m : MethodId} {args : Array Value} {below : List Frame} {meth : Method} {c : Code} {A : Nat → Prop} {D : va_G} {ad : Nat → Nat} {cA : Nat → ClassId} (C : Cx p s m args meth c cX8_goes RX8 13 A dsM D ad cA EM) (hr : meth.sig.returnType = some .int) (x1 : Int32) (x2 : Int32) (μ : Mem) : T p l e (rmD 2) s m args below meth c 13 A dsM D ad cA enI (fX8_goes x1 x2 μ) 0 [(0, .ref (ad 0)), (1, .int x1), (2, .int x2)] [] μ := by
  unfold fX8_goes
  refine tt_iload_n C 2 dX8_goes_0 rfl rfl ?_
  refine tt_istore_n (L2 := [(3, .int x2), (0, .ref (ad 0)), (1, .int x1), (2, .int x2)]) C dX8_goes_1 rfl (by decide) rfl ?_
  refine tt_iload_n C 2 dX8_goes_2 rfl rfl ?_
  refine tt_istore (L2 := [(4, .int x1), (3, .int x2), (0, .ref (ad 0)), (1, .int x1), (2, .int x2)]) C dX8_goes_3 (by decide) rfl ?_
  refine tt_iconst (v := (0 : Int32)) C dX8_goes_5 (by decide) ?_
  refine tt_lbi (fun y1 => ?_)
  refine tt_istore (L2 := [(5, .int y1), (4, .int x1), (3, .int x2), (0, .ref (ad 0)), (1, .int x1), (2, .int x2)]) C dX8_goes_6 (by decide) rfl ?_
  refine tt_iconst (v := (0 : Int32)) C dX8_goes_8 (by decide) ?_
  refine tt_lbi (fun y2 => ?_)
  refine tt_istore (L2 := [(6, .int y2), (5, .int y1), (4, .int x1), (3, .int x2), (0, .ref (ad 0)), (1, .int x1), (2, .int x2)]) C dX8_goes_9 (by decide) rfl ?_
  refine tt_sub [4, 5, 6, 3, 2, 1, 0] (L2 := [(0, .ref (ad 0)), (1, .int x1), (2, .int x2), (3, .int x2), (4, .int x1), (5, .int y1), (6, .int y2)]) rfl ?_
  exact wX8_goes_L11 C hr FU x1 x2 x2 x1 y1 y2 μ
theorem kX8_goes {l : Launch} {A : Nat → Prop} {D : va_G} {ad : Nat → Nat} {cA : Nat → ClassId} (hPk : Pk A dsM ad cA EM) {x1 : Int32} {x2 : Int32} {μ : Mem} {v : Int32} {ν : Mem} (h : fX8_goes x1 x2 μ = some (v, ν)) : Ct l A dsM D ad cA EM yX8_goes cX8_goes 13 (some .int) 2 [.ref (ad 0), .int x1, .int x2] μ (enI (v, ν)) :=
  ct_of (by decide) (Nat.le_of_ble_eq_true rfl) hPk rfl (fun p e s m args below meth c C hr => wX8_goes C hr x1 x2 μ) h

/-! BasketRoundModel.wholeRound()I -/
def fX8_wholeRound (μ : Mem) : Option (Int32 × Mem) := bv (fX8_clears μ) fun m1 => bi (fX8_every m1) fun v3 m2 => gr (31 : Int32) 160 <| bi (fX8_goes v3 (m2 1 (31 : Int32).toNatClampNeg) m2) fun v5 m4 => some (v5, m4)
set_option maxHeartbeats 4000000 in
set_option maxRecDepth 100000 in
theorem wX8_wholeRound {p : Program} {l : Launch} {e : Env} {s : State} {m : MethodId} {args : Array Value} {below : List Frame} {meth : Method} {c : Code} {A : Nat → Prop} {D : va_G} {ad : Nat → Nat} {cA : Nat → ClassId} (C : Cx p s m args meth c cX8_wholeRound RX8 1 A dsM D ad cA EM) (hr : meth.sig.returnType = some .int) (μ : Mem) : T p l e (rmD 3) s m args below meth c 1 A dsM D ad cA enI (fX8_wholeRound μ) 0 [(0, .ref (ad 0))] [] μ := by
  unfold fX8_wholeRound
  refine tt_aload_n C 0 dX8_wholeRound_0 rfl rfl ?_
  refine tt_bv (fun m1 h1 => ?_)
  refine tt_callV (st := []) (As := []) C (kX8_clears C.2.2.2.2.2.2.2.1 h1) mi_X8_clears ml_RX8_236 mv_X8_clears ms_X8_clears (q := (RX8, TX8, 45)) dM_0 rfl rfl (by decide) (by decide) (Nat.le_of_ble_eq_true rfl) dX8_wholeRound_1 ?_
  refine tt_aload_n C 0 dX8_wholeRound_4 rfl rfl ?_
  refine tt_aload_n C 0 dX8_wholeRound_5 rfl rfl ?_
  refine tt_bi (fun v3 m2 h2 => ?_)
  refine tt_callV (st := [.ref (ad 0)]) (As := []) C (kX8_every C.2.2.2.2.2.2.2.1 h2) mi_X8_every ml_RX8_239 mv_X8_every ms_X8_every (q := (RX8, TX8, 45)) dM_0 rfl rfl (by decide) (by decide) (Nat.le_of_ble_eq_true rfl) dX8_wholeRound_6 ?_
  refine tt_aload_n C 0 dX8_wholeRound_9 rfl rfl ?_
  refine tt_getR C (j := 0) (r0 := 1) dM_0 rfl fl_RX8_7 dX8_wholeRound_10 ?_
  refine tt_bipush (v := (31 : Int32)) C dX8_wholeRound_13 (by decide) ?_
  refine tt_gr (fun h3 => ?_)
  refine tt_iald C dM_1 h3 dX8_wholeRound_15 ?_
  refine tt_bi (fun v5 m4 h4 => ?_)
  refine tt_callV (st := []) (As := [.int v3, .int (m2 1 (31 : Int32).toNatClampNeg)]) C (kX8_goes C.2.2.2.2.2.2.2.1 h4) mi_X8_goes ml_RX8_242 mv_X8_goes ms_X8_goes (q := (RX8, TX8, 45)) dM_0 rfl rfl (by decide) (by decide) (Nat.le_of_ble_eq_true rfl) dX8_wholeRound_16 ?_
  exact tt_iret rfl C hr dX8_wholeRound_19
theorem kX8_wholeRound {l : Launch} {A : Nat → Prop} {D : va_G} {ad : Nat → Nat} {cA : Nat → ClassId} (hPk : Pk A dsM ad cA EM) {μ : Mem} {v : Int32} {ν : Mem} (h : fX8_wholeRound μ = some (v, ν)) : Ct l A dsM D ad cA EM yX8_wholeRound cX8_wholeRound 1 (some .int) 3 [.ref (ad 0)] μ (enI (v, ν)) :=
  ct_of (by decide) (Nat.le_of_ble_eq_true rfl) hPk rfl (fun p e s m args below meth c C hr => wX8_wholeRound C hr μ) h

/-! BasketRoundModel.penniesOf(I)I -/
def fX8_penniesOf_J49 (k4 : Int32 → Int32 → Int32 → Mem → Option (Int32 × Mem)) (x1 : Int32) (x3 : Int32) (z0 : Int32) (z1 : Int32) (μ : Mem) : Option (Int32 × Mem) := lb (z0 + z1) fun (y1 : Int32) => lb (x3 + (1 : Int32)) fun (y2 : Int32) => k4 x1 y1 y2 μ
set_option maxHeartbeats 4000000 in
set_option maxRecDepth 100000 in
theorem wX8_penniesOf_J49 {p : Program} {l : Launch} {e : Env} {s : State} {m : MethodId} {args : Array Value} {below : List Frame} {meth : Method} {c : Code} {A : Nat → Prop} {D : va_G} {ad : Nat → Nat} {cA : Nat → ClassId} (C : Cx p s m args meth c cX8_penniesOf RX8 4 A dsM D ad cA EM) (hr : meth.sig.returnType = some .int) (k4 : Int32 → Int32 → Int32 → Mem → Option (Int32 × Mem)) (hk4 : ∀ (x1 : Int32) (x2 : Int32) (x3 : Int32) (μ : Mem), T p l e (rmD 0) s m args below meth c 4 A dsM D ad cA enI (k4 x1 x2 x3 μ) 4 [(0, .ref (ad 0)), (1, .int x1), (2, .int x2), (3, .int x3)] [] μ) (x1 : Int32) (x3 : Int32) (z0 : Int32) (z1 : Int32) (μ : Mem) : T p l e (rmD 0) s m args below meth c 4 A dsM D ad cA enI (fX8_penniesOf_J49 k4 x1 x3 z0 z1 μ) 49 [(0, .ref (ad 0)), (1, .int x1), (3, .int x3)] [.int z1, .int z0] μ := by
  unfold fX8_penniesOf_J49
  refine tt_iadd C dX8_penniesOf_49 ?_
  refine tt_lbi (fun y1 => ?_)
  refine tt_istore_n (L2 := [(2, .int y1), (0, .ref (ad 0)), (1, .int x1), (3, .int x3)]) C dX8_penniesOf_50 rfl (by decide) rfl ?_
  refine tt_iincB (d := (1 : Int32)) C 3 (fun y2 => [(3, .int y2), (2, .int y1), (0, .ref (ad 0)), (1, .int x1)]) dX8_penniesOf_51 rfl (by decide) (by decide) (fun _ => rfl) (fun y2 => ?_)
  refine tt_goto (tgt := 4) C dX8_penniesOf_54 (by decide) ?_
  refine tt_sub [2, 3, 1, 0] (L2 := [(0, .ref (ad 0)), (1, .int x1), (2, .int y1), (3, .int y2)]) rfl ?_
  exact hk4 x1 y1 y2 μ

def fX8_penniesOf_L4 : Nat → Int32 → Int32 → Int32 → Mem → Option (Int32 × Mem)
  | 0, _, _, _, _ => none
  | fu + 1, x1, x2, x3, μ => if (μ 0 5) ≤ x3 then (some (x2, μ)) else (if ((((x1 &&& ((μ 0 32) ^^^ (-1 : Int32))) &&& ((μ 0 33) ^^^ (-1 : Int32))) >>> (x3 &&& 31)) &&& (1 : Int32)) = (1 : Int32) then (gr ((10 : Int32) + x3) 160 <| fX8_penniesOf_J49 (fun x1 x2 x3 μ => fX8_penniesOf_L4 fu x1 x2 x3 μ) x1 x3 x2 (μ 1 ((10 : Int32) + x3).toNatClampNeg) μ) else (fX8_penniesOf_J49 (fun x1 x2 x3 μ => fX8_penniesOf_L4 fu x1 x2 x3 μ) x1 x3 x2 (0 : Int32) μ))
set_option maxHeartbeats 4000000 in
set_option maxRecDepth 100000 in
theorem wX8_penniesOf_L4 {p : Program} {l : Launch} {e : Env} {s : State} {m : MethodId} {args : Array Value} {below : List Frame} {meth : Method} {c : Code} {A : Nat → Prop} {D : va_G} {ad : Nat → Nat} {cA : Nat → ClassId} (C : Cx p s m args meth c cX8_penniesOf RX8 4 A dsM D ad cA EM) (hr : meth.sig.returnType = some .int) : ∀ (fu : Nat) (x1 : Int32) (x2 : Int32) (x3 : Int32) (μ : Mem), T p l e (rmD 0) s m args below meth c 4 A dsM D ad cA enI (fX8_penniesOf_L4 fu x1 x2 x3 μ) 4 [(0, .ref (ad 0)), (1, .int x1), (2, .int x2), (3, .int x3)] [] μ
  | 0, _, _, _, _ => tt_none
  | fu + 1, x1, x2, x3, μ => by
    have ih := fun (x1 : Int32) (x2 : Int32) (x3 : Int32) (μ : Mem) => wX8_penniesOf_L4 (l := l) (e := e) (below := below) C hr fu x1 x2 x3 μ
    show T p l e (rmD 0) s m args below meth c 4 A dsM D ad cA enI (if (μ 0 5) ≤ x3 then (some (x2, μ)) else (if ((((x1 &&& ((μ 0 32) ^^^ (-1 : Int32))) &&& ((μ 0 33) ^^^ (-1 : Int32))) >>> (x3 &&& 31)) &&& (1 : Int32)) = (1 : Int32) then (gr ((10 : Int32) + x3) 160 <| fX8_penniesOf_J49 (fun x1 x2 x3 μ => fX8_penniesOf_L4 fu x1 x2 x3 μ) x1 x3 x2 (μ 1 ((10 : Int32) + x3).toNatClampNeg) μ) else (fX8_penniesOf_J49 (fun x1 x2 x3 μ => fX8_penniesOf_L4 fu x1 x2 x3 μ) x1 x3 x2 (0 : Int32) μ))) 4 [(0, .ref (ad 0)), (1, .int x1), (2, .int x2), (3, .int x3)] [] μ
    refine tt_iload_n C 3 dX8_penniesOf_4 rfl rfl ?_
    refine tt_aload_n C 0 dX8_penniesOf_5 rfl rfl ?_
    refine tt_getI C (j := 5) dM_0 rfl fl_RX8_167 dX8_penniesOf_6 ?_
    refine tt_if (fun h1 => ?_) (fun h1 => ?_)
    · refine tt_icmp_geT (tgt := 57) C h1 dX8_penniesOf_9 (by decide) ?_
      refine tt_iload_n C 2 dX8_penniesOf_57 rfl rfl ?_
      exact tt_iret rfl C hr dX8_penniesOf_58
    · refine tt_icmp_geF C 57 h1 dX8_penniesOf_9 (by decide) ?_
      refine tt_iload_n C 2 dX8_penniesOf_12 rfl rfl ?_
      refine tt_iload_n C 1 dX8_penniesOf_13 rfl rfl ?_
      refine tt_aload_n C 0 dX8_penniesOf_14 rfl rfl ?_
      refine tt_getI C (j := 32) dM_0 rfl fl_RX8_221 dX8_penniesOf_15 ?_
      refine tt_iconst (v := (-1 : Int32)) C dX8_penniesOf_18 (by decide) ?_
      refine tt_ixor C dX8_penniesOf_19 ?_
      refine tt_iand C dX8_penniesOf_20 ?_
      refine tt_aload_n C 0 dX8_penniesOf_21 rfl rfl ?_
      refine tt_getI C (j := 33) dM_0 rfl fl_RX8_224 dX8_penniesOf_22 ?_
      refine tt_iconst (v := (-1 : Int32)) C dX8_penniesOf_25 (by decide) ?_
      refine tt_ixor C dX8_penniesOf_26 ?_
      refine tt_iand C dX8_penniesOf_27 ?_
      refine tt_iload_n C 3 dX8_penniesOf_28 rfl rfl ?_
      refine tt_ishr C dX8_penniesOf_29 ?_
      refine tt_iconst (v := (1 : Int32)) C dX8_penniesOf_30 (by decide) ?_
      refine tt_iand C dX8_penniesOf_31 ?_
      refine tt_iconst (v := (1 : Int32)) C dX8_penniesOf_32 (by decide) ?_
      refine tt_if (fun h2 => ?_) (fun h2 => ?_)
      · refine tt_icmp_neF C 48 h2 dX8_penniesOf_33 (by decide) ?_
        refine tt_aload_n C 0 dX8_penniesOf_36 rfl rfl ?_
        refine tt_getR C (j := 0) (r0 := 1) dM_0 rfl fl_RX8_7 dX8_penniesOf_37 ?_
        refine tt_bipush (v := (10 : Int32)) C dX8_penniesOf_40 (by decide) ?_
        refine tt_iload_n C 3 dX8_penniesOf_42 rfl rfl ?_
        refine tt_iadd C dX8_penniesOf_43 ?_
        refine tt_gr (fun h3 => ?_)
        refine tt_iald C dM_1 h3 dX8_penniesOf_44 ?_
        refine tt_goto (tgt := 49) C dX8_penniesOf_45 (by decide) ?_
        refine tt_sub [0, 1, 3] (L2 := [(0, .ref (ad 0)), (1, .int x1), (3, .int x3)]) rfl ?_
        exact wX8_penniesOf_J49 C hr (fun x1 x2 x3 μ => fX8_penniesOf_L4 fu x1 x2 x3 μ) (fun x1 x2 x3 μ => ih x1 x2 x3 μ) x1 x3 x2 (μ 1 ((10 : Int32) + x3).toNatClampNeg) μ
      · refine tt_icmp_neT (tgt := 48) C h2 dX8_penniesOf_33 (by decide) ?_
        refine tt_iconst (v := (0 : Int32)) C dX8_penniesOf_48 (by decide) ?_
        refine tt_sub [0, 1, 3] (L2 := [(0, .ref (ad 0)), (1, .int x1), (3, .int x3)]) rfl ?_
        exact wX8_penniesOf_J49 C hr (fun x1 x2 x3 μ => fX8_penniesOf_L4 fu x1 x2 x3 μ) (fun x1 x2 x3 μ => ih x1 x2 x3 μ) x1 x3 x2 (0 : Int32) μ

def fX8_penniesOf (x1 : Int32) (μ : Mem) : Option (Int32 × Mem) := lb (0 : Int32) fun (y1 : Int32) => lb (0 : Int32) fun (y2 : Int32) => fX8_penniesOf_L4 FU x1 y1 y2 μ
set_option maxHeartbeats 4000000 in
set_option maxRecDepth 100000 in
theorem wX8_penniesOf {p : Program} {l : Launch} {e : Env} {s : State} {m : MethodId} {args : Array Value} {below : List Frame} {meth : Method} {c : Code} {A : Nat → Prop} {D : va_G} {ad : Nat → Nat} {cA : Nat → ClassId} (C : Cx p s m args meth c cX8_penniesOf RX8 4 A dsM D ad cA EM) (hr : meth.sig.returnType = some .int) (x1 : Int32) (μ : Mem) : T p l e (rmD 0) s m args below meth c 4 A dsM D ad cA enI (fX8_penniesOf x1 μ) 0 [(0, .ref (ad 0)), (1, .int x1)] [] μ := by
  unfold fX8_penniesOf
  refine tt_iconst (v := (0 : Int32)) C dX8_penniesOf_0 (by decide) ?_
  refine tt_lbi (fun y1 => ?_)
  refine tt_istore_n (L2 := [(2, .int y1), (0, .ref (ad 0)), (1, .int x1)]) C dX8_penniesOf_1 rfl (by decide) rfl ?_
  refine tt_iconst (v := (0 : Int32)) C dX8_penniesOf_2 (by decide) ?_
  refine tt_lbi (fun y2 => ?_)
  refine tt_istore_n (L2 := [(3, .int y2), (2, .int y1), (0, .ref (ad 0)), (1, .int x1)]) C dX8_penniesOf_3 rfl (by decide) rfl ?_
  refine tt_sub [2, 3, 1, 0] (L2 := [(0, .ref (ad 0)), (1, .int x1), (2, .int y1), (3, .int y2)]) rfl ?_
  exact wX8_penniesOf_L4 C hr FU x1 y1 y2 μ
theorem kX8_penniesOf {l : Launch} {A : Nat → Prop} {D : va_G} {ad : Nat → Nat} {cA : Nat → ClassId} (hPk : Pk A dsM ad cA EM) {x1 : Int32} {μ : Mem} {v : Int32} {ν : Mem} (h : fX8_penniesOf x1 μ = some (v, ν)) : Ct l A dsM D ad cA EM yX8_penniesOf cX8_penniesOf 4 (some .int) 0 [.ref (ad 0), .int x1] μ (enI (v, ν)) :=
  ct_of (by decide) (Nat.le_of_ble_eq_true rfl) hPk rfl (fun p e s m args below meth c C hr => wX8_penniesOf C hr x1 μ) h

/-! BasketRoundModel.weighs()V -/
def fX8_weighs_J68 (μ : Mem) : Option (Mem) := some μ
set_option maxHeartbeats 4000000 in
set_option maxRecDepth 100000 in
theorem wX8_weighs_J68 {p : Program} {l : Launch} {e : Env} {s : State} {m : MethodId} {args : Array Value} {below : List Frame} {meth : Method} {c : Code} {A : Nat → Prop} {D : va_G} {ad : Nat → Nat} {cA : Nat → ClassId} (C : Cx p s m args meth c cX8_weighs RX8 3 A dsM D ad cA EM) (hr : meth.sig.returnType = none) (μ : Mem) : T p l e (rmD 4) s m args below meth c 3 A dsM D ad cA enV (fX8_weighs_J68 μ) 68 [] [] μ := by
  unfold fX8_weighs_J68
  exact tt_vret rfl C hr dX8_weighs_68

def fX8_weighs_J38 (x1 : Int32) (x2 : Int32) (μ : Mem) : Option (Mem) := lb (wr μ 0 34 x2) fun m1 => lb (wr m1 0 35 x1) fun m2 => bi (fX8_codeOf (25 : Int32) m2) fun v4 m3 => lb (wr m3 0 36 v4) fun m5 => bi (fX8_codeOf (20 : Int32) m5) fun v7 m6 => lb (wr m6 0 37 v7) fun m8 => fX8_weighs_J68 m8
set_option maxHeartbeats 4000000 in
set_option maxRecDepth 100000 in
theorem wX8_weighs_J38 {p : Program} {l : Launch} {e : Env} {s : State} {m : MethodId} {args : Array Value} {below : List Frame} {meth : Method} {c : Code} {A : Nat → Prop} {D : va_G} {ad : Nat → Nat} {cA : Nat → ClassId} (C : Cx p s m args meth c cX8_weighs RX8 3 A dsM D ad cA EM) (hr : meth.sig.returnType = none) (x1 : Int32) (x2 : Int32) (μ : Mem) : T p l e (rmD 4) s m args below meth c 3 A dsM D ad cA enV (fX8_weighs_J38 x1 x2 μ) 38 [(0, .ref (ad 0)), (1, .int x1), (2, .int x2)] [] μ := by
  unfold fX8_weighs_J38
  refine tt_aload_n C 0 dX8_weighs_38 rfl rfl ?_
  refine tt_iload_n C 2 dX8_weighs_39 rfl rfl ?_
  refine tt_putI C (j := 34) dM_0 rfl fl_RX8_253 fw_8_34 dX8_weighs_40 ?_
  refine tt_lbm (fun m1 => ?_)
  refine tt_aload_n C 0 dX8_weighs_43 rfl rfl ?_
  refine tt_iload_n C 1 dX8_weighs_44 rfl rfl ?_
  refine tt_putI C (j := 35) dM_0 rfl fl_RX8_256 fw_8_35 dX8_weighs_45 ?_
  refine tt_lbm (fun m2 => ?_)
  refine tt_aload_n C 0 dX8_weighs_48 rfl rfl ?_
  refine tt_aload_n C 0 dX8_weighs_49 rfl rfl ?_
  refine tt_bipush (v := (25 : Int32)) C dX8_weighs_50 (by decide) ?_
  refine tt_bi (fun v4 m3 h1 => ?_)
  refine tt_callV (st := [.ref (ad 0)]) (As := [.int (25 : Int32)]) C (kX8_codeOf C.2.2.2.2.2.2.2.1 h1) mi_X8_codeOf ml_RX8_179 mv_X8_codeOf ms_X8_codeOf (q := (RX8, TX8, 45)) dM_0 rfl rfl (by decide) (by decide) (Nat.le_of_ble_eq_true rfl) dX8_weighs_52 ?_
  refine tt_putI C (j := 36) dM_0 rfl fl_RX8_259 fw_8_36 dX8_weighs_55 ?_
  refine tt_lbm (fun m5 => ?_)
  refine tt_aload_n C 0 dX8_weighs_58 rfl rfl ?_
  refine tt_aload_n C 0 dX8_weighs_59 rfl rfl ?_
  refine tt_bipush (v := (20 : Int32)) C dX8_weighs_60 (by decide) ?_
  refine tt_bi (fun v7 m6 h2 => ?_)
  refine tt_callV (st := [.ref (ad 0)]) (As := [.int (20 : Int32)]) C (kX8_codeOf C.2.2.2.2.2.2.2.1 h2) mi_X8_codeOf ml_RX8_179 mv_X8_codeOf ms_X8_codeOf (q := (RX8, TX8, 45)) dM_0 rfl rfl (by decide) (by decide) (Nat.le_of_ble_eq_true rfl) dX8_weighs_62 ?_
  refine tt_putI C (j := 37) dM_0 rfl fl_RX8_262 fw_8_37 dX8_weighs_65 ?_
  refine tt_lbm (fun m8 => ?_)
  refine tt_sub [] (L2 := []) rfl ?_
  exact wX8_weighs_J68 C hr m8

def fX8_weighs (μ : Mem) : Option (Mem) := bi (fX8_wholeRound μ) fun v2 m1 => bi (fX8_every m1) fun v4 m3 => bi (fX8_penniesOf v4 m3) fun v6 m5 => if (m5 0 34) < v6 then (fX8_weighs_J38 v2 v6 m5) else (if v6 = (m5 0 34) then (if (m5 0 35) ≤ v2 then (fX8_weighs_J68 m5) else (fX8_weighs_J38 v2 v6 m5)) else (fX8_weighs_J68 m5))
set_option maxHeartbeats 4000000 in
set_option maxRecDepth 100000 in
theorem wX8_weighs {p : Program} {l : Launch} {e : Env} {s : State} {m : MethodId} {args : Array Value} {below : List Frame} {meth : Method} {c : Code} {A : Nat → Prop} {D : va_G} {ad : Nat → Nat} {cA : Nat → ClassId} (C : Cx p s m args meth c cX8_weighs RX8 3 A dsM D ad cA EM) (hr : meth.sig.returnType = none) (μ : Mem) : T p l e (rmD 4) s m args below meth c 3 A dsM D ad cA enV (fX8_weighs μ) 0 [(0, .ref (ad 0))] [] μ := by
  unfold fX8_weighs
  refine tt_aload_n C 0 dX8_weighs_0 rfl rfl ?_
  refine tt_bi (fun v2 m1 h1 => ?_)
  refine tt_callV (st := []) (As := []) C (kX8_wholeRound C.2.2.2.2.2.2.2.1 h1) mi_X8_wholeRound ml_RX8_245 mv_X8_wholeRound ms_X8_wholeRound (q := (RX8, TX8, 45)) dM_0 rfl rfl (by decide) (by decide) (Nat.le_of_ble_eq_true rfl) dX8_weighs_1 ?_
  refine tt_istore_n (L2 := [(1, .int v2), (0, .ref (ad 0))]) C dX8_weighs_4 rfl (by decide) rfl ?_
  refine tt_aload_n C 1 dX8_weighs_5 rfl rfl ?_
  refine tt_aload_n C 1 dX8_weighs_6 rfl rfl ?_
  refine tt_bi (fun v4 m3 h2 => ?_)
  refine tt_callV (st := [.ref (ad 0)]) (As := []) C (kX8_every C.2.2.2.2.2.2.2.1 h2) mi_X8_every ml_RX8_239 mv_X8_every ms_X8_every (q := (RX8, TX8, 45)) dM_0 rfl rfl (by decide) (by decide) (Nat.le_of_ble_eq_true rfl) dX8_weighs_7 ?_
  refine tt_bi (fun v6 m5 h3 => ?_)
  refine tt_callV (st := []) (As := [.int v4]) C (kX8_penniesOf C.2.2.2.2.2.2.2.1 h3) mi_X8_penniesOf ml_RX8_248 mv_X8_penniesOf ms_X8_penniesOf (q := (RX8, TX8, 45)) dM_0 rfl rfl (by decide) (by decide) (Nat.le_of_ble_eq_true rfl) dX8_weighs_10 ?_
  refine tt_istore_n (L2 := [(2, .int v6), (1, .int v2), (0, .ref (ad 0))]) C dX8_weighs_13 rfl (by decide) rfl ?_
  refine tt_iload_n C 0 dX8_weighs_14 rfl rfl ?_
  refine tt_aload_n C 2 dX8_weighs_15 rfl rfl ?_
  refine tt_getI C (j := 34) dM_0 rfl fl_RX8_253 dX8_weighs_16 ?_
  refine tt_if (fun h4 => ?_) (fun h4 => ?_)
  · refine tt_icmp_gtT (tgt := 38) C h4 dX8_weighs_19 (by decide) ?_
    refine tt_sub [2, 1, 0] (L2 := [(0, .ref (ad 0)), (1, .int v2), (2, .int v6)]) rfl ?_
    exact wX8_weighs_J38 C hr v2 v6 m5
  · refine tt_icmp_gtF C 38 h4 dX8_weighs_19 (by decide) ?_
    refine tt_iload_n C 0 dX8_weighs_22 rfl rfl ?_
    refine tt_aload_n C 2 dX8_weighs_23 rfl rfl ?_
    refine tt_getI C (j := 34) dM_0 rfl fl_RX8_253 dX8_weighs_24 ?_
    refine tt_if (fun h5 => ?_) (fun h5 => ?_)
    · refine tt_icmp_neF C 68 h5 dX8_weighs_27 (by decide) ?_
      refine tt_iload_n C 1 dX8_weighs_30 rfl rfl ?_
      refine tt_aload_n C 2 dX8_weighs_31 rfl rfl ?_
      refine tt_getI C (j := 35) dM_0 rfl fl_RX8_256 dX8_weighs_32 ?_
      refine tt_if (fun h6 => ?_) (fun h6 => ?_)
      · refine tt_icmp_geT (tgt := 68) C h6 dX8_weighs_35 (by decide) ?_
        refine tt_sub [] (L2 := []) rfl ?_
        exact wX8_weighs_J68 C hr m5
      · refine tt_icmp_geF C 68 h6 dX8_weighs_35 (by decide) ?_
        refine tt_sub [2, 1, 0] (L2 := [(0, .ref (ad 0)), (1, .int v2), (2, .int v6)]) rfl ?_
        exact wX8_weighs_J38 C hr v2 v6 m5
    · refine tt_icmp_neT (tgt := 68) C h5 dX8_weighs_27 (by decide) ?_
      refine tt_sub [] (L2 := []) rfl ?_
      exact wX8_weighs_J68 C hr m5
theorem kX8_weighs {l : Launch} {A : Nat → Prop} {D : va_G} {ad : Nat → Nat} {cA : Nat → ClassId} (hPk : Pk A dsM ad cA EM) {μ : Mem} {ν : Mem} (h : fX8_weighs μ = some ν) : Ct l A dsM D ad cA EM yX8_weighs cX8_weighs 3 none 4 [.ref (ad 0)] μ (enV ν) :=
  ct_of (by decide) (Nat.le_of_ble_eq_true rfl) hPk rfl (fun p e s m args below meth c C hr => wX8_weighs C hr μ) h

/-! BasketRoundModel.allPacks()V -/
def fX8_allPacks_J31 (k9 : Int32 → Int32 → Mem → Option (Mem)) (x1 : Int32) (x2 : Int32) (μ : Mem) : Option (Mem) := lb (x2 + (1 : Int32)) fun (y1 : Int32) => k9 x1 y1 μ
set_option maxHeartbeats 4000000 in
set_option maxRecDepth 100000 in
theorem wX8_allPacks_J31 {p : Program} {l : Launch} {e : Env} {s : State} {m : MethodId} {args : Array Value} {below : List Frame} {meth : Method} {c : Code} {A : Nat → Prop} {D : va_G} {ad : Nat → Nat} {cA : Nat → ClassId} (C : Cx p s m args meth c cX8_allPacks RX8 3 A dsM D ad cA EM) (hr : meth.sig.returnType = none) (k9 : Int32 → Int32 → Mem → Option (Mem)) (hk9 : ∀ (x1 : Int32) (x2 : Int32) (μ : Mem), T p l e (rmD 5) s m args below meth c 3 A dsM D ad cA enV (k9 x1 x2 μ) 9 [(0, .ref (ad 0)), (1, .int x1), (2, .int x2)] [] μ) (x1 : Int32) (x2 : Int32) (μ : Mem) : T p l e (rmD 5) s m args below meth c 3 A dsM D ad cA enV (fX8_allPacks_J31 k9 x1 x2 μ) 31 [(0, .ref (ad 0)), (1, .int x1), (2, .int x2)] [] μ := by
  unfold fX8_allPacks_J31
  refine tt_iincB (d := (1 : Int32)) C 2 (fun y1 => [(2, .int y1), (0, .ref (ad 0)), (1, .int x1)]) dX8_allPacks_31 rfl (by decide) (by decide) (fun _ => rfl) (fun y1 => ?_)
  refine tt_goto (tgt := 9) C dX8_allPacks_34 (by decide) ?_
  refine tt_sub [1, 2, 0] (L2 := [(0, .ref (ad 0)), (1, .int x1), (2, .int y1)]) rfl ?_
  exact hk9 x1 y1 μ

def fX8_allPacks_L9 : Nat → Int32 → Int32 → Mem → Option (Mem)
  | 0, _, _, _ => none
  | fu + 1, x1, x2, μ => bi (fX8_codes μ) fun v2 m1 => if v2 ≤ x2 then (bi (fX8_laysCode (20 : Int32) x1 m1) fun v4 m3 => some m3) else (bi (fX8_laysCode (20 : Int32) x2 m1) fun v6 m5 => if v6 = (0 : Int32) then (fX8_allPacks_J31 (fun x1 x2 μ => fX8_allPacks_L9 fu x1 x2 μ) x1 x2 m5) else (bv (fX8_weighs m5) fun m7 => fX8_allPacks_J31 (fun x1 x2 μ => fX8_allPacks_L9 fu x1 x2 μ) x1 x2 m7))
set_option maxHeartbeats 4000000 in
set_option maxRecDepth 100000 in
theorem wX8_allPacks_L9 {p : Program} {l : Launch} {e : Env} {s : State} {m : MethodId} {args : Array Value} {below : List Frame} {meth : Method} {c : Code} {A : Nat → Prop} {D : va_G} {ad : Nat → Nat} {cA : Nat → ClassId} (C : Cx p s m args meth c cX8_allPacks RX8 3 A dsM D ad cA EM) (hr : meth.sig.returnType = none) : ∀ (fu : Nat) (x1 : Int32) (x2 : Int32) (μ : Mem), T p l e (rmD 5) s m args below meth c 3 A dsM D ad cA enV (fX8_allPacks_L9 fu x1 x2 μ) 9 [(0, .ref (ad 0)), (1, .int x1), (2, .int x2)] [] μ
  | 0, _, _, _ => tt_none
  | fu + 1, x1, x2, μ => by
    have ih := fun (x1 : Int32) (x2 : Int32) (μ : Mem) => wX8_allPacks_L9 (l := l) (e := e) (below := below) C hr fu x1 x2 μ
    show T p l e (rmD 5) s m args below meth c 3 A dsM D ad cA enV (bi (fX8_codes μ) fun v2 m1 => if v2 ≤ x2 then (bi (fX8_laysCode (20 : Int32) x1 m1) fun v4 m3 => some m3) else (bi (fX8_laysCode (20 : Int32) x2 m1) fun v6 m5 => if v6 = (0 : Int32) then (fX8_allPacks_J31 (fun x1 x2 μ => fX8_allPacks_L9 fu x1 x2 μ) x1 x2 m5) else (bv (fX8_weighs m5) fun m7 => fX8_allPacks_J31 (fun x1 x2 μ => fX8_allPacks_L9 fu x1 x2 μ) x1 x2 m7))) 9 [(0, .ref (ad 0)), (1, .int x1), (2, .int x2)] [] μ
    refine tt_iload_n C 2 dX8_allPacks_9 rfl rfl ?_
    refine tt_aload_n C 0 dX8_allPacks_10 rfl rfl ?_
    refine tt_bi (fun v2 m1 h1 => ?_)
    refine tt_callV (st := [.int x2]) (As := []) C (kX8_codes C.2.2.2.2.2.2.2.1 h1) mi_X8_codes ml_RX8_265 mv_X8_codes ms_X8_codes (q := (RX8, TX8, 45)) dM_0 rfl rfl (by decide) (by decide) (Nat.le_of_ble_eq_true rfl) dX8_allPacks_11 ?_
    refine tt_if (fun h2 => ?_) (fun h2 => ?_)
    · refine tt_icmp_geT (tgt := 37) C h2 dX8_allPacks_14 (by decide) ?_
      refine tt_aload_n C 0 dX8_allPacks_37 rfl rfl ?_
      refine tt_bipush (v := (20 : Int32)) C dX8_allPacks_38 (by decide) ?_
      refine tt_iload_n C 1 dX8_allPacks_40 rfl rfl ?_
      refine tt_bi (fun v4 m3 h3 => ?_)
      refine tt_callV (st := []) (As := [.int (20 : Int32), .int x1]) C (kX8_laysCode C.2.2.2.2.2.2.2.1 h3) mi_X8_laysCode ml_RX8_268 mv_X8_laysCode ms_X8_laysCode (q := (RX8, TX8, 45)) dM_0 rfl rfl (by decide) (by decide) (Nat.le_of_ble_eq_true rfl) dX8_allPacks_41 ?_
      refine tt_pop C dX8_allPacks_44 rfl ?_
      exact tt_vret rfl C hr dX8_allPacks_45
    · refine tt_icmp_geF C 37 h2 dX8_allPacks_14 (by decide) ?_
      refine tt_aload_n C 0 dX8_allPacks_17 rfl rfl ?_
      refine tt_bipush (v := (20 : Int32)) C dX8_allPacks_18 (by decide) ?_
      refine tt_iload_n C 2 dX8_allPacks_20 rfl rfl ?_
      refine tt_bi (fun v6 m5 h4 => ?_)
      refine tt_callV (st := []) (As := [.int (20 : Int32), .int x2]) C (kX8_laysCode C.2.2.2.2.2.2.2.1 h4) mi_X8_laysCode ml_RX8_268 mv_X8_laysCode ms_X8_laysCode (q := (RX8, TX8, 45)) dM_0 rfl rfl (by decide) (by decide) (Nat.le_of_ble_eq_true rfl) dX8_allPacks_21 ?_
      refine tt_if (fun h5 => ?_) (fun h5 => ?_)
      · refine tt_if_eqT (tgt := 31) C h5 dX8_allPacks_24 (by decide) ?_
        refine tt_sub [0, 1, 2] (L2 := [(0, .ref (ad 0)), (1, .int x1), (2, .int x2)]) rfl ?_
        exact wX8_allPacks_J31 C hr (fun x1 x2 μ => fX8_allPacks_L9 fu x1 x2 μ) (fun x1 x2 μ => ih x1 x2 μ) x1 x2 m5
      · refine tt_if_eqF C 31 h5 dX8_allPacks_24 (by decide) ?_
        refine tt_aload_n C 0 dX8_allPacks_27 rfl rfl ?_
        refine tt_bv (fun m7 h6 => ?_)
        refine tt_callV (st := []) (As := []) C (kX8_weighs C.2.2.2.2.2.2.2.1 h6) mi_X8_weighs ml_RX8_272 mv_X8_weighs ms_X8_weighs (q := (RX8, TX8, 45)) dM_0 rfl rfl (by decide) (by decide) (Nat.le_of_ble_eq_true rfl) dX8_allPacks_28 ?_
        refine tt_sub [0, 1, 2] (L2 := [(0, .ref (ad 0)), (1, .int x1), (2, .int x2)]) rfl ?_
        exact wX8_allPacks_J31 C hr (fun x1 x2 μ => fX8_allPacks_L9 fu x1 x2 μ) (fun x1 x2 μ => ih x1 x2 μ) x1 x2 m7

def fX8_allPacks (μ : Mem) : Option (Mem) := bi (fX8_codeOf (20 : Int32) μ) fun v2 m1 => lb (0 : Int32) fun (y3 : Int32) => fX8_allPacks_L9 FU v2 y3 m1
set_option maxHeartbeats 4000000 in
set_option maxRecDepth 100000 in
theorem wX8_allPacks {p : Program} {l : Launch} {e : Env} {s : State} {m : MethodId} {args : Array Value} {below : List Frame} {meth : Method} {c : Code} {A : Nat → Prop} {D : va_G} {ad : Nat → Nat} {cA : Nat → ClassId} (C : Cx p s m args meth c cX8_allPacks RX8 3 A dsM D ad cA EM) (hr : meth.sig.returnType = none) (μ : Mem) : T p l e (rmD 5) s m args below meth c 3 A dsM D ad cA enV (fX8_allPacks μ) 0 [(0, .ref (ad 0))] [] μ := by
  unfold fX8_allPacks
  refine tt_aload_n C 0 dX8_allPacks_0 rfl rfl ?_
  refine tt_bipush (v := (20 : Int32)) C dX8_allPacks_1 (by decide) ?_
  refine tt_bi (fun v2 m1 h1 => ?_)
  refine tt_callV (st := []) (As := [.int (20 : Int32)]) C (kX8_codeOf C.2.2.2.2.2.2.2.1 h1) mi_X8_codeOf ml_RX8_179 mv_X8_codeOf ms_X8_codeOf (q := (RX8, TX8, 45)) dM_0 rfl rfl (by decide) (by decide) (Nat.le_of_ble_eq_true rfl) dX8_allPacks_3 ?_
  refine tt_istore_n (L2 := [(1, .int v2), (0, .ref (ad 0))]) C dX8_allPacks_6 rfl (by decide) rfl ?_
  refine tt_iconst (v := (0 : Int32)) C dX8_allPacks_7 (by decide) ?_
  refine tt_lbi (fun y3 => ?_)
  refine tt_istore_n (L2 := [(2, .int y3), (1, .int v2), (0, .ref (ad 0))]) C dX8_allPacks_8 rfl (by decide) rfl ?_
  refine tt_sub [2, 1, 0] (L2 := [(0, .ref (ad 0)), (1, .int v2), (2, .int y3)]) rfl ?_
  exact wX8_allPacks_L9 C hr FU v2 y3 m1
theorem kX8_allPacks {l : Launch} {A : Nat → Prop} {D : va_G} {ad : Nat → Nat} {cA : Nat → ClassId} (hPk : Pk A dsM ad cA EM) {μ : Mem} {ν : Mem} (h : fX8_allPacks μ = some ν) : Ct l A dsM D ad cA EM yX8_allPacks cX8_allPacks 3 none 5 [.ref (ad 0)] μ (enV ν) :=
  ct_of (by decide) (Nat.le_of_ble_eq_true rfl) hPk rfl (fun p e s m args below meth c C hr => wX8_allPacks C hr μ) h

