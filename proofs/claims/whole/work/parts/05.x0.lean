/-! BasketRound$Choice.become(IIII)V -/
def fX0_become (x1 : Int32) (x2 : Int32) (x3 : Int32) (x4 : Int32) (μ : Mem) : Option (Mem) := gd ((1 : Int32) = (0 : Int32) ∨ (1 : Int32) = (1 : Int32)) <| lb (wr μ 30 0 (1 : Int32)) fun m1 => lb (wr m1 30 1 x1) fun m2 => lb (wr m2 30 2 x2) fun m3 => lb (wr m3 30 3 x3) fun m4 => lb (wr m4 30 4 x4) fun m5 => some m5
set_option maxHeartbeats 4000000 in
set_option maxRecDepth 100000 in
theorem wX0_become {p : Program} {l : Launch} {e : Env} {s : State} {m : MethodId} {args : Array Value} {below : List Frame} {meth : Method} {c : Code} {A : Nat → Prop} {D : va_G} {ad : Nat → Nat} {cA : Nat → ClassId} (C : Cx p s m args meth c cX0_become RX0 5 A dsX D ad cA (EX A ad)) (hr : meth.sig.returnType = none) (x1 : Int32) (x2 : Int32) (x3 : Int32) (x4 : Int32) (μ : Mem) : T p l e (rmD 0) s m args below meth c 5 A dsX D ad cA enV (fX0_become x1 x2 x3 x4 μ) 0 [(0, .ref (ad 30)), (1, .int x1), (2, .int x2), (3, .int x3), (4, .int x4)] [] μ := by
  unfold fX0_become
  refine tt_aload_n C 0 dX0_become_0 rfl rfl ?_
  refine tt_iconst (v := (1 : Int32)) C dX0_become_1 (by decide) ?_
  refine tt_gd (fun h1 => ?_)
  refine tt_putZ C (j := 0) dX_30 rfl fl_RX0_7 fw_0_0 h1 dX0_become_2 ?_
  refine tt_lbm (fun m1 => ?_)
  refine tt_aload_n C 0 dX0_become_5 rfl rfl ?_
  refine tt_iload_n C 1 dX0_become_6 rfl rfl ?_
  refine tt_putI C (j := 1) dX_30 rfl fl_RX0_13 fw_0_1 dX0_become_7 ?_
  refine tt_lbm (fun m2 => ?_)
  refine tt_aload_n C 0 dX0_become_10 rfl rfl ?_
  refine tt_iload_n C 2 dX0_become_11 rfl rfl ?_
  refine tt_putI C (j := 2) dX_30 rfl fl_RX0_17 fw_0_2 dX0_become_12 ?_
  refine tt_lbm (fun m3 => ?_)
  refine tt_aload_n C 0 dX0_become_15 rfl rfl ?_
  refine tt_iload_n C 3 dX0_become_16 rfl rfl ?_
  refine tt_putI C (j := 3) dX_30 rfl fl_RX0_20 fw_0_3 dX0_become_17 ?_
  refine tt_lbm (fun m4 => ?_)
  refine tt_aload_n C 0 dX0_become_20 rfl rfl ?_
  refine tt_iload C 4 dX0_become_21 rfl ?_
  refine tt_putI C (j := 4) dX_30 rfl fl_RX0_23 fw_0_4 dX0_become_23 ?_
  refine tt_lbm (fun m5 => ?_)
  exact tt_vret rfl C hr dX0_become_26
theorem kX0_become {l : Launch} {A : Nat → Prop} {D : va_G} {ad : Nat → Nat} {cA : Nat → ClassId} (hPk : Pk A dsX ad cA (EX A ad)) {x1 : Int32} {x2 : Int32} {x3 : Int32} {x4 : Int32} {μ : Mem} {ν : Mem} (h : fX0_become x1 x2 x3 x4 μ = some ν) : Ct l A dsX D ad cA (EX A ad) yX0_become cX0_become 5 none 0 [.ref (ad 30), .int x1, .int x2, .int x3, .int x4] μ (enV ν) :=
  ct_of (by decide) (Nat.le_of_ble_eq_true rfl) hPk rfl (fun p e s m args below meth c C hr => wX0_become C hr x1 x2 x3 x4 μ) h

/-! BasketRound$Choice.clear()V -/
def fX0_clear (μ : Mem) : Option (Mem) := gd ((0 : Int32) = (0 : Int32) ∨ (0 : Int32) = (1 : Int32)) <| lb (wr μ 30 0 (0 : Int32)) fun m1 => some m1
set_option maxHeartbeats 4000000 in
set_option maxRecDepth 100000 in
theorem wX0_clear {p : Program} {l : Launch} {e : Env} {s : State} {m : MethodId} {args : Array Value} {below : List Frame} {meth : Method} {c : Code} {A : Nat → Prop} {D : va_G} {ad : Nat → Nat} {cA : Nat → ClassId} (C : Cx p s m args meth c cX0_clear RX0 1 A dsX D ad cA (EX A ad)) (hr : meth.sig.returnType = none) (μ : Mem) : T p l e (rmD 0) s m args below meth c 1 A dsX D ad cA enV (fX0_clear μ) 0 [(0, .ref (ad 30))] [] μ := by
  unfold fX0_clear
  refine tt_aload_n C 0 dX0_clear_0 rfl rfl ?_
  refine tt_iconst (v := (0 : Int32)) C dX0_clear_1 (by decide) ?_
  refine tt_gd (fun h1 => ?_)
  refine tt_putZ C (j := 0) dX_30 rfl fl_RX0_7 fw_0_0 h1 dX0_clear_2 ?_
  refine tt_lbm (fun m1 => ?_)
  exact tt_vret rfl C hr dX0_clear_5
theorem kX0_clear {l : Launch} {A : Nat → Prop} {D : va_G} {ad : Nat → Nat} {cA : Nat → ClassId} (hPk : Pk A dsX ad cA (EX A ad)) {μ : Mem} {ν : Mem} (h : fX0_clear μ = some ν) : Ct l A dsX D ad cA (EX A ad) yX0_clear cX0_clear 1 none 0 [.ref (ad 30)] μ (enV ν) :=
  ct_of (by decide) (Nat.le_of_ble_eq_true rfl) hPk rfl (fun p e s m args below meth c C hr => wX0_clear C hr μ) h

/-! BasketRound$Choice.isBeatenBy(II)Z -/
def fX0_isBeatenBy_J36 (z0 : Int32) (μ : Mem) : Option (Int32 × Mem) := gd (z0 = (0 : Int32) ∨ z0 = (1 : Int32)) <| some (z0, μ)
set_option maxHeartbeats 4000000 in
set_option maxRecDepth 100000 in
theorem wX0_isBeatenBy_J36 {p : Program} {l : Launch} {e : Env} {s : State} {m : MethodId} {args : Array Value} {below : List Frame} {meth : Method} {c : Code} {A : Nat → Prop} {D : va_G} {ad : Nat → Nat} {cA : Nat → ClassId} (C : Cx p s m args meth c cX0_isBeatenBy RX0 3 A dsX D ad cA (EX A ad)) (hr : meth.sig.returnType = some .boolean) (z0 : Int32) (μ : Mem) : T p l e (rmD 0) s m args below meth c 3 A dsX D ad cA enI (fX0_isBeatenBy_J36 z0 μ) 36 [] [.int z0] μ := by
  unfold fX0_isBeatenBy_J36
  refine tt_gd (fun h1 => ?_)
  exact tt_zret rfl C hr h1 dX0_isBeatenBy_36

def fX0_isBeatenBy_J35 (μ : Mem) : Option (Int32 × Mem) := fX0_isBeatenBy_J36 (0 : Int32) μ
set_option maxHeartbeats 4000000 in
set_option maxRecDepth 100000 in
theorem wX0_isBeatenBy_J35 {p : Program} {l : Launch} {e : Env} {s : State} {m : MethodId} {args : Array Value} {below : List Frame} {meth : Method} {c : Code} {A : Nat → Prop} {D : va_G} {ad : Nat → Nat} {cA : Nat → ClassId} (C : Cx p s m args meth c cX0_isBeatenBy RX0 3 A dsX D ad cA (EX A ad)) (hr : meth.sig.returnType = some .boolean) (μ : Mem) : T p l e (rmD 0) s m args below meth c 3 A dsX D ad cA enI (fX0_isBeatenBy_J35 μ) 35 [] [] μ := by
  unfold fX0_isBeatenBy_J35
  refine tt_iconst (v := (0 : Int32)) C dX0_isBeatenBy_35 (by decide) ?_
  refine tt_sub [] (L2 := []) rfl ?_
  exact wX0_isBeatenBy_J36 C hr (0 : Int32) μ

def fX0_isBeatenBy_J31 (μ : Mem) : Option (Int32 × Mem) := fX0_isBeatenBy_J36 (1 : Int32) μ
set_option maxHeartbeats 4000000 in
set_option maxRecDepth 100000 in
theorem wX0_isBeatenBy_J31 {p : Program} {l : Launch} {e : Env} {s : State} {m : MethodId} {args : Array Value} {below : List Frame} {meth : Method} {c : Code} {A : Nat → Prop} {D : va_G} {ad : Nat → Nat} {cA : Nat → ClassId} (C : Cx p s m args meth c cX0_isBeatenBy RX0 3 A dsX D ad cA (EX A ad)) (hr : meth.sig.returnType = some .boolean) (μ : Mem) : T p l e (rmD 0) s m args below meth c 3 A dsX D ad cA enI (fX0_isBeatenBy_J31 μ) 31 [] [] μ := by
  unfold fX0_isBeatenBy_J31
  refine tt_iconst (v := (1 : Int32)) C dX0_isBeatenBy_31 (by decide) ?_
  refine tt_goto (tgt := 36) C dX0_isBeatenBy_32 (by decide) ?_
  refine tt_sub [] (L2 := []) rfl ?_
  exact wX0_isBeatenBy_J36 C hr (1 : Int32) μ

def fX0_isBeatenBy (x1 : Int32) (x2 : Int32) (μ : Mem) : Option (Int32 × Mem) := if (μ 30 0) = (0 : Int32) then (fX0_isBeatenBy_J31 μ) else (if (μ 30 1) < x1 then (fX0_isBeatenBy_J31 μ) else (if x1 = (μ 30 1) then (if (μ 30 2) ≤ x2 then (fX0_isBeatenBy_J35 μ) else (fX0_isBeatenBy_J31 μ)) else (fX0_isBeatenBy_J35 μ)))
set_option maxHeartbeats 4000000 in
set_option maxRecDepth 100000 in
theorem wX0_isBeatenBy {p : Program} {l : Launch} {e : Env} {s : State} {m : MethodId} {args : Array Value} {below : List Frame} {meth : Method} {c : Code} {A : Nat → Prop} {D : va_G} {ad : Nat → Nat} {cA : Nat → ClassId} (C : Cx p s m args meth c cX0_isBeatenBy RX0 3 A dsX D ad cA (EX A ad)) (hr : meth.sig.returnType = some .boolean) (x1 : Int32) (x2 : Int32) (μ : Mem) : T p l e (rmD 0) s m args below meth c 3 A dsX D ad cA enI (fX0_isBeatenBy x1 x2 μ) 0 [(0, .ref (ad 30)), (1, .int x1), (2, .int x2)] [] μ := by
  unfold fX0_isBeatenBy
  refine tt_aload_n C 0 dX0_isBeatenBy_0 rfl rfl ?_
  refine tt_getI C (j := 0) dX_30 rfl fl_RX0_7 dX0_isBeatenBy_1 ?_
  refine tt_if (fun h1 => ?_) (fun h1 => ?_)
  · refine tt_if_eqT (tgt := 31) C h1 dX0_isBeatenBy_4 (by decide) ?_
    refine tt_sub [] (L2 := []) rfl ?_
    exact wX0_isBeatenBy_J31 C hr μ
  · refine tt_if_eqF C 31 h1 dX0_isBeatenBy_4 (by decide) ?_
    refine tt_iload_n C 1 dX0_isBeatenBy_7 rfl rfl ?_
    refine tt_aload_n C 0 dX0_isBeatenBy_8 rfl rfl ?_
    refine tt_getI C (j := 1) dX_30 rfl fl_RX0_13 dX0_isBeatenBy_9 ?_
    refine tt_if (fun h2 => ?_) (fun h2 => ?_)
    · refine tt_icmp_gtT (tgt := 31) C h2 dX0_isBeatenBy_12 (by decide) ?_
      refine tt_sub [] (L2 := []) rfl ?_
      exact wX0_isBeatenBy_J31 C hr μ
    · refine tt_icmp_gtF C 31 h2 dX0_isBeatenBy_12 (by decide) ?_
      refine tt_iload_n C 1 dX0_isBeatenBy_15 rfl rfl ?_
      refine tt_aload_n C 0 dX0_isBeatenBy_16 rfl rfl ?_
      refine tt_getI C (j := 1) dX_30 rfl fl_RX0_13 dX0_isBeatenBy_17 ?_
      refine tt_if (fun h3 => ?_) (fun h3 => ?_)
      · refine tt_icmp_neF C 35 h3 dX0_isBeatenBy_20 (by decide) ?_
        refine tt_iload_n C 2 dX0_isBeatenBy_23 rfl rfl ?_
        refine tt_aload_n C 0 dX0_isBeatenBy_24 rfl rfl ?_
        refine tt_getI C (j := 2) dX_30 rfl fl_RX0_17 dX0_isBeatenBy_25 ?_
        refine tt_if (fun h4 => ?_) (fun h4 => ?_)
        · refine tt_icmp_geT (tgt := 35) C h4 dX0_isBeatenBy_28 (by decide) ?_
          refine tt_sub [] (L2 := []) rfl ?_
          exact wX0_isBeatenBy_J35 C hr μ
        · refine tt_icmp_geF C 35 h4 dX0_isBeatenBy_28 (by decide) ?_
          refine tt_sub [] (L2 := []) rfl ?_
          exact wX0_isBeatenBy_J31 C hr μ
      · refine tt_icmp_neT (tgt := 35) C h3 dX0_isBeatenBy_20 (by decide) ?_
        refine tt_sub [] (L2 := []) rfl ?_
        exact wX0_isBeatenBy_J35 C hr μ
theorem kX0_isBeatenBy {l : Launch} {A : Nat → Prop} {D : va_G} {ad : Nat → Nat} {cA : Nat → ClassId} (hPk : Pk A dsX ad cA (EX A ad)) {x1 : Int32} {x2 : Int32} {μ : Mem} {v : Int32} {ν : Mem} (h : fX0_isBeatenBy x1 x2 μ = some (v, ν)) : Ct l A dsX D ad cA (EX A ad) yX0_isBeatenBy cX0_isBeatenBy 3 (some .boolean) 0 [.ref (ad 30), .int x1, .int x2] μ (enI (v, ν)) :=
  ct_of (by decide) (Nat.le_of_ble_eq_true rfl) hPk rfl (fun p e s m args below meth c C hr => wX0_isBeatenBy C hr x1 x2 μ) h

/-! java/lang/Integer.bitCount(I)I -/
def fJ6_bitCount_0f7a4 (x0 : Int32) (μ : Mem) : Option (Int32 × Mem) := lb (x0 - ((ush x0 (1 : Int32)) &&& (1431655765 : Int32))) fun (y1 : Int32) => lb ((y1 &&& (858993459 : Int32)) + ((ush y1 (2 : Int32)) &&& (858993459 : Int32))) fun (y2 : Int32) => lb ((y2 + (ush y2 (4 : Int32))) &&& (252645135 : Int32)) fun (y3 : Int32) => lb (y3 + (ush y3 (8 : Int32))) fun (y4 : Int32) => lb (y4 + (ush y4 (16 : Int32))) fun (y5 : Int32) => some ((y5 &&& (63 : Int32)), μ)
set_option maxHeartbeats 4000000 in
set_option maxRecDepth 100000 in
theorem wJ6_bitCount_0f7a4 {p : Program} {l : Launch} {e : Env} {s : State} {m : MethodId} {args : Array Value} {below : List Frame} {meth : Method} {c : Code} {A : Nat → Prop} {D : va_G} {ad : Nat → Nat} {cA : Nat → ClassId} (C : Cx p s m args meth c cJ6_bitCount_0f7a4 RJ6 1 A dsX D ad cA (EX A ad)) (hr : meth.sig.returnType = some .int) (x0 : Int32) (μ : Mem) : T p l e (rmD 0) s m args below meth c 1 A dsX D ad cA enI (fJ6_bitCount_0f7a4 x0 μ) 0 [(0, .int x0)] [] μ := by
  unfold fJ6_bitCount_0f7a4
  refine tt_iload_n C 0 dJ6_bitCount_0f7a4_0 rfl rfl ?_
  refine tt_iload_n C 0 dJ6_bitCount_0f7a4_1 rfl rfl ?_
  refine tt_iconst (v := (1 : Int32)) C dJ6_bitCount_0f7a4_2 (by decide) ?_
  refine tt_iushr C dJ6_bitCount_0f7a4_3 ?_
  refine tt_ldcw (v := (1431655765 : Int32)) C kC_RJ6_265 dJ6_bitCount_0f7a4_4 ?_
  refine tt_iand C dJ6_bitCount_0f7a4_7 ?_
  refine tt_isub C dJ6_bitCount_0f7a4_8 ?_
  refine tt_lbi (fun y1 => ?_)
  refine tt_istore_n (L2 := [(0, .int y1)]) C dJ6_bitCount_0f7a4_9 rfl (by decide) rfl ?_
  refine tt_iload_n C 0 dJ6_bitCount_0f7a4_10 rfl rfl ?_
  refine tt_ldcw (v := (858993459 : Int32)) C kC_RJ6_266 dJ6_bitCount_0f7a4_11 ?_
  refine tt_iand C dJ6_bitCount_0f7a4_14 ?_
  refine tt_iload_n C 0 dJ6_bitCount_0f7a4_15 rfl rfl ?_
  refine tt_iconst (v := (2 : Int32)) C dJ6_bitCount_0f7a4_16 (by decide) ?_
  refine tt_iushr C dJ6_bitCount_0f7a4_17 ?_
  refine tt_ldcw (v := (858993459 : Int32)) C kC_RJ6_266 dJ6_bitCount_0f7a4_18 ?_
  refine tt_iand C dJ6_bitCount_0f7a4_21 ?_
  refine tt_iadd C dJ6_bitCount_0f7a4_22 ?_
  refine tt_lbi (fun y2 => ?_)
  refine tt_istore_n (L2 := [(0, .int y2)]) C dJ6_bitCount_0f7a4_23 rfl (by decide) rfl ?_
  refine tt_iload_n C 0 dJ6_bitCount_0f7a4_24 rfl rfl ?_
  refine tt_iload_n C 0 dJ6_bitCount_0f7a4_25 rfl rfl ?_
  refine tt_iconst (v := (4 : Int32)) C dJ6_bitCount_0f7a4_26 (by decide) ?_
  refine tt_iushr C dJ6_bitCount_0f7a4_27 ?_
  refine tt_iadd C dJ6_bitCount_0f7a4_28 ?_
  refine tt_ldcw (v := (252645135 : Int32)) C kC_RJ6_267 dJ6_bitCount_0f7a4_29 ?_
  refine tt_iand C dJ6_bitCount_0f7a4_32 ?_
  refine tt_lbi (fun y3 => ?_)
  refine tt_istore_n (L2 := [(0, .int y3)]) C dJ6_bitCount_0f7a4_33 rfl (by decide) rfl ?_
  refine tt_iload_n C 0 dJ6_bitCount_0f7a4_34 rfl rfl ?_
  refine tt_iload_n C 0 dJ6_bitCount_0f7a4_35 rfl rfl ?_
  refine tt_bipush (v := (8 : Int32)) C dJ6_bitCount_0f7a4_36 (by decide) ?_
  refine tt_iushr C dJ6_bitCount_0f7a4_38 ?_
  refine tt_iadd C dJ6_bitCount_0f7a4_39 ?_
  refine tt_lbi (fun y4 => ?_)
  refine tt_istore_n (L2 := [(0, .int y4)]) C dJ6_bitCount_0f7a4_40 rfl (by decide) rfl ?_
  refine tt_iload_n C 0 dJ6_bitCount_0f7a4_41 rfl rfl ?_
  refine tt_iload_n C 0 dJ6_bitCount_0f7a4_42 rfl rfl ?_
  refine tt_bipush (v := (16 : Int32)) C dJ6_bitCount_0f7a4_43 (by decide) ?_
  refine tt_iushr C dJ6_bitCount_0f7a4_45 ?_
  refine tt_iadd C dJ6_bitCount_0f7a4_46 ?_
  refine tt_lbi (fun y5 => ?_)
  refine tt_istore_n (L2 := [(0, .int y5)]) C dJ6_bitCount_0f7a4_47 rfl (by decide) rfl ?_
  refine tt_iload_n C 0 dJ6_bitCount_0f7a4_48 rfl rfl ?_
  refine tt_bipush (v := (63 : Int32)) C dJ6_bitCount_0f7a4_49 (by decide) ?_
  refine tt_iand C dJ6_bitCount_0f7a4_51 ?_
  exact tt_iret rfl C hr dJ6_bitCount_0f7a4_52
theorem kJ6_bitCount_0f7a4 {l : Launch} {A : Nat → Prop} {D : va_G} {ad : Nat → Nat} {cA : Nat → ClassId} (hPk : Pk A dsX ad cA (EX A ad)) {x0 : Int32} {μ : Mem} {v : Int32} {ν : Mem} (h : fJ6_bitCount_0f7a4 x0 μ = some (v, ν)) : Ct l A dsX D ad cA (EX A ad) yJ6_bitCount_0f7a4 cJ6_bitCount_0f7a4 1 (some .int) 0 [.int x0] μ (enI (v, ν)) :=
  ct_of (by decide) (Nat.le_of_ble_eq_true rfl) hPk rfl (fun p e s m args below meth c C hr => wJ6_bitCount_0f7a4 C hr x0 μ) h

/-! BasketRound$Reader.addOthers([II)V -/
def fX1_addOthers_J48 (a1 : Nat) (μ : Mem) : Option (Mem) := some μ
set_option maxHeartbeats 4000000 in
set_option maxRecDepth 100000 in
theorem wX1_addOthers_J48 {p : Program} {l : Launch} {e : Env} {s : State} {m : MethodId} {args : Array Value} {below : List Frame} {meth : Method} {c : Code} {A : Nat → Prop} {D : va_G} {ad : Nat → Nat} {cA : Nat → ClassId} (C : Cx p s m args meth c cX1_addOthers RX1 5 A dsX D ad cA (EX A ad)) (hr : meth.sig.returnType = none) (a1 : Nat) (ha1 : dsX[a1]? = some (0, 5, [])) (μ : Mem) : T p l e (rmD 1) s m args below meth c 5 A dsX D ad cA enV (fX1_addOthers_J48 a1 μ) 48 [] [] μ := by
  unfold fX1_addOthers_J48
  exact tt_vret rfl C hr dX1_addOthers_48

def fX1_addOthers_J42 (a1 : Nat) (k8 : Int32 → Int32 → Int32 → Mem → Option (Mem)) (x2 : Int32) (x3 : Int32) (x4 : Int32) (μ : Mem) : Option (Mem) := lb (x4 + (1 : Int32)) fun (y1 : Int32) => k8 x2 x3 y1 μ
set_option maxHeartbeats 4000000 in
set_option maxRecDepth 100000 in
theorem wX1_addOthers_J42 {p : Program} {l : Launch} {e : Env} {s : State} {m : MethodId} {args : Array Value} {below : List Frame} {meth : Method} {c : Code} {A : Nat → Prop} {D : va_G} {ad : Nat → Nat} {cA : Nat → ClassId} (C : Cx p s m args meth c cX1_addOthers RX1 5 A dsX D ad cA (EX A ad)) (hr : meth.sig.returnType = none) (a1 : Nat) (ha1 : dsX[a1]? = some (0, 5, [])) (k8 : Int32 → Int32 → Int32 → Mem → Option (Mem)) (hk8 : ∀ (x2 : Int32) (x3 : Int32) (x4 : Int32) (μ : Mem), T p l e (rmD 1) s m args below meth c 5 A dsX D ad cA enV (k8 x2 x3 x4 μ) 8 [(0, .ref (ad 23)), (1, .ref (ad a1)), (2, .int x2), (3, .int x3), (4, .int x4)] [] μ) (x2 : Int32) (x3 : Int32) (x4 : Int32) (μ : Mem) : T p l e (rmD 1) s m args below meth c 5 A dsX D ad cA enV (fX1_addOthers_J42 a1 k8 x2 x3 x4 μ) 42 [(0, .ref (ad 23)), (1, .ref (ad a1)), (2, .int x2), (3, .int x3), (4, .int x4)] [] μ := by
  unfold fX1_addOthers_J42
  refine tt_iincB (d := (1 : Int32)) C 4 (fun y1 => [(4, .int y1), (0, .ref (ad 23)), (1, .ref (ad a1)), (2, .int x2), (3, .int x3)]) dX1_addOthers_42 rfl (by decide) (by decide) (fun _ => rfl) (fun y1 => ?_)
  refine tt_goto (tgt := 8) C dX1_addOthers_45 (by decide) ?_
  refine tt_sub [1, 2, 3, 4, 0] (L2 := [(0, .ref (ad 23)), (1, .ref (ad a1)), (2, .int x2), (3, .int x3), (4, .int y1)]) rfl ?_
  exact hk8 x2 x3 y1 μ

def fX1_addOthers_L8 (a1 : Nat) : Nat → Int32 → Int32 → Int32 → Mem → Option (Mem)
  | 0, _, _, _, _ => none
  | fu + 1, x2, x3, x4, μ => if (μ 18 5) ≤ x4 then (fX1_addOthers_J48 a1 μ) else (if (5 : Int32) ≤ x3 then (fX1_addOthers_J48 a1 μ) else (if ((x2 >>> (x4 &&& 31)) &&& (1 : Int32)) = (0 : Int32) then (gr x3 5 <| lb (wr μ a1 x3.toNatClampNeg x4) fun m1 => lb (x3 + (1 : Int32)) fun (y2 : Int32) => fX1_addOthers_J42 a1 (fun x2 x3 x4 μ => fX1_addOthers_L8 a1 fu x2 x3 x4 μ) x2 y2 x4 m1) else (fX1_addOthers_J42 a1 (fun x2 x3 x4 μ => fX1_addOthers_L8 a1 fu x2 x3 x4 μ) x2 x3 x4 μ)))
set_option maxHeartbeats 4000000 in
set_option maxRecDepth 100000 in
theorem wX1_addOthers_L8 {p : Program} {l : Launch} {e : Env} {s : State} {m : MethodId} {args : Array Value} {below : List Frame} {meth : Method} {c : Code} {A : Nat → Prop} {D : va_G} {ad : Nat → Nat} {cA : Nat → ClassId} (C : Cx p s m args meth c cX1_addOthers RX1 5 A dsX D ad cA (EX A ad)) (hr : meth.sig.returnType = none) (a1 : Nat) (ha1 : dsX[a1]? = some (0, 5, [])) : ∀ (fu : Nat) (x2 : Int32) (x3 : Int32) (x4 : Int32) (μ : Mem), T p l e (rmD 1) s m args below meth c 5 A dsX D ad cA enV (fX1_addOthers_L8 a1 fu x2 x3 x4 μ) 8 [(0, .ref (ad 23)), (1, .ref (ad a1)), (2, .int x2), (3, .int x3), (4, .int x4)] [] μ
  | 0, _, _, _, _ => tt_none
  | fu + 1, x2, x3, x4, μ => by
    have ih := fun (x2 : Int32) (x3 : Int32) (x4 : Int32) (μ : Mem) => wX1_addOthers_L8 (l := l) (e := e) (below := below) C hr a1 ha1 fu x2 x3 x4 μ
    show T p l e (rmD 1) s m args below meth c 5 A dsX D ad cA enV (if (μ 18 5) ≤ x4 then (fX1_addOthers_J48 a1 μ) else (if (5 : Int32) ≤ x3 then (fX1_addOthers_J48 a1 μ) else (if ((x2 >>> (x4 &&& 31)) &&& (1 : Int32)) = (0 : Int32) then (gr x3 5 <| lb (wr μ a1 x3.toNatClampNeg x4) fun m1 => lb (x3 + (1 : Int32)) fun (y2 : Int32) => fX1_addOthers_J42 a1 (fun x2 x3 x4 μ => fX1_addOthers_L8 a1 fu x2 x3 x4 μ) x2 y2 x4 m1) else (fX1_addOthers_J42 a1 (fun x2 x3 x4 μ => fX1_addOthers_L8 a1 fu x2 x3 x4 μ) x2 x3 x4 μ)))) 8 [(0, .ref (ad 23)), (1, .ref (ad a1)), (2, .int x2), (3, .int x3), (4, .int x4)] [] μ
    refine tt_iload C 4 dX1_addOthers_8 rfl ?_
    refine tt_aload_n C 0 dX1_addOthers_10 rfl rfl ?_
    refine tt_getR C (j := 0) (r0 := 18) dX_23 rfl fl_RX1_12 dX1_addOthers_11 ?_
    refine tt_getI C (j := 5) dX_18 rfl fl_RX1_154 dX1_addOthers_14 ?_
    refine tt_if (fun h1 => ?_) (fun h1 => ?_)
    · refine tt_icmp_geT (tgt := 48) C h1 dX1_addOthers_17 (by decide) ?_
      refine tt_sub [] (L2 := []) rfl ?_
      exact wX1_addOthers_J48 C hr a1 ha1 μ
    · refine tt_icmp_geF C 48 h1 dX1_addOthers_17 (by decide) ?_
      refine tt_iload_n C 3 dX1_addOthers_20 rfl rfl ?_
      refine tt_iconst (v := (5 : Int32)) C dX1_addOthers_21 (by decide) ?_
      refine tt_if (fun h2 => ?_) (fun h2 => ?_)
      · refine tt_icmp_geT (tgt := 48) C h2 dX1_addOthers_22 (by decide) ?_
        refine tt_sub [] (L2 := []) rfl ?_
        exact wX1_addOthers_J48 C hr a1 ha1 μ
      · refine tt_icmp_geF C 48 h2 dX1_addOthers_22 (by decide) ?_
        refine tt_iload_n C 2 dX1_addOthers_25 rfl rfl ?_
        refine tt_iload C 4 dX1_addOthers_26 rfl ?_
        refine tt_ishr C dX1_addOthers_28 ?_
        refine tt_iconst (v := (1 : Int32)) C dX1_addOthers_29 (by decide) ?_
        refine tt_iand C dX1_addOthers_30 ?_
        refine tt_if (fun h3 => ?_) (fun h3 => ?_)
        · refine tt_if_neF C 42 h3 dX1_addOthers_31 (by decide) ?_
          refine tt_aload_n C 1 dX1_addOthers_34 rfl rfl ?_
          refine tt_iload_n C 3 dX1_addOthers_35 rfl rfl ?_
          refine tt_iload C 4 dX1_addOthers_36 rfl ?_
          refine tt_gr (fun h4 => ?_)
          refine tt_iast C ha1 h4 dX1_addOthers_38 ?_
          refine tt_lbm (fun m1 => ?_)
          refine tt_iincB (d := (1 : Int32)) C 3 (fun y2 => [(3, .int y2), (0, .ref (ad 23)), (1, .ref (ad a1)), (2, .int x2), (4, .int x4)]) dX1_addOthers_39 rfl (by decide) (by decide) (fun _ => rfl) (fun y2 => ?_)
          refine tt_sub [1, 2, 3, 0, 4] (L2 := [(0, .ref (ad 23)), (1, .ref (ad a1)), (2, .int x2), (3, .int y2), (4, .int x4)]) rfl ?_
          exact wX1_addOthers_J42 C hr a1 ha1 (fun x2 x3 x4 μ => fX1_addOthers_L8 a1 fu x2 x3 x4 μ) (fun x2 x3 x4 μ => ih x2 x3 x4 μ) x2 y2 x4 m1
        · refine tt_if_neT (tgt := 42) C h3 dX1_addOthers_31 (by decide) ?_
          refine tt_sub [0, 1, 2, 3, 4] (L2 := [(0, .ref (ad 23)), (1, .ref (ad a1)), (2, .int x2), (3, .int x3), (4, .int x4)]) rfl ?_
          exact wX1_addOthers_J42 C hr a1 ha1 (fun x2 x3 x4 μ => fX1_addOthers_L8 a1 fu x2 x3 x4 μ) (fun x2 x3 x4 μ => ih x2 x3 x4 μ) x2 x3 x4 μ

def fX1_addOthers (a1 : Nat) (x2 : Int32) (μ : Mem) : Option (Mem) := bi (fJ6_bitCount_0f7a4 x2 μ) fun v2 m1 => lb (0 : Int32) fun (y3 : Int32) => fX1_addOthers_L8 a1 FU x2 v2 y3 m1
set_option maxHeartbeats 4000000 in
set_option maxRecDepth 100000 in
theorem wX1_addOthers {p : Program} {l : Launch} {e : Env} {s : State} {m : MethodId} {args : Array Value} {below : List Frame} {meth : Method} {c : Code} {A : Nat → Prop} {D : va_G} {ad : Nat → Nat} {cA : Nat → ClassId} (C : Cx p s m args meth c cX1_addOthers RX1 5 A dsX D ad cA (EX A ad)) (hr : meth.sig.returnType = none) (a1 : Nat) (ha1 : dsX[a1]? = some (0, 5, [])) (x2 : Int32) (μ : Mem) : T p l e (rmD 1) s m args below meth c 5 A dsX D ad cA enV (fX1_addOthers a1 x2 μ) 0 [(0, .ref (ad 23)), (1, .ref (ad a1)), (2, .int x2)] [] μ := by
  unfold fX1_addOthers
  refine tt_iload_n C 2 dX1_addOthers_0 rfl rfl ?_
  refine tt_bi (fun v2 m1 h1 => ?_)
  refine tt_callS (st := []) (As := [.int x2]) C (kJ6_bitCount_0f7a4 C.2.2.2.2.2.2.2.1 h1) mi_J6_bitCount_0f7a4 ml_RX1_193 mt_J6_bitCount_0f7a4 rfl (by decide) (by decide) (Nat.le_of_ble_eq_true rfl) dX1_addOthers_1 ?_
  refine tt_istore_n (L2 := [(3, .int v2), (0, .ref (ad 23)), (1, .ref (ad a1)), (2, .int x2)]) C dX1_addOthers_4 rfl (by decide) rfl ?_
  refine tt_iconst (v := (0 : Int32)) C dX1_addOthers_5 (by decide) ?_
  refine tt_lbi (fun y3 => ?_)
  refine tt_istore (L2 := [(4, .int y3), (3, .int v2), (0, .ref (ad 23)), (1, .ref (ad a1)), (2, .int x2)]) C dX1_addOthers_6 (by decide) rfl ?_
  refine tt_sub [2, 3, 4, 1, 0] (L2 := [(0, .ref (ad 23)), (1, .ref (ad a1)), (2, .int x2), (3, .int v2), (4, .int y3)]) rfl ?_
  exact wX1_addOthers_L8 C hr a1 ha1 FU x2 v2 y3 m1
theorem kX1_addOthers {l : Launch} {A : Nat → Prop} {D : va_G} {ad : Nat → Nat} {cA : Nat → ClassId} (hPk : Pk A dsX ad cA (EX A ad)) (a1 : Nat) (ha1 : dsX[a1]? = some (0, 5, [])) {x2 : Int32} {μ : Mem} {ν : Mem} (h : fX1_addOthers a1 x2 μ = some ν) : Ct l A dsX D ad cA (EX A ad) yX1_addOthers cX1_addOthers 5 none 1 [.ref (ad 23), .ref (ad a1), .int x2] μ (enV ν) :=
  ct_of (by decide) (Nat.le_of_ble_eq_true rfl) hPk rfl (fun p e s m args below meth c C hr => wX1_addOthers C hr a1 ha1 x2 μ) h

/-! BasketRound$Reader.fail(II)V -/
def fX1_fail_J17 (μ : Mem) : Option (Mem) := some μ
set_option maxHeartbeats 4000000 in
set_option maxRecDepth 100000 in
theorem wX1_fail_J17 {p : Program} {l : Launch} {e : Env} {s : State} {m : MethodId} {args : Array Value} {below : List Frame} {meth : Method} {c : Code} {A : Nat → Prop} {D : va_G} {ad : Nat → Nat} {cA : Nat → ClassId} (C : Cx p s m args meth c cX1_fail RX1 3 A dsX D ad cA (EX A ad)) (hr : meth.sig.returnType = none) (μ : Mem) : T p l e (rmD 0) s m args below meth c 3 A dsX D ad cA enV (fX1_fail_J17 μ) 17 [] [] μ := by
  unfold fX1_fail_J17
  exact tt_vret rfl C hr dX1_fail_17

def fX1_fail (x1 : Int32) (x2 : Int32) (μ : Mem) : Option (Mem) := if (μ 23 3) = (0 : Int32) then (lb (wr μ 23 3 x1) fun m1 => lb (wr m1 23 4 x2) fun m2 => fX1_fail_J17 m2) else (fX1_fail_J17 μ)
set_option maxHeartbeats 4000000 in
set_option maxRecDepth 100000 in
theorem wX1_fail {p : Program} {l : Launch} {e : Env} {s : State} {m : MethodId} {args : Array Value} {below : List Frame} {meth : Method} {c : Code} {A : Nat → Prop} {D : va_G} {ad : Nat → Nat} {cA : Nat → ClassId} (C : Cx p s m args meth c cX1_fail RX1 3 A dsX D ad cA (EX A ad)) (hr : meth.sig.returnType = none) (x1 : Int32) (x2 : Int32) (μ : Mem) : T p l e (rmD 0) s m args below meth c 3 A dsX D ad cA enV (fX1_fail x1 x2 μ) 0 [(0, .ref (ad 23)), (1, .int x1), (2, .int x2)] [] μ := by
  unfold fX1_fail
  refine tt_aload_n C 0 dX1_fail_0 rfl rfl ?_
  refine tt_getI C (j := 3) dX_23 rfl fl_RX1_29 dX1_fail_1 ?_
  refine tt_if (fun h1 => ?_) (fun h1 => ?_)
  · refine tt_if_neF C 17 h1 dX1_fail_4 (by decide) ?_
    refine tt_aload_n C 0 dX1_fail_7 rfl rfl ?_
    refine tt_iload_n C 1 dX1_fail_8 rfl rfl ?_
    refine tt_putI C (j := 3) dX_23 rfl fl_RX1_29 fw_1_3 dX1_fail_9 ?_
    refine tt_lbm (fun m1 => ?_)
    refine tt_aload_n C 0 dX1_fail_12 rfl rfl ?_
    refine tt_iload_n C 2 dX1_fail_13 rfl rfl ?_
    refine tt_putI C (j := 4) dX_23 rfl fl_RX1_32 fw_1_4 dX1_fail_14 ?_
    refine tt_lbm (fun m2 => ?_)
    refine tt_sub [] (L2 := []) rfl ?_
    exact wX1_fail_J17 C hr m2
  · refine tt_if_neT (tgt := 17) C h1 dX1_fail_4 (by decide) ?_
    refine tt_sub [] (L2 := []) rfl ?_
    exact wX1_fail_J17 C hr μ
theorem kX1_fail {l : Launch} {A : Nat → Prop} {D : va_G} {ad : Nat → Nat} {cA : Nat → ClassId} (hPk : Pk A dsX ad cA (EX A ad)) {x1 : Int32} {x2 : Int32} {μ : Mem} {ν : Mem} (h : fX1_fail x1 x2 μ = some ν) : Ct l A dsX D ad cA (EX A ad) yX1_fail cX1_fail 3 none 0 [.ref (ad 23), .int x1, .int x2] μ (enV ν) :=
  ct_of (by decide) (Nat.le_of_ble_eq_true rfl) hPk rfl (fun p e s m args below meth c C hr => wX1_fail C hr x1 x2 μ) h

/-! BasketRound.within(III)Z -/
def fX7_within_J15 (z0 : Int32) (μ : Mem) : Option (Int32 × Mem) := gd (z0 = (0 : Int32) ∨ z0 = (1 : Int32)) <| some (z0, μ)
set_option maxHeartbeats 4000000 in
set_option maxRecDepth 100000 in
theorem wX7_within_J15 {p : Program} {l : Launch} {e : Env} {s : State} {m : MethodId} {args : Array Value} {below : List Frame} {meth : Method} {c : Code} {A : Nat → Prop} {D : va_G} {ad : Nat → Nat} {cA : Nat → ClassId} (C : Cx p s m args meth c cX7_within RX7 3 A dsX D ad cA (EX A ad)) (hr : meth.sig.returnType = some .boolean) (z0 : Int32) (μ : Mem) : T p l e (rmD 0) s m args below meth c 3 A dsX D ad cA enI (fX7_within_J15 z0 μ) 15 [] [.int z0] μ := by
  unfold fX7_within_J15
  refine tt_gd (fun h1 => ?_)
  exact tt_zret rfl C hr h1 dX7_within_15

def fX7_within_J14 (μ : Mem) : Option (Int32 × Mem) := fX7_within_J15 (0 : Int32) μ
set_option maxHeartbeats 4000000 in
set_option maxRecDepth 100000 in
theorem wX7_within_J14 {p : Program} {l : Launch} {e : Env} {s : State} {m : MethodId} {args : Array Value} {below : List Frame} {meth : Method} {c : Code} {A : Nat → Prop} {D : va_G} {ad : Nat → Nat} {cA : Nat → ClassId} (C : Cx p s m args meth c cX7_within RX7 3 A dsX D ad cA (EX A ad)) (hr : meth.sig.returnType = some .boolean) (μ : Mem) : T p l e (rmD 0) s m args below meth c 3 A dsX D ad cA enI (fX7_within_J14 μ) 14 [] [] μ := by
  unfold fX7_within_J14
  refine tt_iconst (v := (0 : Int32)) C dX7_within_14 (by decide) ?_
  refine tt_sub [] (L2 := []) rfl ?_
  exact wX7_within_J15 C hr (0 : Int32) μ

def fX7_within (x0 : Int32) (x1 : Int32) (x2 : Int32) (μ : Mem) : Option (Int32 × Mem) := if x0 < x1 then (fX7_within_J14 μ) else (if x2 < x0 then (fX7_within_J14 μ) else (fX7_within_J15 (1 : Int32) μ))
set_option maxHeartbeats 4000000 in
set_option maxRecDepth 100000 in
theorem wX7_within {p : Program} {l : Launch} {e : Env} {s : State} {m : MethodId} {args : Array Value} {below : List Frame} {meth : Method} {c : Code} {A : Nat → Prop} {D : va_G} {ad : Nat → Nat} {cA : Nat → ClassId} (C : Cx p s m args meth c cX7_within RX7 3 A dsX D ad cA (EX A ad)) (hr : meth.sig.returnType = some .boolean) (x0 : Int32) (x1 : Int32) (x2 : Int32) (μ : Mem) : T p l e (rmD 0) s m args below meth c 3 A dsX D ad cA enI (fX7_within x0 x1 x2 μ) 0 [(0, .int x0), (1, .int x1), (2, .int x2)] [] μ := by
  unfold fX7_within
  refine tt_iload_n C 0 dX7_within_0 rfl rfl ?_
  refine tt_iload_n C 1 dX7_within_1 rfl rfl ?_
  refine tt_if (fun h1 => ?_) (fun h1 => ?_)
  · refine tt_icmp_ltT (tgt := 14) C h1 dX7_within_2 (by decide) ?_
    refine tt_sub [] (L2 := []) rfl ?_
    exact wX7_within_J14 C hr μ
  · refine tt_icmp_ltF C 14 h1 dX7_within_2 (by decide) ?_
    refine tt_iload_n C 0 dX7_within_5 rfl rfl ?_
    refine tt_iload_n C 2 dX7_within_6 rfl rfl ?_
    refine tt_if (fun h2 => ?_) (fun h2 => ?_)
    · refine tt_icmp_gtT (tgt := 14) C h2 dX7_within_7 (by decide) ?_
      refine tt_sub [] (L2 := []) rfl ?_
      exact wX7_within_J14 C hr μ
    · refine tt_icmp_gtF C 14 h2 dX7_within_7 (by decide) ?_
      refine tt_iconst (v := (1 : Int32)) C dX7_within_10 (by decide) ?_
      refine tt_goto (tgt := 15) C dX7_within_11 (by decide) ?_
      refine tt_sub [] (L2 := []) rfl ?_
      exact wX7_within_J15 C hr (1 : Int32) μ
theorem kX7_within {l : Launch} {A : Nat → Prop} {D : va_G} {ad : Nat → Nat} {cA : Nat → ClassId} (hPk : Pk A dsX ad cA (EX A ad)) {x0 : Int32} {x1 : Int32} {x2 : Int32} {μ : Mem} {v : Int32} {ν : Mem} (h : fX7_within x0 x1 x2 μ = some (v, ν)) : Ct l A dsX D ad cA (EX A ad) yX7_within cX7_within 3 (some .boolean) 0 [.int x0, .int x1, .int x2] μ (enI (v, ν)) :=
  ct_of (by decide) (Nat.le_of_ble_eq_true rfl) hPk rfl (fun p e s m args below meth c C hr => wX7_within C hr x0 x1 x2 μ) h

/-! BasketRound$Reader.checkNumber(II)V -/
def fX1_checkNumber_J52 (μ : Mem) : Option (Mem) := some μ
set_option maxHeartbeats 4000000 in
set_option maxRecDepth 100000 in
theorem wX1_checkNumber_J52 {p : Program} {l : Launch} {e : Env} {s : State} {m : MethodId} {args : Array Value} {below : List Frame} {meth : Method} {c : Code} {A : Nat → Prop} {D : va_G} {ad : Nat → Nat} {cA : Nat → ClassId} (C : Cx p s m args meth c cX1_checkNumber RX1 3 A dsX D ad cA (EX A ad)) (hr : meth.sig.returnType = none) (μ : Mem) : T p l e (rmD 1) s m args below meth c 3 A dsX D ad cA enV (fX1_checkNumber_J52 μ) 52 [] [] μ := by
  unfold fX1_checkNumber_J52
  exact tt_vret rfl C hr dX1_checkNumber_52

def fX1_checkNumber_J24 (x1 : Int32) (x2 : Int32) (μ : Mem) : Option (Mem) := if (μ 23 3) = (0 : Int32) then (bi (fX7_within (μ 23 8) x1 x2 μ) fun v2 m1 => if v2 = (0 : Int32) then (bv (fX1_fail (3 : Int32) (m1 23 6) m1) fun m3 => fX1_checkNumber_J52 m3) else (fX1_checkNumber_J52 m1)) else (fX1_checkNumber_J52 μ)
set_option maxHeartbeats 4000000 in
set_option maxRecDepth 100000 in
theorem wX1_checkNumber_J24 {p : Program} {l : Launch} {e : Env} {s : State} {m : MethodId} {args : Array Value} {below : List Frame} {meth : Method} {c : Code} {A : Nat → Prop} {D : va_G} {ad : Nat → Nat} {cA : Nat → ClassId} (C : Cx p s m args meth c cX1_checkNumber RX1 3 A dsX D ad cA (EX A ad)) (hr : meth.sig.returnType = none) (x1 : Int32) (x2 : Int32) (μ : Mem) : T p l e (rmD 1) s m args below meth c 3 A dsX D ad cA enV (fX1_checkNumber_J24 x1 x2 μ) 24 [(0, .ref (ad 23)), (1, .int x1), (2, .int x2)] [] μ := by
  unfold fX1_checkNumber_J24
  refine tt_aload_n C 0 dX1_checkNumber_24 rfl rfl ?_
  refine tt_getI C (j := 3) dX_23 rfl fl_RX1_29 dX1_checkNumber_25 ?_
  refine tt_if (fun h1 => ?_) (fun h1 => ?_)
  · refine tt_if_neF C 52 h1 dX1_checkNumber_28 (by decide) ?_
    refine tt_aload_n C 0 dX1_checkNumber_31 rfl rfl ?_
    refine tt_getI C (j := 8) dX_23 rfl fl_RX1_89 dX1_checkNumber_32 ?_
    refine tt_iload_n C 1 dX1_checkNumber_35 rfl rfl ?_
    refine tt_iload_n C 2 dX1_checkNumber_36 rfl rfl ?_
    refine tt_bi (fun v2 m1 h2 => ?_)
    refine tt_callSN (st := []) (As := [.int (μ 23 8), .int x1, .int x2]) C (kX7_within C.2.2.2.2.2.2.2.1 h2) mi_X7_within (nx_RX1_186 C) mt_X7_within rfl (by decide) (by decide) (Nat.le_of_ble_eq_true rfl) dX1_checkNumber_37 ?_
    refine tt_if (fun h3 => ?_) (fun h3 => ?_)
    · refine tt_if_neF C 52 h3 dX1_checkNumber_40 (by decide) ?_
      refine tt_aload_n C 0 dX1_checkNumber_43 rfl rfl ?_
      refine tt_iconst (v := (3 : Int32)) C dX1_checkNumber_44 (by decide) ?_
      refine tt_aload_n C 0 dX1_checkNumber_45 rfl rfl ?_
      refine tt_getI C (j := 6) dX_23 rfl fl_RX1_79 dX1_checkNumber_46 ?_
      refine tt_bv (fun m3 h4 => ?_)
      refine tt_callV (st := []) (As := [.int (3 : Int32), .int (m1 23 6)]) C (kX1_fail C.2.2.2.2.2.2.2.1 h4) mi_X1_fail ml_RX1_92 mv_X1_fail ms_X1_fail (q := (RX1, TX1, 12)) dX_23 rfl rfl (by decide) (by decide) (Nat.le_of_ble_eq_true rfl) dX1_checkNumber_49 ?_
      refine tt_sub [] (L2 := []) rfl ?_
      exact wX1_checkNumber_J52 C hr m3
    · refine tt_if_neT (tgt := 52) C h3 dX1_checkNumber_40 (by decide) ?_
      refine tt_sub [] (L2 := []) rfl ?_
      exact wX1_checkNumber_J52 C hr m1
  · refine tt_if_neT (tgt := 52) C h1 dX1_checkNumber_28 (by decide) ?_
    refine tt_sub [] (L2 := []) rfl ?_
    exact wX1_checkNumber_J52 C hr μ

def fX1_checkNumber (x1 : Int32) (x2 : Int32) (μ : Mem) : Option (Mem) := if (μ 23 3) = (0 : Int32) then (if (μ 23 5) = (2 : Int32) then (fX1_checkNumber_J24 x1 x2 μ) else (bv (fX1_fail (2 : Int32) (μ 23 6) μ) fun m1 => fX1_checkNumber_J24 x1 x2 m1)) else (fX1_checkNumber_J24 x1 x2 μ)
set_option maxHeartbeats 4000000 in
set_option maxRecDepth 100000 in
theorem wX1_checkNumber {p : Program} {l : Launch} {e : Env} {s : State} {m : MethodId} {args : Array Value} {below : List Frame} {meth : Method} {c : Code} {A : Nat → Prop} {D : va_G} {ad : Nat → Nat} {cA : Nat → ClassId} (C : Cx p s m args meth c cX1_checkNumber RX1 3 A dsX D ad cA (EX A ad)) (hr : meth.sig.returnType = none) (x1 : Int32) (x2 : Int32) (μ : Mem) : T p l e (rmD 1) s m args below meth c 3 A dsX D ad cA enV (fX1_checkNumber x1 x2 μ) 0 [(0, .ref (ad 23)), (1, .int x1), (2, .int x2)] [] μ := by
  unfold fX1_checkNumber
  refine tt_aload_n C 0 dX1_checkNumber_0 rfl rfl ?_
  refine tt_getI C (j := 3) dX_23 rfl fl_RX1_29 dX1_checkNumber_1 ?_
  refine tt_if (fun h1 => ?_) (fun h1 => ?_)
  · refine tt_if_neF C 24 h1 dX1_checkNumber_4 (by decide) ?_
    refine tt_aload_n C 0 dX1_checkNumber_7 rfl rfl ?_
    refine tt_getI C (j := 5) dX_23 rfl fl_RX1_50 dX1_checkNumber_8 ?_
    refine tt_iconst (v := (2 : Int32)) C dX1_checkNumber_11 (by decide) ?_
    refine tt_if (fun h2 => ?_) (fun h2 => ?_)
    · refine tt_icmp_eqT (tgt := 24) C h2 dX1_checkNumber_12 (by decide) ?_
      refine tt_sub [0, 1, 2] (L2 := [(0, .ref (ad 23)), (1, .int x1), (2, .int x2)]) rfl ?_
      exact wX1_checkNumber_J24 C hr x1 x2 μ
    · refine tt_icmp_eqF C 24 h2 dX1_checkNumber_12 (by decide) ?_
      refine tt_aload_n C 0 dX1_checkNumber_15 rfl rfl ?_
      refine tt_iconst (v := (2 : Int32)) C dX1_checkNumber_16 (by decide) ?_
      refine tt_aload_n C 0 dX1_checkNumber_17 rfl rfl ?_
      refine tt_getI C (j := 6) dX_23 rfl fl_RX1_79 dX1_checkNumber_18 ?_
      refine tt_bv (fun m1 h3 => ?_)
      refine tt_callV (st := []) (As := [.int (2 : Int32), .int (μ 23 6)]) C (kX1_fail C.2.2.2.2.2.2.2.1 h3) mi_X1_fail ml_RX1_92 mv_X1_fail ms_X1_fail (q := (RX1, TX1, 12)) dX_23 rfl rfl (by decide) (by decide) (Nat.le_of_ble_eq_true rfl) dX1_checkNumber_21 ?_
      refine tt_sub [0, 1, 2] (L2 := [(0, .ref (ad 23)), (1, .int x1), (2, .int x2)]) rfl ?_
      exact wX1_checkNumber_J24 C hr x1 x2 m1
  · refine tt_if_neT (tgt := 24) C h1 dX1_checkNumber_4 (by decide) ?_
    refine tt_sub [0, 1, 2] (L2 := [(0, .ref (ad 23)), (1, .int x1), (2, .int x2)]) rfl ?_
    exact wX1_checkNumber_J24 C hr x1 x2 μ
theorem kX1_checkNumber {l : Launch} {A : Nat → Prop} {D : va_G} {ad : Nat → Nat} {cA : Nat → ClassId} (hPk : Pk A dsX ad cA (EX A ad)) {x1 : Int32} {x2 : Int32} {μ : Mem} {ν : Mem} (h : fX1_checkNumber x1 x2 μ = some ν) : Ct l A dsX D ad cA (EX A ad) yX1_checkNumber cX1_checkNumber 3 none 1 [.ref (ad 23), .int x1, .int x2] μ (enV ν) :=
  ct_of (by decide) (Nat.le_of_ble_eq_true rfl) hPk rfl (fun p e s m args below meth c C hr => wX1_checkNumber C hr x1 x2 μ) h

/-! BasketRound$Shop.ofOrder(II)I -/
def fX4_ofOrder (sh : Nat) (x1 : Int32) (x2 : Int32) (μ : Mem) : Option (Int32 × Mem) := gr ((x1 * (5 : Int32)) + x2) 25 <| some ((μ (sh + 2) ((x1 * (5 : Int32)) + x2).toNatClampNeg), μ)
set_option maxHeartbeats 4000000 in
set_option maxRecDepth 100000 in
theorem wX4_ofOrder {p : Program} {l : Launch} {e : Env} {s : State} {m : MethodId} {args : Array Value} {below : List Frame} {meth : Method} {c : Code} {A : Nat → Prop} {D : va_G} {ad : Nat → Nat} {cA : Nat → ClassId} (C : Cx p s m args meth c cX4_ofOrder RX4 3 A dsX D ad cA (EX A ad)) (hr : meth.sig.returnType = some .int) (sh : Nat) (hsh : isShop sh) (x1 : Int32) (x2 : Int32) (μ : Mem) : T p l e (rmD 0) s m args below meth c 3 A dsX D ad cA enI (fX4_ofOrder sh x1 x2 μ) 0 [(0, .ref (ad sh)), (1, .int x1), (2, .int x2)] [] μ := by
  unfold fX4_ofOrder
  refine tt_aload_n C 0 dX4_ofOrder_0 rfl rfl ?_
  refine tt_getR C (j := 1) (r0 := (sh + 2)) hsh.1 rfl fl_RX4_15 dX4_ofOrder_1 ?_
  refine tt_iload_n C 1 dX4_ofOrder_4 rfl rfl ?_
  refine tt_iconst (v := (5 : Int32)) C dX4_ofOrder_5 (by decide) ?_
  refine tt_imul C dX4_ofOrder_6 ?_
  refine tt_iload_n C 2 dX4_ofOrder_7 rfl rfl ?_
  refine tt_iadd C dX4_ofOrder_8 ?_
  refine tt_gr (fun h1 => ?_)
  refine tt_iald C hsh.2.2.1 h1 dX4_ofOrder_9 ?_
  exact tt_iret rfl C hr dX4_ofOrder_10
theorem kX4_ofOrder {l : Launch} {A : Nat → Prop} {D : va_G} {ad : Nat → Nat} {cA : Nat → ClassId} (hPk : Pk A dsX ad cA (EX A ad)) (sh : Nat) (hsh : isShop sh) {x1 : Int32} {x2 : Int32} {μ : Mem} {v : Int32} {ν : Mem} (h : fX4_ofOrder sh x1 x2 μ = some (v, ν)) : Ct l A dsX D ad cA (EX A ad) yX4_ofOrder cX4_ofOrder 3 (some .int) 0 [.ref (ad sh), .int x1, .int x2] μ (enI (v, ν)) :=
  ct_of (by decide) (Nat.le_of_ble_eq_true rfl) hPk rfl (fun p e s m args below meth c C hr => wX4_ofOrder C hr sh hsh x1 x2 μ) h

/-! BasketRound$Reader.findMissing()V -/
def fX1_findMissing_J91 (μ : Mem) : Option (Mem) := some μ
set_option maxHeartbeats 4000000 in
set_option maxRecDepth 100000 in
theorem wX1_findMissing_J91 {p : Program} {l : Launch} {e : Env} {s : State} {m : MethodId} {args : Array Value} {below : List Frame} {meth : Method} {c : Code} {A : Nat → Prop} {D : va_G} {ad : Nat → Nat} {cA : Nat → ClassId} (C : Cx p s m args meth c cX1_findMissing RX1 3 A dsX D ad cA (EX A ad)) (hr : meth.sig.returnType = none) (μ : Mem) : T p l e (rmD 1) s m args below meth c 3 A dsX D ad cA enV (fX1_findMissing_J91 μ) 91 [] [] μ := by
  unfold fX1_findMissing_J91
  exact tt_vret rfl C hr dX1_findMissing_91

def fX1_findMissing_J67 (k28 : Int32 → Int32 → Mem → Option (Mem)) (x2 : Int32) (z0 : Int32) (μ : Mem) : Option (Mem) := lb (x2 + (1 : Int32)) fun (y1 : Int32) => k28 z0 y1 μ
set_option maxHeartbeats 4000000 in
set_option maxRecDepth 100000 in
theorem wX1_findMissing_J67 {p : Program} {l : Launch} {e : Env} {s : State} {m : MethodId} {args : Array Value} {below : List Frame} {meth : Method} {c : Code} {A : Nat → Prop} {D : va_G} {ad : Nat → Nat} {cA : Nat → ClassId} (C : Cx p s m args meth c cX1_findMissing RX1 3 A dsX D ad cA (EX A ad)) (hr : meth.sig.returnType = none) (k28 : Int32 → Int32 → Mem → Option (Mem)) (hk28 : ∀ (x1 : Int32) (x2 : Int32) (μ : Mem), T p l e (rmD 1) s m args below meth c 3 A dsX D ad cA enV (k28 x1 x2 μ) 28 [(0, .ref (ad 23)), (1, .int x1), (2, .int x2)] [] μ) (x2 : Int32) (z0 : Int32) (μ : Mem) : T p l e (rmD 1) s m args below meth c 3 A dsX D ad cA enV (fX1_findMissing_J67 k28 x2 z0 μ) 67 [(0, .ref (ad 23)), (2, .int x2)] [.int z0] μ := by
  unfold fX1_findMissing_J67
  refine tt_istore_n (L2 := [(1, .int z0), (0, .ref (ad 23)), (2, .int x2)]) C dX1_findMissing_67 rfl (by decide) rfl ?_
  refine tt_iincB (d := (1 : Int32)) C 2 (fun y1 => [(2, .int y1), (1, .int z0), (0, .ref (ad 23))]) dX1_findMissing_68 rfl (by decide) (by decide) (fun _ => rfl) (fun y1 => ?_)
  refine tt_goto (tgt := 28) C dX1_findMissing_71 (by decide) ?_
  refine tt_sub [2, 1, 0] (L2 := [(0, .ref (ad 23)), (1, .int z0), (2, .int y1)]) rfl ?_
  exact hk28 z0 y1 μ

def fX1_findMissing_J62 (k28 : Int32 → Int32 → Mem → Option (Mem)) (x2 : Int32) (μ : Mem) : Option (Mem) := fX1_findMissing_J67 k28 x2 (1 : Int32) μ
set_option maxHeartbeats 4000000 in
set_option maxRecDepth 100000 in
theorem wX1_findMissing_J62 {p : Program} {l : Launch} {e : Env} {s : State} {m : MethodId} {args : Array Value} {below : List Frame} {meth : Method} {c : Code} {A : Nat → Prop} {D : va_G} {ad : Nat → Nat} {cA : Nat → ClassId} (C : Cx p s m args meth c cX1_findMissing RX1 3 A dsX D ad cA (EX A ad)) (hr : meth.sig.returnType = none) (k28 : Int32 → Int32 → Mem → Option (Mem)) (hk28 : ∀ (x1 : Int32) (x2 : Int32) (μ : Mem), T p l e (rmD 1) s m args below meth c 3 A dsX D ad cA enV (k28 x1 x2 μ) 28 [(0, .ref (ad 23)), (1, .int x1), (2, .int x2)] [] μ) (x2 : Int32) (μ : Mem) : T p l e (rmD 1) s m args below meth c 3 A dsX D ad cA enV (fX1_findMissing_J62 k28 x2 μ) 62 [(0, .ref (ad 23)), (2, .int x2)] [] μ := by
  unfold fX1_findMissing_J62
  refine tt_iconst (v := (1 : Int32)) C dX1_findMissing_62 (by decide) ?_
  refine tt_goto (tgt := 67) C dX1_findMissing_63 (by decide) ?_
  refine tt_sub [0, 1] (L2 := [(0, .ref (ad 23)), (2, .int x2)]) rfl ?_
  exact wX1_findMissing_J67 C hr k28 hk28 x2 (1 : Int32) μ

def fX1_findMissing_L28 : Nat → Int32 → Int32 → Mem → Option (Mem)
  | 0, _, _, _ => none
  | fu + 1, x1, x2, μ => if (μ 18 5) ≤ x2 then (if x1 = (0 : Int32) then (fX1_findMissing_J91 μ) else (bv (fX1_fail (6 : Int32) (μ 1 1) μ) fun m1 => fX1_findMissing_J91 m1)) else (if x1 = (0 : Int32) then (bi (fX4_ofOrder 18 x2 (1 : Int32) μ) fun v3 m2 => if v3 ≤ (m2 18 4) then (fX1_findMissing_J67 (fun x1 x2 μ => fX1_findMissing_L28 fu x1 x2 μ) x2 (0 : Int32) m2) else (fX1_findMissing_J62 (fun x1 x2 μ => fX1_findMissing_L28 fu x1 x2 μ) x2 m2)) else (fX1_findMissing_J62 (fun x1 x2 μ => fX1_findMissing_L28 fu x1 x2 μ) x2 μ))
set_option maxHeartbeats 4000000 in
set_option maxRecDepth 100000 in
theorem wX1_findMissing_L28 {p : Program} {l : Launch} {e : Env} {s : State} {m : MethodId} {args : Array Value} {below : List Frame} {meth : Method} {c : Code} {A : Nat → Prop} {D : va_G} {ad : Nat → Nat} {cA : Nat → ClassId} (C : Cx p s m args meth c cX1_findMissing RX1 3 A dsX D ad cA (EX A ad)) (hr : meth.sig.returnType = none) : ∀ (fu : Nat) (x1 : Int32) (x2 : Int32) (μ : Mem), T p l e (rmD 1) s m args below meth c 3 A dsX D ad cA enV (fX1_findMissing_L28 fu x1 x2 μ) 28 [(0, .ref (ad 23)), (1, .int x1), (2, .int x2)] [] μ
  | 0, _, _, _ => tt_none
  | fu + 1, x1, x2, μ => by
    have ih := fun (x1 : Int32) (x2 : Int32) (μ : Mem) => wX1_findMissing_L28 (l := l) (e := e) (below := below) C hr fu x1 x2 μ
    show T p l e (rmD 1) s m args below meth c 3 A dsX D ad cA enV (if (μ 18 5) ≤ x2 then (if x1 = (0 : Int32) then (fX1_findMissing_J91 μ) else (bv (fX1_fail (6 : Int32) (μ 1 1) μ) fun m1 => fX1_findMissing_J91 m1)) else (if x1 = (0 : Int32) then (bi (fX4_ofOrder 18 x2 (1 : Int32) μ) fun v3 m2 => if v3 ≤ (m2 18 4) then (fX1_findMissing_J67 (fun x1 x2 μ => fX1_findMissing_L28 fu x1 x2 μ) x2 (0 : Int32) m2) else (fX1_findMissing_J62 (fun x1 x2 μ => fX1_findMissing_L28 fu x1 x2 μ) x2 m2)) else (fX1_findMissing_J62 (fun x1 x2 μ => fX1_findMissing_L28 fu x1 x2 μ) x2 μ))) 28 [(0, .ref (ad 23)), (1, .int x1), (2, .int x2)] [] μ
    refine tt_iload_n C 2 dX1_findMissing_28 rfl rfl ?_
    refine tt_aload_n C 0 dX1_findMissing_29 rfl rfl ?_
    refine tt_getR C (j := 0) (r0 := 18) dX_23 rfl fl_RX1_12 dX1_findMissing_30 ?_
    refine tt_getI C (j := 5) dX_18 rfl fl_RX1_154 dX1_findMissing_33 ?_
    refine tt_if (fun h1 => ?_) (fun h1 => ?_)
    · refine tt_icmp_geT (tgt := 74) C h1 dX1_findMissing_36 (by decide) ?_
      refine tt_iload_n C 1 dX1_findMissing_74 rfl rfl ?_
      refine tt_if (fun h2 => ?_) (fun h2 => ?_)
      · refine tt_if_eqT (tgt := 91) C h2 dX1_findMissing_75 (by decide) ?_
        refine tt_sub [] (L2 := []) rfl ?_
        exact wX1_findMissing_J91 C hr μ
      · refine tt_if_eqF C 91 h2 dX1_findMissing_75 (by decide) ?_
        refine tt_aload_n C 0 dX1_findMissing_78 rfl rfl ?_
        refine tt_bipush (v := (6 : Int32)) C dX1_findMissing_79 (by decide) ?_
        refine tt_aload_n C 0 dX1_findMissing_81 rfl rfl ?_
        refine tt_getR C (j := 1) (r0 := 1) dX_23 rfl fl_RX1_18 dX1_findMissing_82 ?_
        refine tt_getI C (j := 1) dX_1 rfl fl_RX1_70 dX1_findMissing_85 ?_
        refine tt_bv (fun m1 h3 => ?_)
        refine tt_callV (st := []) (As := [.int (6 : Int32), .int (μ 1 1)]) C (kX1_fail C.2.2.2.2.2.2.2.1 h3) mi_X1_fail ml_RX1_92 mv_X1_fail ms_X1_fail (q := (RX1, TX1, 12)) dX_23 rfl rfl (by decide) (by decide) (Nat.le_of_ble_eq_true rfl) dX1_findMissing_88 ?_
        refine tt_sub [] (L2 := []) rfl ?_
        exact wX1_findMissing_J91 C hr m1
    · refine tt_icmp_geF C 74 h1 dX1_findMissing_36 (by decide) ?_
      refine tt_iload_n C 1 dX1_findMissing_39 rfl rfl ?_
      refine tt_if (fun h4 => ?_) (fun h4 => ?_)
      · refine tt_if_neF C 62 h4 dX1_findMissing_40 (by decide) ?_
        refine tt_aload_n C 0 dX1_findMissing_43 rfl rfl ?_
        refine tt_getR C (j := 0) (r0 := 18) dX_23 rfl fl_RX1_12 dX1_findMissing_44 ?_
        refine tt_iload_n C 2 dX1_findMissing_47 rfl rfl ?_
        refine tt_iconst (v := (1 : Int32)) C dX1_findMissing_48 (by decide) ?_
        refine tt_bi (fun v3 m2 h5 => ?_)
        refine tt_callV (st := []) (As := [.int x2, .int (1 : Int32)]) C (kX4_ofOrder C.2.2.2.2.2.2.2.1 18 hSh_18 h5) mi_X4_ofOrder ml_RX1_190 mv_X4_ofOrder ms_X4_ofOrder (q := (RX4, TX4, 8)) dX_18 rfl rfl (by decide) (by decide) (Nat.le_of_ble_eq_true rfl) dX1_findMissing_49 ?_
        refine tt_aload_n C 0 dX1_findMissing_52 rfl rfl ?_
        refine tt_getR C (j := 0) (r0 := 18) dX_23 rfl fl_RX1_12 dX1_findMissing_53 ?_
        refine tt_getI C (j := 4) dX_18 rfl fl_RX1_149 dX1_findMissing_56 ?_
        refine tt_if (fun h6 => ?_) (fun h6 => ?_)
        · refine tt_icmp_leT (tgt := 66) C h6 dX1_findMissing_59 (by decide) ?_
          refine tt_iconst (v := (0 : Int32)) C dX1_findMissing_66 (by decide) ?_
          refine tt_sub [0, 2] (L2 := [(0, .ref (ad 23)), (2, .int x2)]) rfl ?_
          exact wX1_findMissing_J67 C hr (fun x1 x2 μ => fX1_findMissing_L28 fu x1 x2 μ) (fun x1 x2 μ => ih x1 x2 μ) x2 (0 : Int32) m2
        · refine tt_icmp_leF C 66 h6 dX1_findMissing_59 (by decide) ?_
          refine tt_sub [0, 2] (L2 := [(0, .ref (ad 23)), (2, .int x2)]) rfl ?_
          exact wX1_findMissing_J62 C hr (fun x1 x2 μ => fX1_findMissing_L28 fu x1 x2 μ) (fun x1 x2 μ => ih x1 x2 μ) x2 m2
      · refine tt_if_neT (tgt := 62) C h4 dX1_findMissing_40 (by decide) ?_
        refine tt_sub [0, 2] (L2 := [(0, .ref (ad 23)), (2, .int x2)]) rfl ?_
        exact wX1_findMissing_J62 C hr (fun x1 x2 μ => fX1_findMissing_L28 fu x1 x2 μ) (fun x1 x2 μ => ih x1 x2 μ) x2 μ

def fX1_findMissing_J25 (z0 : Int32) (μ : Mem) : Option (Mem) := lb (0 : Int32) fun (y1 : Int32) => fX1_findMissing_L28 FU z0 y1 μ
set_option maxHeartbeats 4000000 in
set_option maxRecDepth 100000 in
theorem wX1_findMissing_J25 {p : Program} {l : Launch} {e : Env} {s : State} {m : MethodId} {args : Array Value} {below : List Frame} {meth : Method} {c : Code} {A : Nat → Prop} {D : va_G} {ad : Nat → Nat} {cA : Nat → ClassId} (C : Cx p s m args meth c cX1_findMissing RX1 3 A dsX D ad cA (EX A ad)) (hr : meth.sig.returnType = none) (z0 : Int32) (μ : Mem) : T p l e (rmD 1) s m args below meth c 3 A dsX D ad cA enV (fX1_findMissing_J25 z0 μ) 25 [(0, .ref (ad 23))] [.int z0] μ := by
  unfold fX1_findMissing_J25
  refine tt_istore_n (L2 := [(1, .int z0), (0, .ref (ad 23))]) C dX1_findMissing_25 rfl (by decide) rfl ?_
  refine tt_iconst (v := (0 : Int32)) C dX1_findMissing_26 (by decide) ?_
  refine tt_lbi (fun y1 => ?_)
  refine tt_istore_n (L2 := [(2, .int y1), (1, .int z0), (0, .ref (ad 23))]) C dX1_findMissing_27 rfl (by decide) rfl ?_
  refine tt_sub [2, 1, 0] (L2 := [(0, .ref (ad 23)), (1, .int z0), (2, .int y1)]) rfl ?_
  exact wX1_findMissing_L28 C hr FU z0 y1 μ

def fX1_findMissing (μ : Mem) : Option (Mem) := if (((μ 23 10) ||| (μ 23 11)) >>> ((μ 18 5) &&& 31)) = (0 : Int32) then (fX1_findMissing_J25 (0 : Int32) μ) else (fX1_findMissing_J25 (1 : Int32) μ)
set_option maxHeartbeats 4000000 in
set_option maxRecDepth 100000 in
theorem wX1_findMissing {p : Program} {l : Launch} {e : Env} {s : State} {m : MethodId} {args : Array Value} {below : List Frame} {meth : Method} {c : Code} {A : Nat → Prop} {D : va_G} {ad : Nat → Nat} {cA : Nat → ClassId} (C : Cx p s m args meth c cX1_findMissing RX1 3 A dsX D ad cA (EX A ad)) (hr : meth.sig.returnType = none) (μ : Mem) : T p l e (rmD 1) s m args below meth c 3 A dsX D ad cA enV (fX1_findMissing μ) 0 [(0, .ref (ad 23))] [] μ := by
  unfold fX1_findMissing
  refine tt_aload_n C 0 dX1_findMissing_0 rfl rfl ?_
  refine tt_getI C (j := 10) dX_23 rfl fl_RX1_41 dX1_findMissing_1 ?_
  refine tt_aload_n C 0 dX1_findMissing_4 rfl rfl ?_
  refine tt_getI C (j := 11) dX_23 rfl fl_RX1_44 dX1_findMissing_5 ?_
  refine tt_ior C dX1_findMissing_8 ?_
  refine tt_aload_n C 0 dX1_findMissing_9 rfl rfl ?_
  refine tt_getR C (j := 0) (r0 := 18) dX_23 rfl fl_RX1_12 dX1_findMissing_10 ?_
  refine tt_getI C (j := 5) dX_18 rfl fl_RX1_154 dX1_findMissing_13 ?_
  refine tt_ishr C dX1_findMissing_16 ?_
  refine tt_if (fun h1 => ?_) (fun h1 => ?_)
  · refine tt_if_eqT (tgt := 24) C h1 dX1_findMissing_17 (by decide) ?_
    refine tt_iconst (v := (0 : Int32)) C dX1_findMissing_24 (by decide) ?_
    refine tt_sub [0] (L2 := [(0, .ref (ad 23))]) rfl ?_
    exact wX1_findMissing_J25 C hr (0 : Int32) μ
  · refine tt_if_eqF C 24 h1 dX1_findMissing_17 (by decide) ?_
    refine tt_iconst (v := (1 : Int32)) C dX1_findMissing_20 (by decide) ?_
    refine tt_goto (tgt := 25) C dX1_findMissing_21 (by decide) ?_
    refine tt_sub [0] (L2 := [(0, .ref (ad 23))]) rfl ?_
    exact wX1_findMissing_J25 C hr (1 : Int32) μ
theorem kX1_findMissing {l : Launch} {A : Nat → Prop} {D : va_G} {ad : Nat → Nat} {cA : Nat → ClassId} (hPk : Pk A dsX ad cA (EX A ad)) {μ : Mem} {ν : Mem} (h : fX1_findMissing μ = some ν) : Ct l A dsX D ad cA (EX A ad) yX1_findMissing cX1_findMissing 3 none 1 [.ref (ad 23)] μ (enV ν) :=
  ct_of (by decide) (Nat.le_of_ble_eq_true rfl) hPk rfl (fun p e s m args below meth c C hr => wX1_findMissing C hr μ) h

/-! BasketRound$Reader.isFigure(I)Z -/
def fX1_isFigure_J17 (z0 : Int32) (μ : Mem) : Option (Int32 × Mem) := gd (z0 = (0 : Int32) ∨ z0 = (1 : Int32)) <| some (z0, μ)
set_option maxHeartbeats 4000000 in
set_option maxRecDepth 100000 in
theorem wX1_isFigure_J17 {p : Program} {l : Launch} {e : Env} {s : State} {m : MethodId} {args : Array Value} {below : List Frame} {meth : Method} {c : Code} {A : Nat → Prop} {D : va_G} {ad : Nat → Nat} {cA : Nat → ClassId} (C : Cx p s m args meth c cX1_isFigure RX1 1 A dsX D ad cA (EX A ad)) (hr : meth.sig.returnType = some .boolean) (z0 : Int32) (μ : Mem) : T p l e (rmD 0) s m args below meth c 1 A dsX D ad cA enI (fX1_isFigure_J17 z0 μ) 17 [] [.int z0] μ := by
  unfold fX1_isFigure_J17
  refine tt_gd (fun h1 => ?_)
  exact tt_zret rfl C hr h1 dX1_isFigure_17

def fX1_isFigure_J16 (μ : Mem) : Option (Int32 × Mem) := fX1_isFigure_J17 (0 : Int32) μ
set_option maxHeartbeats 4000000 in
set_option maxRecDepth 100000 in
theorem wX1_isFigure_J16 {p : Program} {l : Launch} {e : Env} {s : State} {m : MethodId} {args : Array Value} {below : List Frame} {meth : Method} {c : Code} {A : Nat → Prop} {D : va_G} {ad : Nat → Nat} {cA : Nat → ClassId} (C : Cx p s m args meth c cX1_isFigure RX1 1 A dsX D ad cA (EX A ad)) (hr : meth.sig.returnType = some .boolean) (μ : Mem) : T p l e (rmD 0) s m args below meth c 1 A dsX D ad cA enI (fX1_isFigure_J16 μ) 16 [] [] μ := by
  unfold fX1_isFigure_J16
  refine tt_iconst (v := (0 : Int32)) C dX1_isFigure_16 (by decide) ?_
  refine tt_sub [] (L2 := []) rfl ?_
  exact wX1_isFigure_J17 C hr (0 : Int32) μ

def fX1_isFigure (x0 : Int32) (μ : Mem) : Option (Int32 × Mem) := if x0 < (48 : Int32) then (fX1_isFigure_J16 μ) else (if (57 : Int32) < x0 then (fX1_isFigure_J16 μ) else (fX1_isFigure_J17 (1 : Int32) μ))
set_option maxHeartbeats 4000000 in
set_option maxRecDepth 100000 in
theorem wX1_isFigure {p : Program} {l : Launch} {e : Env} {s : State} {m : MethodId} {args : Array Value} {below : List Frame} {meth : Method} {c : Code} {A : Nat → Prop} {D : va_G} {ad : Nat → Nat} {cA : Nat → ClassId} (C : Cx p s m args meth c cX1_isFigure RX1 1 A dsX D ad cA (EX A ad)) (hr : meth.sig.returnType = some .boolean) (x0 : Int32) (μ : Mem) : T p l e (rmD 0) s m args below meth c 1 A dsX D ad cA enI (fX1_isFigure x0 μ) 0 [(0, .int x0)] [] μ := by
  unfold fX1_isFigure
  refine tt_iload_n C 0 dX1_isFigure_0 rfl rfl ?_
  refine tt_bipush (v := (48 : Int32)) C dX1_isFigure_1 (by decide) ?_
  refine tt_if (fun h1 => ?_) (fun h1 => ?_)
  · refine tt_icmp_ltT (tgt := 16) C h1 dX1_isFigure_3 (by decide) ?_
    refine tt_sub [] (L2 := []) rfl ?_
    exact wX1_isFigure_J16 C hr μ
  · refine tt_icmp_ltF C 16 h1 dX1_isFigure_3 (by decide) ?_
    refine tt_iload_n C 0 dX1_isFigure_6 rfl rfl ?_
    refine tt_bipush (v := (57 : Int32)) C dX1_isFigure_7 (by decide) ?_
    refine tt_if (fun h2 => ?_) (fun h2 => ?_)
    · refine tt_icmp_gtT (tgt := 16) C h2 dX1_isFigure_9 (by decide) ?_
      refine tt_sub [] (L2 := []) rfl ?_
      exact wX1_isFigure_J16 C hr μ
    · refine tt_icmp_gtF C 16 h2 dX1_isFigure_9 (by decide) ?_
      refine tt_iconst (v := (1 : Int32)) C dX1_isFigure_12 (by decide) ?_
      refine tt_goto (tgt := 17) C dX1_isFigure_13 (by decide) ?_
      refine tt_sub [] (L2 := []) rfl ?_
      exact wX1_isFigure_J17 C hr (1 : Int32) μ
theorem kX1_isFigure {l : Launch} {A : Nat → Prop} {D : va_G} {ad : Nat → Nat} {cA : Nat → ClassId} (hPk : Pk A dsX ad cA (EX A ad)) {x0 : Int32} {μ : Mem} {v : Int32} {ν : Mem} (h : fX1_isFigure x0 μ = some (v, ν)) : Ct l A dsX D ad cA (EX A ad) yX1_isFigure cX1_isFigure 1 (some .boolean) 0 [.int x0] μ (enI (v, ν)) :=
  ct_of (by decide) (Nat.le_of_ble_eq_true rfl) hPk rfl (fun p e s m args below meth c C hr => wX1_isFigure C hr x0 μ) h

/-! BasketRound$Reader.isLetter(I)Z -/
def fX1_isLetter_J17 (z0 : Int32) (μ : Mem) : Option (Int32 × Mem) := gd (z0 = (0 : Int32) ∨ z0 = (1 : Int32)) <| some (z0, μ)
set_option maxHeartbeats 4000000 in
set_option maxRecDepth 100000 in
theorem wX1_isLetter_J17 {p : Program} {l : Launch} {e : Env} {s : State} {m : MethodId} {args : Array Value} {below : List Frame} {meth : Method} {c : Code} {A : Nat → Prop} {D : va_G} {ad : Nat → Nat} {cA : Nat → ClassId} (C : Cx p s m args meth c cX1_isLetter RX1 1 A dsX D ad cA (EX A ad)) (hr : meth.sig.returnType = some .boolean) (z0 : Int32) (μ : Mem) : T p l e (rmD 0) s m args below meth c 1 A dsX D ad cA enI (fX1_isLetter_J17 z0 μ) 17 [] [.int z0] μ := by
  unfold fX1_isLetter_J17
  refine tt_gd (fun h1 => ?_)
  exact tt_zret rfl C hr h1 dX1_isLetter_17

def fX1_isLetter_J16 (μ : Mem) : Option (Int32 × Mem) := fX1_isLetter_J17 (0 : Int32) μ
set_option maxHeartbeats 4000000 in
set_option maxRecDepth 100000 in
theorem wX1_isLetter_J16 {p : Program} {l : Launch} {e : Env} {s : State} {m : MethodId} {args : Array Value} {below : List Frame} {meth : Method} {c : Code} {A : Nat → Prop} {D : va_G} {ad : Nat → Nat} {cA : Nat → ClassId} (C : Cx p s m args meth c cX1_isLetter RX1 1 A dsX D ad cA (EX A ad)) (hr : meth.sig.returnType = some .boolean) (μ : Mem) : T p l e (rmD 0) s m args below meth c 1 A dsX D ad cA enI (fX1_isLetter_J16 μ) 16 [] [] μ := by
  unfold fX1_isLetter_J16
  refine tt_iconst (v := (0 : Int32)) C dX1_isLetter_16 (by decide) ?_
  refine tt_sub [] (L2 := []) rfl ?_
  exact wX1_isLetter_J17 C hr (0 : Int32) μ

def fX1_isLetter (x0 : Int32) (μ : Mem) : Option (Int32 × Mem) := if x0 < (97 : Int32) then (fX1_isLetter_J16 μ) else (if (122 : Int32) < x0 then (fX1_isLetter_J16 μ) else (fX1_isLetter_J17 (1 : Int32) μ))
set_option maxHeartbeats 4000000 in
set_option maxRecDepth 100000 in
theorem wX1_isLetter {p : Program} {l : Launch} {e : Env} {s : State} {m : MethodId} {args : Array Value} {below : List Frame} {meth : Method} {c : Code} {A : Nat → Prop} {D : va_G} {ad : Nat → Nat} {cA : Nat → ClassId} (C : Cx p s m args meth c cX1_isLetter RX1 1 A dsX D ad cA (EX A ad)) (hr : meth.sig.returnType = some .boolean) (x0 : Int32) (μ : Mem) : T p l e (rmD 0) s m args below meth c 1 A dsX D ad cA enI (fX1_isLetter x0 μ) 0 [(0, .int x0)] [] μ := by
  unfold fX1_isLetter
  refine tt_iload_n C 0 dX1_isLetter_0 rfl rfl ?_
  refine tt_bipush (v := (97 : Int32)) C dX1_isLetter_1 (by decide) ?_
  refine tt_if (fun h1 => ?_) (fun h1 => ?_)
  · refine tt_icmp_ltT (tgt := 16) C h1 dX1_isLetter_3 (by decide) ?_
    refine tt_sub [] (L2 := []) rfl ?_
    exact wX1_isLetter_J16 C hr μ
  · refine tt_icmp_ltF C 16 h1 dX1_isLetter_3 (by decide) ?_
    refine tt_iload_n C 0 dX1_isLetter_6 rfl rfl ?_
    refine tt_bipush (v := (122 : Int32)) C dX1_isLetter_7 (by decide) ?_
    refine tt_if (fun h2 => ?_) (fun h2 => ?_)
    · refine tt_icmp_gtT (tgt := 16) C h2 dX1_isLetter_9 (by decide) ?_
      refine tt_sub [] (L2 := []) rfl ?_
      exact wX1_isLetter_J16 C hr μ
    · refine tt_icmp_gtF C 16 h2 dX1_isLetter_9 (by decide) ?_
      refine tt_iconst (v := (1 : Int32)) C dX1_isLetter_12 (by decide) ?_
      refine tt_goto (tgt := 17) C dX1_isLetter_13 (by decide) ?_
      refine tt_sub [] (L2 := []) rfl ?_
      exact wX1_isLetter_J17 C hr (1 : Int32) μ
theorem kX1_isLetter {l : Launch} {A : Nat → Prop} {D : va_G} {ad : Nat → Nat} {cA : Nat → ClassId} (hPk : Pk A dsX ad cA (EX A ad)) {x0 : Int32} {μ : Mem} {v : Int32} {ν : Mem} (h : fX1_isLetter x0 μ = some (v, ν)) : Ct l A dsX D ad cA (EX A ad) yX1_isLetter cX1_isLetter 1 (some .boolean) 0 [.int x0] μ (enI (v, ν)) :=
  ct_of (by decide) (Nat.le_of_ble_eq_true rfl) hPk rfl (fun p e s m args below meth c C hr => wX1_isLetter C hr x0 μ) h

/-! BasketRound$Reader.readToken()V -/
def fX1_readToken_J311 (μ : Mem) : Option (Mem) := some μ
set_option maxHeartbeats 4000000 in
set_option maxRecDepth 100000 in
theorem wX1_readToken_J311 {p : Program} {l : Launch} {e : Env} {s : State} {m : MethodId} {args : Array Value} {below : List Frame} {meth : Method} {c : Code} {A : Nat → Prop} {D : va_G} {ad : Nat → Nat} {cA : Nat → ClassId} (C : Cx p s m args meth c cX1_readToken RX1 1 A dsX D ad cA (EX A ad)) (hr : meth.sig.returnType = none) (μ : Mem) : T p l e (rmD 1) s m args below meth c 1 A dsX D ad cA enV (fX1_readToken_J311 μ) 311 [] [] μ := by
  unfold fX1_readToken_J311
  exact tt_vret rfl C hr dX1_readToken_311

def fX1_readToken_J277 (μ : Mem) : Option (Mem) := if ((μ 23 7) - (μ 23 6)) ≤ (2 : Int32) then (fX1_readToken_J311 μ) else (bv (fX1_fail (1 : Int32) (μ 23 6) μ) fun m1 => fX1_readToken_J311 m1)
set_option maxHeartbeats 4000000 in
set_option maxRecDepth 100000 in
theorem wX1_readToken_J277 {p : Program} {l : Launch} {e : Env} {s : State} {m : MethodId} {args : Array Value} {below : List Frame} {meth : Method} {c : Code} {A : Nat → Prop} {D : va_G} {ad : Nat → Nat} {cA : Nat → ClassId} (C : Cx p s m args meth c cX1_readToken RX1 1 A dsX D ad cA (EX A ad)) (hr : meth.sig.returnType = none) (μ : Mem) : T p l e (rmD 1) s m args below meth c 1 A dsX D ad cA enV (fX1_readToken_J277 μ) 277 [(0, .ref (ad 23))] [] μ := by
  unfold fX1_readToken_J277
  refine tt_aload_n C 0 dX1_readToken_277 rfl rfl ?_
  refine tt_getI C (j := 7) dX_23 rfl fl_RX1_35 dX1_readToken_278 ?_
  refine tt_aload_n C 0 dX1_readToken_281 rfl rfl ?_
  refine tt_getI C (j := 6) dX_23 rfl fl_RX1_79 dX1_readToken_282 ?_
  refine tt_isub C dX1_readToken_285 ?_
  refine tt_iconst (v := (2 : Int32)) C dX1_readToken_286 (by decide) ?_
  refine tt_if (fun h1 => ?_) (fun h1 => ?_)
  · refine tt_icmp_leT (tgt := 311) C h1 dX1_readToken_287 (by decide) ?_
    refine tt_sub [] (L2 := []) rfl ?_
    exact wX1_readToken_J311 C hr μ
  · refine tt_icmp_leF C 311 h1 dX1_readToken_287 (by decide) ?_
    refine tt_aload_n C 0 dX1_readToken_290 rfl rfl ?_
    refine tt_iconst (v := (1 : Int32)) C dX1_readToken_291 (by decide) ?_
    refine tt_aload_n C 0 dX1_readToken_292 rfl rfl ?_
    refine tt_getI C (j := 6) dX_23 rfl fl_RX1_79 dX1_readToken_293 ?_
    refine tt_bv (fun m1 h2 => ?_)
    refine tt_callV (st := []) (As := [.int (1 : Int32), .int (μ 23 6)]) C (kX1_fail C.2.2.2.2.2.2.2.1 h2) mi_X1_fail ml_RX1_92 mv_X1_fail ms_X1_fail (q := (RX1, TX1, 12)) dX_23 rfl rfl (by decide) (by decide) (Nat.le_of_ble_eq_true rfl) dX1_readToken_296 ?_
    refine tt_goto (tgt := 311) C dX1_readToken_299 (by decide) ?_
    refine tt_sub [] (L2 := []) rfl ?_
    exact wX1_readToken_J311 C hr m1

def fX1_readToken_L205 : Nat → Mem → Option (Mem)
  | 0, _ => none
  | fu + 1, μ => if (μ 1 1) ≤ (μ 23 7) then (fX1_readToken_J277 μ) else (gr (μ 23 7) 160 <| bi (fX1_isFigure (μ 2 (μ 23 7).toNatClampNeg) μ) fun v2 m1 => if v2 = (0 : Int32) then (fX1_readToken_J277 m1) else (gr (m1 23 7) 160 <| lb (wr m1 23 8 (((m1 23 8) * (10 : Int32)) + ((m1 2 (m1 23 7).toNatClampNeg) - (48 : Int32)))) fun m3 => lb (wr m3 23 7 ((m3 23 7) + (1 : Int32))) fun m4 => fX1_readToken_L205 fu m4))
set_option maxHeartbeats 4000000 in
set_option maxRecDepth 100000 in
theorem wX1_readToken_L205 {p : Program} {l : Launch} {e : Env} {s : State} {m : MethodId} {args : Array Value} {below : List Frame} {meth : Method} {c : Code} {A : Nat → Prop} {D : va_G} {ad : Nat → Nat} {cA : Nat → ClassId} (C : Cx p s m args meth c cX1_readToken RX1 1 A dsX D ad cA (EX A ad)) (hr : meth.sig.returnType = none) : ∀ (fu : Nat) (μ : Mem), T p l e (rmD 1) s m args below meth c 1 A dsX D ad cA enV (fX1_readToken_L205 fu μ) 205 [(0, .ref (ad 23))] [] μ
  | 0, _ => tt_none
  | fu + 1, μ => by
    have ih := fun (μ : Mem) => wX1_readToken_L205 (l := l) (e := e) (below := below) C hr fu μ
    show T p l e (rmD 1) s m args below meth c 1 A dsX D ad cA enV (if (μ 1 1) ≤ (μ 23 7) then (fX1_readToken_J277 μ) else (gr (μ 23 7) 160 <| bi (fX1_isFigure (μ 2 (μ 23 7).toNatClampNeg) μ) fun v2 m1 => if v2 = (0 : Int32) then (fX1_readToken_J277 m1) else (gr (m1 23 7) 160 <| lb (wr m1 23 8 (((m1 23 8) * (10 : Int32)) + ((m1 2 (m1 23 7).toNatClampNeg) - (48 : Int32)))) fun m3 => lb (wr m3 23 7 ((m3 23 7) + (1 : Int32))) fun m4 => fX1_readToken_L205 fu m4))) 205 [(0, .ref (ad 23))] [] μ
    refine tt_aload_n C 0 dX1_readToken_205 rfl rfl ?_
    refine tt_getI C (j := 7) dX_23 rfl fl_RX1_35 dX1_readToken_206 ?_
    refine tt_aload_n C 0 dX1_readToken_209 rfl rfl ?_
    refine tt_getR C (j := 1) (r0 := 1) dX_23 rfl fl_RX1_18 dX1_readToken_210 ?_
    refine tt_getI C (j := 1) dX_1 rfl fl_RX1_70 dX1_readToken_213 ?_
    refine tt_if (fun h1 => ?_) (fun h1 => ?_)
    · refine tt_icmp_geT (tgt := 277) C h1 dX1_readToken_216 (by decide) ?_
      refine tt_sub [0] (L2 := [(0, .ref (ad 23))]) rfl ?_
      exact wX1_readToken_J277 C hr μ
    · refine tt_icmp_geF C 277 h1 dX1_readToken_216 (by decide) ?_
      refine tt_aload_n C 0 dX1_readToken_219 rfl rfl ?_
      refine tt_getR C (j := 1) (r0 := 1) dX_23 rfl fl_RX1_18 dX1_readToken_220 ?_
      refine tt_getR C (j := 0) (r0 := 2) dX_1 rfl fl_RX1_75 dX1_readToken_223 ?_
      refine tt_aload_n C 0 dX1_readToken_226 rfl rfl ?_
      refine tt_getI C (j := 7) dX_23 rfl fl_RX1_35 dX1_readToken_227 ?_
      refine tt_gr (fun h2 => ?_)
      refine tt_bald C dX_2 h2 dX1_readToken_230 ?_
      refine tt_bi (fun v2 m1 h3 => ?_)
      refine tt_callS (st := []) (As := [.int (μ 2 (μ 23 7).toNatClampNeg)]) C (kX1_isFigure C.2.2.2.2.2.2.2.1 h3) mi_X1_isFigure ml_RX1_86 mt_X1_isFigure rfl (by decide) (by decide) (Nat.le_of_ble_eq_true rfl) dX1_readToken_231 ?_
      refine tt_if (fun h4 => ?_) (fun h4 => ?_)
      · refine tt_if_eqT (tgt := 277) C h4 dX1_readToken_234 (by decide) ?_
        refine tt_sub [0] (L2 := [(0, .ref (ad 23))]) rfl ?_
        exact wX1_readToken_J277 C hr m1
      · refine tt_if_eqF C 277 h4 dX1_readToken_234 (by decide) ?_
        refine tt_aload_n C 0 dX1_readToken_237 rfl rfl ?_
        refine tt_aload_n C 0 dX1_readToken_238 rfl rfl ?_
        refine tt_getI C (j := 8) dX_23 rfl fl_RX1_89 dX1_readToken_239 ?_
        refine tt_bipush (v := (10 : Int32)) C dX1_readToken_242 (by decide) ?_
        refine tt_imul C dX1_readToken_244 ?_
        refine tt_aload_n C 0 dX1_readToken_245 rfl rfl ?_
        refine tt_getR C (j := 1) (r0 := 1) dX_23 rfl fl_RX1_18 dX1_readToken_246 ?_
        refine tt_getR C (j := 0) (r0 := 2) dX_1 rfl fl_RX1_75 dX1_readToken_249 ?_
        refine tt_aload_n C 0 dX1_readToken_252 rfl rfl ?_
        refine tt_getI C (j := 7) dX_23 rfl fl_RX1_35 dX1_readToken_253 ?_
        refine tt_gr (fun h5 => ?_)
        refine tt_bald C dX_2 h5 dX1_readToken_256 ?_
        refine tt_bipush (v := (48 : Int32)) C dX1_readToken_257 (by decide) ?_
        refine tt_isub C dX1_readToken_259 ?_
        refine tt_iadd C dX1_readToken_260 ?_
        refine tt_putI C (j := 8) dX_23 rfl fl_RX1_89 fw_1_8 dX1_readToken_261 ?_
        refine tt_lbm (fun m3 => ?_)
        refine tt_aload_n C 0 dX1_readToken_264 rfl rfl ?_
        refine tt_dup C dX1_readToken_265 rfl ?_
        refine tt_getI C (j := 7) dX_23 rfl fl_RX1_35 dX1_readToken_266 ?_
        refine tt_iconst (v := (1 : Int32)) C dX1_readToken_269 (by decide) ?_
        refine tt_iadd C dX1_readToken_270 ?_
        refine tt_putI C (j := 7) dX_23 rfl fl_RX1_35 fw_1_7 dX1_readToken_271 ?_
        refine tt_lbm (fun m4 => ?_)
        refine tt_goto (tgt := 205) C dX1_readToken_274 (by decide) ?_
        refine tt_sub [0] (L2 := [(0, .ref (ad 23))]) rfl ?_
        exact ih m4

def fX1_readToken_L132 : Nat → Mem → Option (Mem)
  | 0, _ => none
  | fu + 1, μ => if (μ 1 1) ≤ (μ 23 7) then (fX1_readToken_J311 μ) else (gr (μ 23 7) 160 <| bi (fX1_isLetter (μ 2 (μ 23 7).toNatClampNeg) μ) fun v2 m1 => if v2 = (0 : Int32) then (fX1_readToken_J311 m1) else (lb (wr m1 23 7 ((m1 23 7) + (1 : Int32))) fun m3 => fX1_readToken_L132 fu m3))
set_option maxHeartbeats 4000000 in
set_option maxRecDepth 100000 in
theorem wX1_readToken_L132 {p : Program} {l : Launch} {e : Env} {s : State} {m : MethodId} {args : Array Value} {below : List Frame} {meth : Method} {c : Code} {A : Nat → Prop} {D : va_G} {ad : Nat → Nat} {cA : Nat → ClassId} (C : Cx p s m args meth c cX1_readToken RX1 1 A dsX D ad cA (EX A ad)) (hr : meth.sig.returnType = none) : ∀ (fu : Nat) (μ : Mem), T p l e (rmD 1) s m args below meth c 1 A dsX D ad cA enV (fX1_readToken_L132 fu μ) 132 [(0, .ref (ad 23))] [] μ
  | 0, _ => tt_none
  | fu + 1, μ => by
    have ih := fun (μ : Mem) => wX1_readToken_L132 (l := l) (e := e) (below := below) C hr fu μ
    show T p l e (rmD 1) s m args below meth c 1 A dsX D ad cA enV (if (μ 1 1) ≤ (μ 23 7) then (fX1_readToken_J311 μ) else (gr (μ 23 7) 160 <| bi (fX1_isLetter (μ 2 (μ 23 7).toNatClampNeg) μ) fun v2 m1 => if v2 = (0 : Int32) then (fX1_readToken_J311 m1) else (lb (wr m1 23 7 ((m1 23 7) + (1 : Int32))) fun m3 => fX1_readToken_L132 fu m3))) 132 [(0, .ref (ad 23))] [] μ
    refine tt_aload_n C 0 dX1_readToken_132 rfl rfl ?_
    refine tt_getI C (j := 7) dX_23 rfl fl_RX1_35 dX1_readToken_133 ?_
    refine tt_aload_n C 0 dX1_readToken_136 rfl rfl ?_
    refine tt_getR C (j := 1) (r0 := 1) dX_23 rfl fl_RX1_18 dX1_readToken_137 ?_
    refine tt_getI C (j := 1) dX_1 rfl fl_RX1_70 dX1_readToken_140 ?_
    refine tt_if (fun h1 => ?_) (fun h1 => ?_)
    · refine tt_icmp_geT (tgt := 311) C h1 dX1_readToken_143 (by decide) ?_
      refine tt_sub [] (L2 := []) rfl ?_
      exact wX1_readToken_J311 C hr μ
    · refine tt_icmp_geF C 311 h1 dX1_readToken_143 (by decide) ?_
      refine tt_aload_n C 0 dX1_readToken_146 rfl rfl ?_
      refine tt_getR C (j := 1) (r0 := 1) dX_23 rfl fl_RX1_18 dX1_readToken_147 ?_
      refine tt_getR C (j := 0) (r0 := 2) dX_1 rfl fl_RX1_75 dX1_readToken_150 ?_
      refine tt_aload_n C 0 dX1_readToken_153 rfl rfl ?_
      refine tt_getI C (j := 7) dX_23 rfl fl_RX1_35 dX1_readToken_154 ?_
      refine tt_gr (fun h2 => ?_)
      refine tt_bald C dX_2 h2 dX1_readToken_157 ?_
      refine tt_bi (fun v2 m1 h3 => ?_)
      refine tt_callS (st := []) (As := [.int (μ 2 (μ 23 7).toNatClampNeg)]) C (kX1_isLetter C.2.2.2.2.2.2.2.1 h3) mi_X1_isLetter ml_RX1_82 mt_X1_isLetter rfl (by decide) (by decide) (Nat.le_of_ble_eq_true rfl) dX1_readToken_158 ?_
      refine tt_if (fun h4 => ?_) (fun h4 => ?_)
      · refine tt_if_eqT (tgt := 311) C h4 dX1_readToken_161 (by decide) ?_
        refine tt_sub [] (L2 := []) rfl ?_
        exact wX1_readToken_J311 C hr m1
      · refine tt_if_eqF C 311 h4 dX1_readToken_161 (by decide) ?_
        refine tt_aload_n C 0 dX1_readToken_164 rfl rfl ?_
        refine tt_dup C dX1_readToken_165 rfl ?_
        refine tt_getI C (j := 7) dX_23 rfl fl_RX1_35 dX1_readToken_166 ?_
        refine tt_iconst (v := (1 : Int32)) C dX1_readToken_169 (by decide) ?_
        refine tt_iadd C dX1_readToken_170 ?_
        refine tt_putI C (j := 7) dX_23 rfl fl_RX1_35 fw_1_7 dX1_readToken_171 ?_
        refine tt_lbm (fun m3 => ?_)
        refine tt_goto (tgt := 132) C dX1_readToken_174 (by decide) ?_
        refine tt_sub [0] (L2 := [(0, .ref (ad 23))]) rfl ?_
        exact ih m3

def fX1_readToken_J44 (μ : Mem) : Option (Mem) := lb (wr μ 23 6 (μ 23 7)) fun m1 => if (m1 23 7) < (m1 1 1) then (gr (m1 23 7) 160 <| if (m1 2 (m1 23 7).toNatClampNeg) = (59 : Int32) then (lb (wr m1 23 5 (3 : Int32)) fun m10 => lb (wr m10 23 7 ((m10 23 7) + (1 : Int32))) fun m11 => fX1_readToken_J311 m11) else (gr (m1 23 7) 160 <| bi (fX1_isLetter (m1 2 (m1 23 7).toNatClampNeg) m1) fun v3 m2 => if v3 = (0 : Int32) then (gr (m2 23 7) 160 <| bi (fX1_isFigure (m2 2 (m2 23 7).toNatClampNeg) m2) fun v5 m4 => if v5 = (0 : Int32) then (bv (fX1_fail (1 : Int32) (m4 23 6) m4) fun m6 => fX1_readToken_J311 m6) else (lb (wr m4 23 5 (2 : Int32)) fun m7 => lb (wr m7 23 8 (0 : Int32)) fun m8 => fX1_readToken_L205 FU m8)) else (lb (wr m2 23 5 (1 : Int32)) fun m9 => fX1_readToken_L132 FU m9))) else (lb (wr m1 23 5 (0 : Int32)) fun m12 => fX1_readToken_J311 m12)
set_option maxHeartbeats 4000000 in
set_option maxRecDepth 100000 in
theorem wX1_readToken_J44 {p : Program} {l : Launch} {e : Env} {s : State} {m : MethodId} {args : Array Value} {below : List Frame} {meth : Method} {c : Code} {A : Nat → Prop} {D : va_G} {ad : Nat → Nat} {cA : Nat → ClassId} (C : Cx p s m args meth c cX1_readToken RX1 1 A dsX D ad cA (EX A ad)) (hr : meth.sig.returnType = none) (μ : Mem) : T p l e (rmD 1) s m args below meth c 1 A dsX D ad cA enV (fX1_readToken_J44 μ) 44 [(0, .ref (ad 23))] [] μ := by
  unfold fX1_readToken_J44
  refine tt_aload_n C 0 dX1_readToken_44 rfl rfl ?_
  refine tt_aload_n C 0 dX1_readToken_45 rfl rfl ?_
  refine tt_getI C (j := 7) dX_23 rfl fl_RX1_35 dX1_readToken_46 ?_
  refine tt_putI C (j := 6) dX_23 rfl fl_RX1_79 fw_1_6 dX1_readToken_49 ?_
  refine tt_lbm (fun m1 => ?_)
  refine tt_aload_n C 0 dX1_readToken_52 rfl rfl ?_
  refine tt_getI C (j := 7) dX_23 rfl fl_RX1_35 dX1_readToken_53 ?_
  refine tt_aload_n C 0 dX1_readToken_56 rfl rfl ?_
  refine tt_getR C (j := 1) (r0 := 1) dX_23 rfl fl_RX1_18 dX1_readToken_57 ?_
  refine tt_getI C (j := 1) dX_1 rfl fl_RX1_70 dX1_readToken_60 ?_
  refine tt_if (fun h1 => ?_) (fun h1 => ?_)
  · refine tt_icmp_ltT (tgt := 74) C h1 dX1_readToken_63 (by decide) ?_
    refine tt_aload_n C 0 dX1_readToken_74 rfl rfl ?_
    refine tt_getR C (j := 1) (r0 := 1) dX_23 rfl fl_RX1_18 dX1_readToken_75 ?_
    refine tt_getR C (j := 0) (r0 := 2) dX_1 rfl fl_RX1_75 dX1_readToken_78 ?_
    refine tt_aload_n C 0 dX1_readToken_81 rfl rfl ?_
    refine tt_getI C (j := 7) dX_23 rfl fl_RX1_35 dX1_readToken_82 ?_
    refine tt_gr (fun h2 => ?_)
    refine tt_bald C dX_2 h2 dX1_readToken_85 ?_
    refine tt_bipush (v := (59 : Int32)) C dX1_readToken_86 (by decide) ?_
    refine tt_if (fun h3 => ?_) (fun h3 => ?_)
    · refine tt_icmp_neF C 109 h3 dX1_readToken_88 (by decide) ?_
      refine tt_aload_n C 0 dX1_readToken_91 rfl rfl ?_
      refine tt_iconst (v := (3 : Int32)) C dX1_readToken_92 (by decide) ?_
      refine tt_putI C (j := 5) dX_23 rfl fl_RX1_50 fw_1_5 dX1_readToken_93 ?_
      refine tt_lbm (fun m10 => ?_)
      refine tt_aload_n C 0 dX1_readToken_96 rfl rfl ?_
      refine tt_dup C dX1_readToken_97 rfl ?_
      refine tt_getI C (j := 7) dX_23 rfl fl_RX1_35 dX1_readToken_98 ?_
      refine tt_iconst (v := (1 : Int32)) C dX1_readToken_101 (by decide) ?_
      refine tt_iadd C dX1_readToken_102 ?_
      refine tt_putI C (j := 7) dX_23 rfl fl_RX1_35 fw_1_7 dX1_readToken_103 ?_
      refine tt_lbm (fun m11 => ?_)
      refine tt_goto (tgt := 311) C dX1_readToken_106 (by decide) ?_
      refine tt_sub [] (L2 := []) rfl ?_
      exact wX1_readToken_J311 C hr m11
    · refine tt_icmp_neT (tgt := 109) C h3 dX1_readToken_88 (by decide) ?_
      refine tt_aload_n C 0 dX1_readToken_109 rfl rfl ?_
      refine tt_getR C (j := 1) (r0 := 1) dX_23 rfl fl_RX1_18 dX1_readToken_110 ?_
      refine tt_getR C (j := 0) (r0 := 2) dX_1 rfl fl_RX1_75 dX1_readToken_113 ?_
      refine tt_aload_n C 0 dX1_readToken_116 rfl rfl ?_
      refine tt_getI C (j := 7) dX_23 rfl fl_RX1_35 dX1_readToken_117 ?_
      refine tt_gr (fun h4 => ?_)
      refine tt_bald C dX_2 h4 dX1_readToken_120 ?_
      refine tt_bi (fun v3 m2 h5 => ?_)
      refine tt_callS (st := []) (As := [.int (m1 2 (m1 23 7).toNatClampNeg)]) C (kX1_isLetter C.2.2.2.2.2.2.2.1 h5) mi_X1_isLetter ml_RX1_82 mt_X1_isLetter rfl (by decide) (by decide) (Nat.le_of_ble_eq_true rfl) dX1_readToken_121 ?_
      refine tt_if (fun h6 => ?_) (fun h6 => ?_)
      · refine tt_if_eqT (tgt := 177) C h6 dX1_readToken_124 (by decide) ?_
        refine tt_aload_n C 0 dX1_readToken_177 rfl rfl ?_
        refine tt_getR C (j := 1) (r0 := 1) dX_23 rfl fl_RX1_18 dX1_readToken_178 ?_
        refine tt_getR C (j := 0) (r0 := 2) dX_1 rfl fl_RX1_75 dX1_readToken_181 ?_
        refine tt_aload_n C 0 dX1_readToken_184 rfl rfl ?_
        refine tt_getI C (j := 7) dX_23 rfl fl_RX1_35 dX1_readToken_185 ?_
        refine tt_gr (fun h7 => ?_)
        refine tt_bald C dX_2 h7 dX1_readToken_188 ?_
        refine tt_bi (fun v5 m4 h8 => ?_)
        refine tt_callS (st := []) (As := [.int (m2 2 (m2 23 7).toNatClampNeg)]) C (kX1_isFigure C.2.2.2.2.2.2.2.1 h8) mi_X1_isFigure ml_RX1_86 mt_X1_isFigure rfl (by decide) (by decide) (Nat.le_of_ble_eq_true rfl) dX1_readToken_189 ?_
        refine tt_if (fun h9 => ?_) (fun h9 => ?_)
        · refine tt_if_eqT (tgt := 302) C h9 dX1_readToken_192 (by decide) ?_
          refine tt_aload_n C 0 dX1_readToken_302 rfl rfl ?_
          refine tt_iconst (v := (1 : Int32)) C dX1_readToken_303 (by decide) ?_
          refine tt_aload_n C 0 dX1_readToken_304 rfl rfl ?_
          refine tt_getI C (j := 6) dX_23 rfl fl_RX1_79 dX1_readToken_305 ?_
          refine tt_bv (fun m6 h10 => ?_)
          refine tt_callV (st := []) (As := [.int (1 : Int32), .int (m4 23 6)]) C (kX1_fail C.2.2.2.2.2.2.2.1 h10) mi_X1_fail ml_RX1_92 mv_X1_fail ms_X1_fail (q := (RX1, TX1, 12)) dX_23 rfl rfl (by decide) (by decide) (Nat.le_of_ble_eq_true rfl) dX1_readToken_308 ?_
          refine tt_sub [] (L2 := []) rfl ?_
          exact wX1_readToken_J311 C hr m6
        · refine tt_if_eqF C 302 h9 dX1_readToken_192 (by decide) ?_
          refine tt_aload_n C 0 dX1_readToken_195 rfl rfl ?_
          refine tt_iconst (v := (2 : Int32)) C dX1_readToken_196 (by decide) ?_
          refine tt_putI C (j := 5) dX_23 rfl fl_RX1_50 fw_1_5 dX1_readToken_197 ?_
          refine tt_lbm (fun m7 => ?_)
          refine tt_aload_n C 0 dX1_readToken_200 rfl rfl ?_
          refine tt_iconst (v := (0 : Int32)) C dX1_readToken_201 (by decide) ?_
          refine tt_putI C (j := 8) dX_23 rfl fl_RX1_89 fw_1_8 dX1_readToken_202 ?_
          refine tt_lbm (fun m8 => ?_)
          refine tt_sub [0] (L2 := [(0, .ref (ad 23))]) rfl ?_
          exact wX1_readToken_L205 C hr FU m8
      · refine tt_if_eqF C 177 h6 dX1_readToken_124 (by decide) ?_
        refine tt_aload_n C 0 dX1_readToken_127 rfl rfl ?_
        refine tt_iconst (v := (1 : Int32)) C dX1_readToken_128 (by decide) ?_
        refine tt_putI C (j := 5) dX_23 rfl fl_RX1_50 fw_1_5 dX1_readToken_129 ?_
        refine tt_lbm (fun m9 => ?_)
        refine tt_sub [0] (L2 := [(0, .ref (ad 23))]) rfl ?_
        exact wX1_readToken_L132 C hr FU m9
  · refine tt_icmp_ltF C 74 h1 dX1_readToken_63 (by decide) ?_
    refine tt_aload_n C 0 dX1_readToken_66 rfl rfl ?_
    refine tt_iconst (v := (0 : Int32)) C dX1_readToken_67 (by decide) ?_
    refine tt_putI C (j := 5) dX_23 rfl fl_RX1_50 fw_1_5 dX1_readToken_68 ?_
    refine tt_lbm (fun m12 => ?_)
    refine tt_goto (tgt := 311) C dX1_readToken_71 (by decide) ?_
    refine tt_sub [] (L2 := []) rfl ?_
    exact wX1_readToken_J311 C hr m12

def fX1_readToken_L0 : Nat → Mem → Option (Mem)
  | 0, _ => none
  | fu + 1, μ => if (μ 1 1) ≤ (μ 23 7) then (fX1_readToken_J44 μ) else (gr (μ 23 7) 160 <| if (μ 2 (μ 23 7).toNatClampNeg) = (32 : Int32) then (lb (wr μ 23 7 ((μ 23 7) + (1 : Int32))) fun m1 => fX1_readToken_L0 fu m1) else (fX1_readToken_J44 μ))
set_option maxHeartbeats 4000000 in
set_option maxRecDepth 100000 in
theorem wX1_readToken_L0 {p : Program} {l : Launch} {e : Env} {s : State} {m : MethodId} {args : Array Value} {below : List Frame} {meth : Method} {c : Code} {A : Nat → Prop} {D : va_G} {ad : Nat → Nat} {cA : Nat → ClassId} (C : Cx p s m args meth c cX1_readToken RX1 1 A dsX D ad cA (EX A ad)) (hr : meth.sig.returnType = none) : ∀ (fu : Nat) (μ : Mem), T p l e (rmD 1) s m args below meth c 1 A dsX D ad cA enV (fX1_readToken_L0 fu μ) 0 [(0, .ref (ad 23))] [] μ
  | 0, _ => tt_none
  | fu + 1, μ => by
    have ih := fun (μ : Mem) => wX1_readToken_L0 (l := l) (e := e) (below := below) C hr fu μ
    show T p l e (rmD 1) s m args below meth c 1 A dsX D ad cA enV (if (μ 1 1) ≤ (μ 23 7) then (fX1_readToken_J44 μ) else (gr (μ 23 7) 160 <| if (μ 2 (μ 23 7).toNatClampNeg) = (32 : Int32) then (lb (wr μ 23 7 ((μ 23 7) + (1 : Int32))) fun m1 => fX1_readToken_L0 fu m1) else (fX1_readToken_J44 μ))) 0 [(0, .ref (ad 23))] [] μ
    refine tt_aload_n C 0 dX1_readToken_0 rfl rfl ?_
    refine tt_getI C (j := 7) dX_23 rfl fl_RX1_35 dX1_readToken_1 ?_
    refine tt_aload_n C 0 dX1_readToken_4 rfl rfl ?_
    refine tt_getR C (j := 1) (r0 := 1) dX_23 rfl fl_RX1_18 dX1_readToken_5 ?_
    refine tt_getI C (j := 1) dX_1 rfl fl_RX1_70 dX1_readToken_8 ?_
    refine tt_if (fun h1 => ?_) (fun h1 => ?_)
    · refine tt_icmp_geT (tgt := 44) C h1 dX1_readToken_11 (by decide) ?_
      refine tt_sub [0] (L2 := [(0, .ref (ad 23))]) rfl ?_
      exact wX1_readToken_J44 C hr μ
    · refine tt_icmp_geF C 44 h1 dX1_readToken_11 (by decide) ?_
      refine tt_aload_n C 0 dX1_readToken_14 rfl rfl ?_
      refine tt_getR C (j := 1) (r0 := 1) dX_23 rfl fl_RX1_18 dX1_readToken_15 ?_
      refine tt_getR C (j := 0) (r0 := 2) dX_1 rfl fl_RX1_75 dX1_readToken_18 ?_
      refine tt_aload_n C 0 dX1_readToken_21 rfl rfl ?_
      refine tt_getI C (j := 7) dX_23 rfl fl_RX1_35 dX1_readToken_22 ?_
      refine tt_gr (fun h2 => ?_)
      refine tt_bald C dX_2 h2 dX1_readToken_25 ?_
      refine tt_bipush (v := (32 : Int32)) C dX1_readToken_26 (by decide) ?_
      refine tt_if (fun h3 => ?_) (fun h3 => ?_)
      · refine tt_icmp_neF C 44 h3 dX1_readToken_28 (by decide) ?_
        refine tt_aload_n C 0 dX1_readToken_31 rfl rfl ?_
        refine tt_dup C dX1_readToken_32 rfl ?_
        refine tt_getI C (j := 7) dX_23 rfl fl_RX1_35 dX1_readToken_33 ?_
        refine tt_iconst (v := (1 : Int32)) C dX1_readToken_36 (by decide) ?_
        refine tt_iadd C dX1_readToken_37 ?_
        refine tt_putI C (j := 7) dX_23 rfl fl_RX1_35 fw_1_7 dX1_readToken_38 ?_
        refine tt_lbm (fun m1 => ?_)
        refine tt_goto (tgt := 0) C dX1_readToken_41 (by decide) ?_
        refine tt_sub [0] (L2 := [(0, .ref (ad 23))]) rfl ?_
        exact ih m1
      · refine tt_icmp_neT (tgt := 44) C h3 dX1_readToken_28 (by decide) ?_
        refine tt_sub [0] (L2 := [(0, .ref (ad 23))]) rfl ?_
        exact wX1_readToken_J44 C hr μ

def fX1_readToken (μ : Mem) : Option (Mem) := fX1_readToken_L0 FU μ
theorem wX1_readToken {p : Program} {l : Launch} {e : Env} {s : State} {m : MethodId} {args : Array Value} {below : List Frame} {meth : Method} {c : Code} {A : Nat → Prop} {D : va_G} {ad : Nat → Nat} {cA : Nat → ClassId} (C : Cx p s m args meth c cX1_readToken RX1 1 A dsX D ad cA (EX A ad)) (hr : meth.sig.returnType = none) (μ : Mem) : T p l e (rmD 1) s m args below meth c 1 A dsX D ad cA enV (fX1_readToken μ) 0 [(0, .ref (ad 23))] [] μ := by
  unfold fX1_readToken
  refine tt_sub [0] (L2 := [(0, .ref (ad 23))]) rfl ?_
  exact wX1_readToken_L0 C hr FU μ
theorem kX1_readToken {l : Launch} {A : Nat → Prop} {D : va_G} {ad : Nat → Nat} {cA : Nat → ClassId} (hPk : Pk A dsX ad cA (EX A ad)) {μ : Mem} {ν : Mem} (h : fX1_readToken μ = some ν) : Ct l A dsX D ad cA (EX A ad) yX1_readToken cX1_readToken 1 none 1 [.ref (ad 23)] μ (enV ν) :=
  ct_of (by decide) (Nat.le_of_ble_eq_true rfl) hPk rfl (fun p e s m args below meth c C hr => wX1_readToken C hr μ) h

/-! BasketRound$Reader.takeNumber(II)I -/
def fX1_takeNumber (x1 : Int32) (x2 : Int32) (μ : Mem) : Option (Int32 × Mem) := bv (fX1_checkNumber x1 x2 μ) fun m1 => if (m1 23 3) = (0 : Int32) then (lb (m1 23 8) fun (y2 : Int32) => bv (fX1_readToken m1) fun m3 => some (y2, m3)) else (some ((0 : Int32), m1))
set_option maxHeartbeats 4000000 in
set_option maxRecDepth 100000 in
theorem wX1_takeNumber {p : Program} {l : Launch} {e : Env} {s : State} {m : MethodId} {args : Array Value} {below : List Frame} {meth : Method} {c : Code} {A : Nat → Prop} {D : va_G} {ad : Nat → Nat} {cA : Nat → ClassId} (C : Cx p s m args meth c cX1_takeNumber RX1 4 A dsX D ad cA (EX A ad)) (hr : meth.sig.returnType = some .int) (x1 : Int32) (x2 : Int32) (μ : Mem) : T p l e (rmD 2) s m args below meth c 4 A dsX D ad cA enI (fX1_takeNumber x1 x2 μ) 0 [(0, .ref (ad 23)), (1, .int x1), (2, .int x2)] [] μ := by
  unfold fX1_takeNumber
  refine tt_aload_n C 0 dX1_takeNumber_0 rfl rfl ?_
  refine tt_iload_n C 1 dX1_takeNumber_1 rfl rfl ?_
  refine tt_iload_n C 2 dX1_takeNumber_2 rfl rfl ?_
  refine tt_bv (fun m1 h1 => ?_)
  refine tt_callV (st := []) (As := [.int x1, .int x2]) C (kX1_checkNumber C.2.2.2.2.2.2.2.1 h1) mi_X1_checkNumber ml_RX1_183 mv_X1_checkNumber ms_X1_checkNumber (q := (RX1, TX1, 12)) dX_23 rfl rfl (by decide) (by decide) (Nat.le_of_ble_eq_true rfl) dX1_takeNumber_3 ?_
  refine tt_aload_n C 0 dX1_takeNumber_6 rfl rfl ?_
  refine tt_getI C (j := 3) dX_23 rfl fl_RX1_29 dX1_takeNumber_7 ?_
  refine tt_if (fun h2 => ?_) (fun h2 => ?_)
  · refine tt_if_eqT (tgt := 15) C h2 dX1_takeNumber_10 (by decide) ?_
    refine tt_aload_n C 0 dX1_takeNumber_15 rfl rfl ?_
    refine tt_getI C (j := 8) dX_23 rfl fl_RX1_89 dX1_takeNumber_16 ?_
    refine tt_lbi (fun y2 => ?_)
    refine tt_istore_n (L2 := [(3, .int y2), (0, .ref (ad 23)), (1, .int x1), (2, .int x2)]) C dX1_takeNumber_19 rfl (by decide) rfl ?_
    refine tt_aload_n C 1 dX1_takeNumber_20 rfl rfl ?_
    refine tt_bv (fun m3 h3 => ?_)
    refine tt_callV (st := []) (As := []) C (kX1_readToken C.2.2.2.2.2.2.2.1 h3) mi_X1_readToken ml_RX1_47 mv_X1_readToken ms_X1_readToken (q := (RX1, TX1, 12)) dX_23 rfl rfl (by decide) (by decide) (Nat.le_of_ble_eq_true rfl) dX1_takeNumber_21 ?_
    refine tt_iload_n C 0 dX1_takeNumber_24 rfl rfl ?_
    exact tt_iret rfl C hr dX1_takeNumber_25
  · refine tt_if_eqF C 15 h2 dX1_takeNumber_10 (by decide) ?_
    refine tt_iconst (v := (0 : Int32)) C dX1_takeNumber_13 (by decide) ?_
    exact tt_iret rfl C hr dX1_takeNumber_14
theorem kX1_takeNumber {l : Launch} {A : Nat → Prop} {D : va_G} {ad : Nat → Nat} {cA : Nat → ClassId} (hPk : Pk A dsX ad cA (EX A ad)) {x1 : Int32} {x2 : Int32} {μ : Mem} {v : Int32} {ν : Mem} (h : fX1_takeNumber x1 x2 μ = some (v, ν)) : Ct l A dsX D ad cA (EX A ad) yX1_takeNumber cX1_takeNumber 4 (some .int) 2 [.ref (ad 23), .int x1, .int x2] μ (enI (v, ν)) :=
  ct_of (by decide) (Nat.le_of_ble_eq_true rfl) hPk rfl (fun p e s m args below meth c C hr => wX1_takeNumber C hr x1 x2 μ) h

/-! BasketRound$Reader.readHouse(I)V -/
def fX1_readHouse (x1 : Int32) (μ : Mem) : Option (Mem) := if (μ 18 4) < (6 : Int32) then (bv (fX1_readToken μ) fun m1 => lb ((m1 18 4) * (2 : Int32)) fun (y2 : Int32) => bi (fX1_takeNumber (1 : Int32) (9 : Int32) m1) fun v4 m3 => gr (y2 + (0 : Int32)) 12 <| lb (wr m3 19 (y2 + (0 : Int32)).toNatClampNeg v4) fun m5 => gr (y2 + (1 : Int32)) 12 <| lb (wr m5 19 (y2 + (1 : Int32)).toNatClampNeg x1) fun m6 => lb (wr m6 18 4 ((m6 18 4) + (1 : Int32))) fun m7 => some m7) else (bv (fX1_fail (5 : Int32) (μ 23 6) μ) fun m8 => some m8)
set_option maxHeartbeats 4000000 in
set_option maxRecDepth 100000 in
theorem wX1_readHouse {p : Program} {l : Launch} {e : Env} {s : State} {m : MethodId} {args : Array Value} {below : List Frame} {meth : Method} {c : Code} {A : Nat → Prop} {D : va_G} {ad : Nat → Nat} {cA : Nat → ClassId} (C : Cx p s m args meth c cX1_readHouse RX1 3 A dsX D ad cA (EX A ad)) (hr : meth.sig.returnType = none) (x1 : Int32) (μ : Mem) : T p l e (rmD 3) s m args below meth c 3 A dsX D ad cA enV (fX1_readHouse x1 μ) 0 [(0, .ref (ad 23)), (1, .int x1)] [] μ := by
  unfold fX1_readHouse
  refine tt_aload_n C 0 dX1_readHouse_0 rfl rfl ?_
  refine tt_getR C (j := 0) (r0 := 18) dX_23 rfl fl_RX1_12 dX1_readHouse_1 ?_
  refine tt_getI C (j := 4) dX_18 rfl fl_RX1_149 dX1_readHouse_4 ?_
  refine tt_bipush (v := (6 : Int32)) C dX1_readHouse_7 (by decide) ?_
  refine tt_if (fun h1 => ?_) (fun h1 => ?_)
  · refine tt_icmp_ltT (tgt := 22) C h1 dX1_readHouse_9 (by decide) ?_
    refine tt_aload_n C 0 dX1_readHouse_22 rfl rfl ?_
    refine tt_bv (fun m1 h2 => ?_)
    refine tt_callV (st := []) (As := []) C (kX1_readToken C.2.2.2.2.2.2.2.1 h2) mi_X1_readToken ml_RX1_47 mv_X1_readToken ms_X1_readToken (q := (RX1, TX1, 12)) dX_23 rfl rfl (by decide) (by decide) (Nat.le_of_ble_eq_true rfl) dX1_readHouse_23 ?_
    refine tt_aload_n C 0 dX1_readHouse_26 rfl rfl ?_
    refine tt_getR C (j := 0) (r0 := 18) dX_23 rfl fl_RX1_12 dX1_readHouse_27 ?_
    refine tt_getI C (j := 4) dX_18 rfl fl_RX1_149 dX1_readHouse_30 ?_
    refine tt_iconst (v := (2 : Int32)) C dX1_readHouse_33 (by decide) ?_
    refine tt_imul C dX1_readHouse_34 ?_
    refine tt_lbi (fun y2 => ?_)
    refine tt_istore_n (L2 := [(2, .int y2), (0, .ref (ad 23)), (1, .int x1)]) C dX1_readHouse_35 rfl (by decide) rfl ?_
    refine tt_aload_n C 1 dX1_readHouse_36 rfl rfl ?_
    refine tt_getR C (j := 0) (r0 := 18) dX_23 rfl fl_RX1_12 dX1_readHouse_37 ?_
    refine tt_getR C (j := 0) (r0 := 19) dX_18 rfl fl_RX1_152 dX1_readHouse_40 ?_
    refine tt_iload_n C 0 dX1_readHouse_43 rfl rfl ?_
    refine tt_iconst (v := (0 : Int32)) C dX1_readHouse_44 (by decide) ?_
    refine tt_iadd C dX1_readHouse_45 ?_
    refine tt_aload_n C 1 dX1_readHouse_46 rfl rfl ?_
    refine tt_iconst (v := (1 : Int32)) C dX1_readHouse_47 (by decide) ?_
    refine tt_bipush (v := (9 : Int32)) C dX1_readHouse_48 (by decide) ?_
    refine tt_bi (fun v4 m3 h3 => ?_)
    refine tt_callV (st := [.int (y2 + (0 : Int32)), .ref (ad 19)]) (As := [.int (1 : Int32), .int (9 : Int32)]) C (kX1_takeNumber C.2.2.2.2.2.2.2.1 h3) mi_X1_takeNumber ml_RX1_129 mv_X1_takeNumber ms_X1_takeNumber (q := (RX1, TX1, 12)) dX_23 rfl rfl (by decide) (by decide) (Nat.le_of_ble_eq_true rfl) dX1_readHouse_50 ?_
    refine tt_gr (fun h4 => ?_)
    refine tt_iast C dX_19 h4 dX1_readHouse_53 ?_
    refine tt_lbm (fun m5 => ?_)
    refine tt_aload_n C 1 dX1_readHouse_54 rfl rfl ?_
    refine tt_getR C (j := 0) (r0 := 18) dX_23 rfl fl_RX1_12 dX1_readHouse_55 ?_
    refine tt_getR C (j := 0) (r0 := 19) dX_18 rfl fl_RX1_152 dX1_readHouse_58 ?_
    refine tt_iload_n C 0 dX1_readHouse_61 rfl rfl ?_
    refine tt_iconst (v := (1 : Int32)) C dX1_readHouse_62 (by decide) ?_
    refine tt_iadd C dX1_readHouse_63 ?_
    refine tt_iload_n C 2 dX1_readHouse_64 rfl rfl ?_
    refine tt_gr (fun h5 => ?_)
    refine tt_iast C dX_19 h5 dX1_readHouse_65 ?_
    refine tt_lbm (fun m6 => ?_)
    refine tt_aload_n C 1 dX1_readHouse_66 rfl rfl ?_
    refine tt_getR C (j := 0) (r0 := 18) dX_23 rfl fl_RX1_12 dX1_readHouse_67 ?_
    refine tt_dup C dX1_readHouse_70 rfl ?_
    refine tt_getI C (j := 4) dX_18 rfl fl_RX1_149 dX1_readHouse_71 ?_
    refine tt_iconst (v := (1 : Int32)) C dX1_readHouse_74 (by decide) ?_
    refine tt_iadd C dX1_readHouse_75 ?_
    refine tt_putI C (j := 4) dX_18 rfl fl_RX1_149 fw_4_4 dX1_readHouse_76 ?_
    refine tt_lbm (fun m7 => ?_)
    exact tt_vret rfl C hr dX1_readHouse_79
  · refine tt_icmp_ltF C 22 h1 dX1_readHouse_9 (by decide) ?_
    refine tt_aload_n C 0 dX1_readHouse_12 rfl rfl ?_
    refine tt_iconst (v := (5 : Int32)) C dX1_readHouse_13 (by decide) ?_
    refine tt_aload_n C 0 dX1_readHouse_14 rfl rfl ?_
    refine tt_getI C (j := 6) dX_23 rfl fl_RX1_79 dX1_readHouse_15 ?_
    refine tt_bv (fun m8 h6 => ?_)
    refine tt_callV (st := []) (As := [.int (5 : Int32), .int (μ 23 6)]) C (kX1_fail C.2.2.2.2.2.2.2.1 h6) mi_X1_fail ml_RX1_92 mv_X1_fail ms_X1_fail (q := (RX1, TX1, 12)) dX_23 rfl rfl (by decide) (by decide) (Nat.le_of_ble_eq_true rfl) dX1_readHouse_18 ?_
    exact tt_vret rfl C hr dX1_readHouse_21
theorem kX1_readHouse {l : Launch} {A : Nat → Prop} {D : va_G} {ad : Nat → Nat} {cA : Nat → ClassId} (hPk : Pk A dsX ad cA (EX A ad)) {x1 : Int32} {μ : Mem} {ν : Mem} (h : fX1_readHouse x1 μ = some ν) : Ct l A dsX D ad cA (EX A ad) yX1_readHouse cX1_readHouse 3 none 3 [.ref (ad 23), .int x1] μ (enV ν) :=
  ct_of (by decide) (Nat.le_of_ble_eq_true rfl) hPk rfl (fun p e s m args below meth c C hr => wX1_readHouse C hr x1 μ) h

/-! BasketRound.leastOf(I)I -/
def fX7_leastOf_J15 (z0 : Int32) (μ : Mem) : Option (Int32 × Mem) := some (z0, μ)
set_option maxHeartbeats 4000000 in
set_option maxRecDepth 100000 in
theorem wX7_leastOf_J15 {p : Program} {l : Launch} {e : Env} {s : State} {m : MethodId} {args : Array Value} {below : List Frame} {meth : Method} {c : Code} {A : Nat → Prop} {D : va_G} {ad : Nat → Nat} {cA : Nat → ClassId} (C : Cx p s m args meth c cX7_leastOf RX7 1 A dsX D ad cA (EX A ad)) (hr : meth.sig.returnType = some .int) (z0 : Int32) (μ : Mem) : T p l e (rmD 0) s m args below meth c 1 A dsX D ad cA enI (fX7_leastOf_J15 z0 μ) 15 [] [.int z0] μ := by
  unfold fX7_leastOf_J15
  exact tt_iret rfl C hr dX7_leastOf_15

def fX7_leastOf_J10 (μ : Mem) : Option (Int32 × Mem) := fX7_leastOf_J15 (1 : Int32) μ
set_option maxHeartbeats 4000000 in
set_option maxRecDepth 100000 in
theorem wX7_leastOf_J10 {p : Program} {l : Launch} {e : Env} {s : State} {m : MethodId} {args : Array Value} {below : List Frame} {meth : Method} {c : Code} {A : Nat → Prop} {D : va_G} {ad : Nat → Nat} {cA : Nat → ClassId} (C : Cx p s m args meth c cX7_leastOf RX7 1 A dsX D ad cA (EX A ad)) (hr : meth.sig.returnType = some .int) (μ : Mem) : T p l e (rmD 0) s m args below meth c 1 A dsX D ad cA enI (fX7_leastOf_J10 μ) 10 [] [] μ := by
  unfold fX7_leastOf_J10
  refine tt_iconst (v := (1 : Int32)) C dX7_leastOf_10 (by decide) ?_
  refine tt_goto (tgt := 15) C dX7_leastOf_11 (by decide) ?_
  refine tt_sub [] (L2 := []) rfl ?_
  exact wX7_leastOf_J15 C hr (1 : Int32) μ

def fX7_leastOf (x0 : Int32) (μ : Mem) : Option (Int32 × Mem) := if x0 = (1 : Int32) then (fX7_leastOf_J10 μ) else (if x0 = (2 : Int32) then (fX7_leastOf_J10 μ) else (fX7_leastOf_J15 (0 : Int32) μ))
set_option maxHeartbeats 4000000 in
set_option maxRecDepth 100000 in
theorem wX7_leastOf {p : Program} {l : Launch} {e : Env} {s : State} {m : MethodId} {args : Array Value} {below : List Frame} {meth : Method} {c : Code} {A : Nat → Prop} {D : va_G} {ad : Nat → Nat} {cA : Nat → ClassId} (C : Cx p s m args meth c cX7_leastOf RX7 1 A dsX D ad cA (EX A ad)) (hr : meth.sig.returnType = some .int) (x0 : Int32) (μ : Mem) : T p l e (rmD 0) s m args below meth c 1 A dsX D ad cA enI (fX7_leastOf x0 μ) 0 [(0, .int x0)] [] μ := by
  unfold fX7_leastOf
  refine tt_iload_n C 0 dX7_leastOf_0 rfl rfl ?_
  refine tt_iconst (v := (1 : Int32)) C dX7_leastOf_1 (by decide) ?_
  refine tt_if (fun h1 => ?_) (fun h1 => ?_)
  · refine tt_icmp_eqT (tgt := 10) C h1 dX7_leastOf_2 (by decide) ?_
    refine tt_sub [] (L2 := []) rfl ?_
    exact wX7_leastOf_J10 C hr μ
  · refine tt_icmp_eqF C 10 h1 dX7_leastOf_2 (by decide) ?_
    refine tt_iload_n C 0 dX7_leastOf_5 rfl rfl ?_
    refine tt_iconst (v := (2 : Int32)) C dX7_leastOf_6 (by decide) ?_
    refine tt_if (fun h2 => ?_) (fun h2 => ?_)
    · refine tt_icmp_neF C 14 h2 dX7_leastOf_7 (by decide) ?_
      refine tt_sub [] (L2 := []) rfl ?_
      exact wX7_leastOf_J10 C hr μ
    · refine tt_icmp_neT (tgt := 14) C h2 dX7_leastOf_7 (by decide) ?_
      refine tt_iconst (v := (0 : Int32)) C dX7_leastOf_14 (by decide) ?_
      refine tt_sub [] (L2 := []) rfl ?_
      exact wX7_leastOf_J15 C hr (0 : Int32) μ
theorem kX7_leastOf {l : Launch} {A : Nat → Prop} {D : va_G} {ad : Nat → Nat} {cA : Nat → ClassId} (hPk : Pk A dsX ad cA (EX A ad)) {x0 : Int32} {μ : Mem} {v : Int32} {ν : Mem} (h : fX7_leastOf x0 μ = some (v, ν)) : Ct l A dsX D ad cA (EX A ad) yX7_leastOf cX7_leastOf 1 (some .int) 0 [.int x0] μ (enI (v, ν)) :=
  ct_of (by decide) (Nat.le_of_ble_eq_true rfl) hPk rfl (fun p e s m args below meth c C hr => wX7_leastOf C hr x0 μ) h

/-! BasketRound.mostOf(I)I -/
def fX7_mostOf (x0 : Int32) (μ : Mem) : Option (Int32 × Mem) := if x0 = (0 : Int32) then (some ((4 : Int32), μ)) else (if x0 = (1 : Int32) then (some ((6 : Int32), μ)) else (if x0 = (2 : Int32) then (some ((9 : Int32), μ)) else (if x0 = (3 : Int32) then (some ((9 : Int32), μ)) else (if x0 = (4 : Int32) then (some ((99 : Int32), μ)) else (some ((9 : Int32), μ))))))
set_option maxHeartbeats 4000000 in
set_option maxRecDepth 100000 in
theorem wX7_mostOf {p : Program} {l : Launch} {e : Env} {s : State} {m : MethodId} {args : Array Value} {below : List Frame} {meth : Method} {c : Code} {A : Nat → Prop} {D : va_G} {ad : Nat → Nat} {cA : Nat → ClassId} (C : Cx p s m args meth c cX7_mostOf RX7 1 A dsX D ad cA (EX A ad)) (hr : meth.sig.returnType = some .int) (x0 : Int32) (μ : Mem) : T p l e (rmD 0) s m args below meth c 1 A dsX D ad cA enI (fX7_mostOf x0 μ) 0 [(0, .int x0)] [] μ := by
  unfold fX7_mostOf
  refine tt_iload_n C 0 dX7_mostOf_0 rfl rfl ?_
  refine tt_if (fun h1 => ?_) (fun h1 => ?_)
  · refine tt_tabIn (y1 := (0 : Int32)) (a := 0) (off := 35) (tgt := 36) C h1 (by decide) (by decide) (by decide) dX7_mostOf_1 (by decide) (by decide) ?_
    refine tt_iconst (v := (4 : Int32)) C dX7_mostOf_36 (by decide) ?_
    exact tt_iret rfl C hr dX7_mostOf_37
  · skip
    refine tt_if (fun h2 => ?_) (fun h2 => ?_)
    · refine tt_tabIn (y1 := (1 : Int32)) (a := 1) (off := 37) (tgt := 38) C h2 (by decide) (by decide) (by decide) dX7_mostOf_1 (by decide) (by decide) ?_
      refine tt_bipush (v := (6 : Int32)) C dX7_mostOf_38 (by decide) ?_
      exact tt_iret rfl C hr dX7_mostOf_40
    · skip
      refine tt_if (fun h3 => ?_) (fun h3 => ?_)
      · refine tt_tabIn (y1 := (2 : Int32)) (a := 2) (off := 43) (tgt := 44) C h3 (by decide) (by decide) (by decide) dX7_mostOf_1 (by decide) (by decide) ?_
        refine tt_bipush (v := (9 : Int32)) C dX7_mostOf_44 (by decide) ?_
        exact tt_iret rfl C hr dX7_mostOf_46
      · skip
        refine tt_if (fun h4 => ?_) (fun h4 => ?_)
        · refine tt_tabIn (y1 := (3 : Int32)) (a := 3) (off := 43) (tgt := 44) C h4 (by decide) (by decide) (by decide) dX7_mostOf_1 (by decide) (by decide) ?_
          refine tt_bipush (v := (9 : Int32)) C dX7_mostOf_44 (by decide) ?_
          exact tt_iret rfl C hr dX7_mostOf_46
        · skip
          refine tt_if (fun h5 => ?_) (fun h5 => ?_)
          · refine tt_tabIn (y1 := (4 : Int32)) (a := 4) (off := 40) (tgt := 41) C h5 (by decide) (by decide) (by decide) dX7_mostOf_1 (by decide) (by decide) ?_
            refine tt_bipush (v := (99 : Int32)) C dX7_mostOf_41 (by decide) ?_
            exact tt_iret rfl C hr dX7_mostOf_43
          · skip
            have nh1 := lv_neT h1 (show (0 : Int32).toInt = 0 by decide)
            have nh2 := lv_neT h2 (show (1 : Int32).toInt = 1 by decide)
            have nh3 := lv_neT h3 (show (2 : Int32).toInt = 2 by decide)
            have nh4 := lv_neT h4 (show (3 : Int32).toInt = 3 by decide)
            have nh5 := lv_neT h5 (show (4 : Int32).toInt = 4 by decide)
            refine tt_tabOut (tgt := 44) C (by omega) dX7_mostOf_1 (by decide) ?_
            refine tt_bipush (v := (9 : Int32)) C dX7_mostOf_44 (by decide) ?_
            exact tt_iret rfl C hr dX7_mostOf_46
theorem kX7_mostOf {l : Launch} {A : Nat → Prop} {D : va_G} {ad : Nat → Nat} {cA : Nat → ClassId} (hPk : Pk A dsX ad cA (EX A ad)) {x0 : Int32} {μ : Mem} {v : Int32} {ν : Mem} (h : fX7_mostOf x0 μ = some (v, ν)) : Ct l A dsX D ad cA (EX A ad) yX7_mostOf cX7_mostOf 1 (some .int) 0 [.int x0] μ (enI (v, ν)) :=
  ct_of (by decide) (Nat.le_of_ble_eq_true rfl) hPk rfl (fun p e s m args below meth c C hr => wX7_mostOf C hr x0 μ) h

/-! BasketRound$Reader.takeOnce(I)V -/
def fX1_takeOnce (x1 : Int32) (μ : Mem) : Option (Mem) := if ((μ 23 9) &&& x1) = (0 : Int32) then (lb (wr μ 23 9 ((μ 23 9) ||| x1)) fun m1 => bv (fX1_readToken m1) fun m2 => some m2) else (bv (fX1_fail (4 : Int32) (μ 23 6) μ) fun m3 => some m3)
set_option maxHeartbeats 4000000 in
set_option maxRecDepth 100000 in
theorem wX1_takeOnce {p : Program} {l : Launch} {e : Env} {s : State} {m : MethodId} {args : Array Value} {below : List Frame} {meth : Method} {c : Code} {A : Nat → Prop} {D : va_G} {ad : Nat → Nat} {cA : Nat → ClassId} (C : Cx p s m args meth c cX1_takeOnce RX1 2 A dsX D ad cA (EX A ad)) (hr : meth.sig.returnType = none) (x1 : Int32) (μ : Mem) : T p l e (rmD 2) s m args below meth c 2 A dsX D ad cA enV (fX1_takeOnce x1 μ) 0 [(0, .ref (ad 23)), (1, .int x1)] [] μ := by
  unfold fX1_takeOnce
  refine tt_aload_n C 0 dX1_takeOnce_0 rfl rfl ?_
  refine tt_getI C (j := 9) dX_23 rfl fl_RX1_38 dX1_takeOnce_1 ?_
  refine tt_iload_n C 1 dX1_takeOnce_4 rfl rfl ?_
  refine tt_iand C dX1_takeOnce_5 ?_
  refine tt_if (fun h1 => ?_) (fun h1 => ?_)
  · refine tt_if_eqT (tgt := 19) C h1 dX1_takeOnce_6 (by decide) ?_
    refine tt_aload_n C 0 dX1_takeOnce_19 rfl rfl ?_
    refine tt_dup C dX1_takeOnce_20 rfl ?_
    refine tt_getI C (j := 9) dX_23 rfl fl_RX1_38 dX1_takeOnce_21 ?_
    refine tt_iload_n C 1 dX1_takeOnce_24 rfl rfl ?_
    refine tt_ior C dX1_takeOnce_25 ?_
    refine tt_putI C (j := 9) dX_23 rfl fl_RX1_38 fw_1_9 dX1_takeOnce_26 ?_
    refine tt_lbm (fun m1 => ?_)
    refine tt_aload_n C 0 dX1_takeOnce_29 rfl rfl ?_
    refine tt_bv (fun m2 h2 => ?_)
    refine tt_callV (st := []) (As := []) C (kX1_readToken C.2.2.2.2.2.2.2.1 h2) mi_X1_readToken ml_RX1_47 mv_X1_readToken ms_X1_readToken (q := (RX1, TX1, 12)) dX_23 rfl rfl (by decide) (by decide) (Nat.le_of_ble_eq_true rfl) dX1_takeOnce_30 ?_
    exact tt_vret rfl C hr dX1_takeOnce_33
  · refine tt_if_eqF C 19 h1 dX1_takeOnce_6 (by decide) ?_
    refine tt_aload_n C 0 dX1_takeOnce_9 rfl rfl ?_
    refine tt_iconst (v := (4 : Int32)) C dX1_takeOnce_10 (by decide) ?_
    refine tt_aload_n C 0 dX1_takeOnce_11 rfl rfl ?_
    refine tt_getI C (j := 6) dX_23 rfl fl_RX1_79 dX1_takeOnce_12 ?_
    refine tt_bv (fun m3 h3 => ?_)
    refine tt_callV (st := []) (As := [.int (4 : Int32), .int (μ 23 6)]) C (kX1_fail C.2.2.2.2.2.2.2.1 h3) mi_X1_fail ml_RX1_92 mv_X1_fail ms_X1_fail (q := (RX1, TX1, 12)) dX_23 rfl rfl (by decide) (by decide) (Nat.le_of_ble_eq_true rfl) dX1_takeOnce_15 ?_
    exact tt_vret rfl C hr dX1_takeOnce_18
theorem kX1_takeOnce {l : Launch} {A : Nat → Prop} {D : va_G} {ad : Nat → Nat} {cA : Nat → ClassId} (hPk : Pk A dsX ad cA (EX A ad)) {x1 : Int32} {μ : Mem} {ν : Mem} (h : fX1_takeOnce x1 μ = some ν) : Ct l A dsX D ad cA (EX A ad) yX1_takeOnce cX1_takeOnce 2 none 2 [.ref (ad 23), .int x1] μ (enV ν) :=
  ct_of (by decide) (Nat.le_of_ble_eq_true rfl) hPk rfl (fun p e s m args below meth c C hr => wX1_takeOnce C hr x1 μ) h

/-! BasketRound$Reader.takeRow([I)I -/
def fX1_takeRow_J96 (a1 : Nat) (x2 : Int32) (μ : Mem) : Option (Int32 × Mem) := some (x2, μ)
set_option maxHeartbeats 4000000 in
set_option maxRecDepth 100000 in
theorem wX1_takeRow_J96 {p : Program} {l : Launch} {e : Env} {s : State} {m : MethodId} {args : Array Value} {below : List Frame} {meth : Method} {c : Code} {A : Nat → Prop} {D : va_G} {ad : Nat → Nat} {cA : Nat → ClassId} (C : Cx p s m args meth c cX1_takeRow RX1 4 A dsX D ad cA (EX A ad)) (hr : meth.sig.returnType = some .int) (a1 : Nat) (ha1 : dsX[a1]? = some (0, 5, [])) (x2 : Int32) (μ : Mem) : T p l e (rmD 2) s m args below meth c 4 A dsX D ad cA enI (fX1_takeRow_J96 a1 x2 μ) 96 [(2, .int x2)] [] μ := by
  unfold fX1_takeRow_J96
  refine tt_iload_n C 0 dX1_takeRow_96 rfl rfl ?_
  exact tt_iret rfl C hr dX1_takeRow_97

def fX1_takeRow_J90 (a1 : Nat) (k4 : Int32 → Int32 → Mem → Option (Int32 × Mem)) (x2 : Int32) (x3 : Int32) (μ : Mem) : Option (Int32 × Mem) := lb (x3 + (1 : Int32)) fun (y1 : Int32) => k4 x2 y1 μ
set_option maxHeartbeats 4000000 in
set_option maxRecDepth 100000 in
theorem wX1_takeRow_J90 {p : Program} {l : Launch} {e : Env} {s : State} {m : MethodId} {args : Array Value} {below : List Frame} {meth : Method} {c : Code} {A : Nat → Prop} {D : va_G} {ad : Nat → Nat} {cA : Nat → ClassId} (C : Cx p s m args meth c cX1_takeRow RX1 4 A dsX D ad cA (EX A ad)) (hr : meth.sig.returnType = some .int) (a1 : Nat) (ha1 : dsX[a1]? = some (0, 5, [])) (k4 : Int32 → Int32 → Mem → Option (Int32 × Mem)) (hk4 : ∀ (x2 : Int32) (x3 : Int32) (μ : Mem), T p l e (rmD 2) s m args below meth c 4 A dsX D ad cA enI (k4 x2 x3 μ) 4 [(0, .ref (ad 23)), (1, .ref (ad a1)), (2, .int x2), (3, .int x3)] [] μ) (x2 : Int32) (x3 : Int32) (μ : Mem) : T p l e (rmD 2) s m args below meth c 4 A dsX D ad cA enI (fX1_takeRow_J90 a1 k4 x2 x3 μ) 90 [(0, .ref (ad 23)), (1, .ref (ad a1)), (2, .int x2), (3, .int x3)] [] μ := by
  unfold fX1_takeRow_J90
  refine tt_iincB (d := (1 : Int32)) C 3 (fun y1 => [(3, .int y1), (0, .ref (ad 23)), (1, .ref (ad a1)), (2, .int x2)]) dX1_takeRow_90 rfl (by decide) (by decide) (fun _ => rfl) (fun y1 => ?_)
  refine tt_goto (tgt := 4) C dX1_takeRow_93 (by decide) ?_
  refine tt_sub [1, 2, 3, 0] (L2 := [(0, .ref (ad 23)), (1, .ref (ad a1)), (2, .int x2), (3, .int y1)]) rfl ?_
  exact hk4 x2 y1 μ

def fX1_takeRow_J58 (a1 : Nat) (k4 : Int32 → Int32 → Mem → Option (Int32 × Mem)) (x2 : Int32) (x3 : Int32) (μ : Mem) : Option (Int32 × Mem) := if (μ 23 3) = (0 : Int32) then (if (5 : Int32) ≤ x3 then (fX1_takeRow_J90 a1 k4 x2 x3 μ) else (gr x3 5 <| lb (wr μ a1 x3.toNatClampNeg (μ 23 8)) fun m1 => lb (x2 ||| ((1 : Int32) <<< ((m1 23 8) &&& 31))) fun (y2 : Int32) => bv (fX1_readToken m1) fun m3 => fX1_takeRow_J90 a1 k4 y2 x3 m3)) else (fX1_takeRow_J90 a1 k4 x2 x3 μ)
set_option maxHeartbeats 4000000 in
set_option maxRecDepth 100000 in
theorem wX1_takeRow_J58 {p : Program} {l : Launch} {e : Env} {s : State} {m : MethodId} {args : Array Value} {below : List Frame} {meth : Method} {c : Code} {A : Nat → Prop} {D : va_G} {ad : Nat → Nat} {cA : Nat → ClassId} (C : Cx p s m args meth c cX1_takeRow RX1 4 A dsX D ad cA (EX A ad)) (hr : meth.sig.returnType = some .int) (a1 : Nat) (ha1 : dsX[a1]? = some (0, 5, [])) (k4 : Int32 → Int32 → Mem → Option (Int32 × Mem)) (hk4 : ∀ (x2 : Int32) (x3 : Int32) (μ : Mem), T p l e (rmD 2) s m args below meth c 4 A dsX D ad cA enI (k4 x2 x3 μ) 4 [(0, .ref (ad 23)), (1, .ref (ad a1)), (2, .int x2), (3, .int x3)] [] μ) (x2 : Int32) (x3 : Int32) (μ : Mem) : T p l e (rmD 2) s m args below meth c 4 A dsX D ad cA enI (fX1_takeRow_J58 a1 k4 x2 x3 μ) 58 [(0, .ref (ad 23)), (1, .ref (ad a1)), (2, .int x2), (3, .int x3)] [] μ := by
  unfold fX1_takeRow_J58
  refine tt_aload_n C 0 dX1_takeRow_58 rfl rfl ?_
  refine tt_getI C (j := 3) dX_23 rfl fl_RX1_29 dX1_takeRow_59 ?_
  refine tt_if (fun h1 => ?_) (fun h1 => ?_)
  · refine tt_if_neF C 90 h1 dX1_takeRow_62 (by decide) ?_
    refine tt_iload_n C 3 dX1_takeRow_65 rfl rfl ?_
    refine tt_iconst (v := (5 : Int32)) C dX1_takeRow_66 (by decide) ?_
    refine tt_if (fun h2 => ?_) (fun h2 => ?_)
    · refine tt_icmp_geT (tgt := 90) C h2 dX1_takeRow_67 (by decide) ?_
      refine tt_sub [0, 1, 2, 3] (L2 := [(0, .ref (ad 23)), (1, .ref (ad a1)), (2, .int x2), (3, .int x3)]) rfl ?_
      exact wX1_takeRow_J90 C hr a1 ha1 k4 hk4 x2 x3 μ
    · refine tt_icmp_geF C 90 h2 dX1_takeRow_67 (by decide) ?_
      refine tt_aload_n C 1 dX1_takeRow_70 rfl rfl ?_
      refine tt_iload_n C 3 dX1_takeRow_71 rfl rfl ?_
      refine tt_aload_n C 0 dX1_takeRow_72 rfl rfl ?_
      refine tt_getI C (j := 8) dX_23 rfl fl_RX1_89 dX1_takeRow_73 ?_
      refine tt_gr (fun h3 => ?_)
      refine tt_iast C ha1 h3 dX1_takeRow_76 ?_
      refine tt_lbm (fun m1 => ?_)
      refine tt_iload_n C 2 dX1_takeRow_77 rfl rfl ?_
      refine tt_iconst (v := (1 : Int32)) C dX1_takeRow_78 (by decide) ?_
      refine tt_aload_n C 0 dX1_takeRow_79 rfl rfl ?_
      refine tt_getI C (j := 8) dX_23 rfl fl_RX1_89 dX1_takeRow_80 ?_
      refine tt_ishl C dX1_takeRow_83 ?_
      refine tt_ior C dX1_takeRow_84 ?_
      refine tt_lbi (fun y2 => ?_)
      refine tt_istore_n (L2 := [(2, .int y2), (0, .ref (ad 23)), (1, .ref (ad a1)), (3, .int x3)]) C dX1_takeRow_85 rfl (by decide) rfl ?_
      refine tt_aload_n C 1 dX1_takeRow_86 rfl rfl ?_
      refine tt_bv (fun m3 h4 => ?_)
      refine tt_callV (st := []) (As := []) C (kX1_readToken C.2.2.2.2.2.2.2.1 h4) mi_X1_readToken ml_RX1_47 mv_X1_readToken ms_X1_readToken (q := (RX1, TX1, 12)) dX_23 rfl rfl (by decide) (by decide) (Nat.le_of_ble_eq_true rfl) dX1_takeRow_87 ?_
      refine tt_sub [1, 2, 0, 3] (L2 := [(0, .ref (ad 23)), (1, .ref (ad a1)), (2, .int y2), (3, .int x3)]) rfl ?_
      exact wX1_takeRow_J90 C hr a1 ha1 k4 hk4 y2 x3 m3
  · refine tt_if_neT (tgt := 90) C h1 dX1_takeRow_62 (by decide) ?_
    refine tt_sub [0, 1, 2, 3] (L2 := [(0, .ref (ad 23)), (1, .ref (ad a1)), (2, .int x2), (3, .int x3)]) rfl ?_
    exact wX1_takeRow_J90 C hr a1 ha1 k4 hk4 x2 x3 μ

def fX1_takeRow_L4 (a1 : Nat) : Nat → Int32 → Int32 → Mem → Option (Int32 × Mem)
  | 0, _, _, _ => none
  | fu + 1, x2, x3, μ => if (5 : Int32) < x3 then (fX1_takeRow_J96 a1 x2 μ) else (if (μ 23 3) = (0 : Int32) then (if (μ 23 5) = (2 : Int32) then (bv (fX1_checkNumber (0 : Int32) (4 : Int32) μ) fun m1 => if (m1 23 3) = (0 : Int32) then (if ((x2 >>> ((m1 23 8) &&& 31)) &&& (1 : Int32)) = (1 : Int32) then (bv (fX1_fail (4 : Int32) (m1 23 6) m1) fun m2 => fX1_takeRow_J58 a1 (fun x2 x3 μ => fX1_takeRow_L4 a1 fu x2 x3 μ) x2 x3 m2) else (fX1_takeRow_J58 a1 (fun x2 x3 μ => fX1_takeRow_L4 a1 fu x2 x3 μ) x2 x3 m1)) else (fX1_takeRow_J58 a1 (fun x2 x3 μ => fX1_takeRow_L4 a1 fu x2 x3 μ) x2 x3 m1)) else (fX1_takeRow_J96 a1 x2 μ)) else (fX1_takeRow_J96 a1 x2 μ))
set_option maxHeartbeats 4000000 in
set_option maxRecDepth 100000 in
theorem wX1_takeRow_L4 {p : Program} {l : Launch} {e : Env} {s : State} {m : MethodId} {args : Array Value} {below : List Frame} {meth : Method} {c : Code} {A : Nat → Prop} {D : va_G} {ad : Nat → Nat} {cA : Nat → ClassId} (C : Cx p s m args meth c cX1_takeRow RX1 4 A dsX D ad cA (EX A ad)) (hr : meth.sig.returnType = some .int) (a1 : Nat) (ha1 : dsX[a1]? = some (0, 5, [])) : ∀ (fu : Nat) (x2 : Int32) (x3 : Int32) (μ : Mem), T p l e (rmD 2) s m args below meth c 4 A dsX D ad cA enI (fX1_takeRow_L4 a1 fu x2 x3 μ) 4 [(0, .ref (ad 23)), (1, .ref (ad a1)), (2, .int x2), (3, .int x3)] [] μ
  | 0, _, _, _ => tt_none
  | fu + 1, x2, x3, μ => by
    have ih := fun (x2 : Int32) (x3 : Int32) (μ : Mem) => wX1_takeRow_L4 (l := l) (e := e) (below := below) C hr a1 ha1 fu x2 x3 μ
    show T p l e (rmD 2) s m args below meth c 4 A dsX D ad cA enI (if (5 : Int32) < x3 then (fX1_takeRow_J96 a1 x2 μ) else (if (μ 23 3) = (0 : Int32) then (if (μ 23 5) = (2 : Int32) then (bv (fX1_checkNumber (0 : Int32) (4 : Int32) μ) fun m1 => if (m1 23 3) = (0 : Int32) then (if ((x2 >>> ((m1 23 8) &&& 31)) &&& (1 : Int32)) = (1 : Int32) then (bv (fX1_fail (4 : Int32) (m1 23 6) m1) fun m2 => fX1_takeRow_J58 a1 (fun x2 x3 μ => fX1_takeRow_L4 a1 fu x2 x3 μ) x2 x3 m2) else (fX1_takeRow_J58 a1 (fun x2 x3 μ => fX1_takeRow_L4 a1 fu x2 x3 μ) x2 x3 m1)) else (fX1_takeRow_J58 a1 (fun x2 x3 μ => fX1_takeRow_L4 a1 fu x2 x3 μ) x2 x3 m1)) else (fX1_takeRow_J96 a1 x2 μ)) else (fX1_takeRow_J96 a1 x2 μ))) 4 [(0, .ref (ad 23)), (1, .ref (ad a1)), (2, .int x2), (3, .int x3)] [] μ
    refine tt_iload_n C 3 dX1_takeRow_4 rfl rfl ?_
    refine tt_iconst (v := (5 : Int32)) C dX1_takeRow_5 (by decide) ?_
    refine tt_if (fun h1 => ?_) (fun h1 => ?_)
    · refine tt_icmp_gtT (tgt := 96) C h1 dX1_takeRow_6 (by decide) ?_
      refine tt_sub [2] (L2 := [(2, .int x2)]) rfl ?_
      exact wX1_takeRow_J96 C hr a1 ha1 x2 μ
    · refine tt_icmp_gtF C 96 h1 dX1_takeRow_6 (by decide) ?_
      refine tt_aload_n C 0 dX1_takeRow_9 rfl rfl ?_
      refine tt_getI C (j := 3) dX_23 rfl fl_RX1_29 dX1_takeRow_10 ?_
      refine tt_if (fun h2 => ?_) (fun h2 => ?_)
      · refine tt_if_neF C 96 h2 dX1_takeRow_13 (by decide) ?_
        refine tt_aload_n C 0 dX1_takeRow_16 rfl rfl ?_
        refine tt_getI C (j := 5) dX_23 rfl fl_RX1_50 dX1_takeRow_17 ?_
        refine tt_iconst (v := (2 : Int32)) C dX1_takeRow_20 (by decide) ?_
        refine tt_if (fun h3 => ?_) (fun h3 => ?_)
        · refine tt_icmp_neF C 96 h3 dX1_takeRow_21 (by decide) ?_
          refine tt_aload_n C 0 dX1_takeRow_24 rfl rfl ?_
          refine tt_iconst (v := (0 : Int32)) C dX1_takeRow_25 (by decide) ?_
          refine tt_iconst (v := (4 : Int32)) C dX1_takeRow_26 (by decide) ?_
          refine tt_bv (fun m1 h4 => ?_)
          refine tt_callV (st := []) (As := [.int (0 : Int32), .int (4 : Int32)]) C (kX1_checkNumber C.2.2.2.2.2.2.2.1 h4) mi_X1_checkNumber ml_RX1_183 mv_X1_checkNumber ms_X1_checkNumber (q := (RX1, TX1, 12)) dX_23 rfl rfl (by decide) (by decide) (Nat.le_of_ble_eq_true rfl) dX1_takeRow_27 ?_
          refine tt_aload_n C 0 dX1_takeRow_30 rfl rfl ?_
          refine tt_getI C (j := 3) dX_23 rfl fl_RX1_29 dX1_takeRow_31 ?_
          refine tt_if (fun h5 => ?_) (fun h5 => ?_)
          · refine tt_if_neF C 58 h5 dX1_takeRow_34 (by decide) ?_
            refine tt_iload_n C 2 dX1_takeRow_37 rfl rfl ?_
            refine tt_aload_n C 0 dX1_takeRow_38 rfl rfl ?_
            refine tt_getI C (j := 8) dX_23 rfl fl_RX1_89 dX1_takeRow_39 ?_
            refine tt_ishr C dX1_takeRow_42 ?_
            refine tt_iconst (v := (1 : Int32)) C dX1_takeRow_43 (by decide) ?_
            refine tt_iand C dX1_takeRow_44 ?_
            refine tt_iconst (v := (1 : Int32)) C dX1_takeRow_45 (by decide) ?_
            refine tt_if (fun h6 => ?_) (fun h6 => ?_)
            · refine tt_icmp_neF C 58 h6 dX1_takeRow_46 (by decide) ?_
              refine tt_aload_n C 0 dX1_takeRow_49 rfl rfl ?_
              refine tt_iconst (v := (4 : Int32)) C dX1_takeRow_50 (by decide) ?_
              refine tt_aload_n C 0 dX1_takeRow_51 rfl rfl ?_
              refine tt_getI C (j := 6) dX_23 rfl fl_RX1_79 dX1_takeRow_52 ?_
              refine tt_bv (fun m2 h7 => ?_)
              refine tt_callV (st := []) (As := [.int (4 : Int32), .int (m1 23 6)]) C (kX1_fail C.2.2.2.2.2.2.2.1 h7) mi_X1_fail ml_RX1_92 mv_X1_fail ms_X1_fail (q := (RX1, TX1, 12)) dX_23 rfl rfl (by decide) (by decide) (Nat.le_of_ble_eq_true rfl) dX1_takeRow_55 ?_
              refine tt_sub [0, 1, 2, 3] (L2 := [(0, .ref (ad 23)), (1, .ref (ad a1)), (2, .int x2), (3, .int x3)]) rfl ?_
              exact wX1_takeRow_J58 C hr a1 ha1 (fun x2 x3 μ => fX1_takeRow_L4 a1 fu x2 x3 μ) (fun x2 x3 μ => ih x2 x3 μ) x2 x3 m2
            · refine tt_icmp_neT (tgt := 58) C h6 dX1_takeRow_46 (by decide) ?_
              refine tt_sub [0, 1, 2, 3] (L2 := [(0, .ref (ad 23)), (1, .ref (ad a1)), (2, .int x2), (3, .int x3)]) rfl ?_
              exact wX1_takeRow_J58 C hr a1 ha1 (fun x2 x3 μ => fX1_takeRow_L4 a1 fu x2 x3 μ) (fun x2 x3 μ => ih x2 x3 μ) x2 x3 m1
          · refine tt_if_neT (tgt := 58) C h5 dX1_takeRow_34 (by decide) ?_
            refine tt_sub [0, 1, 2, 3] (L2 := [(0, .ref (ad 23)), (1, .ref (ad a1)), (2, .int x2), (3, .int x3)]) rfl ?_
            exact wX1_takeRow_J58 C hr a1 ha1 (fun x2 x3 μ => fX1_takeRow_L4 a1 fu x2 x3 μ) (fun x2 x3 μ => ih x2 x3 μ) x2 x3 m1
        · refine tt_icmp_neT (tgt := 96) C h3 dX1_takeRow_21 (by decide) ?_
          refine tt_sub [2] (L2 := [(2, .int x2)]) rfl ?_
          exact wX1_takeRow_J96 C hr a1 ha1 x2 μ
      · refine tt_if_neT (tgt := 96) C h2 dX1_takeRow_13 (by decide) ?_
        refine tt_sub [2] (L2 := [(2, .int x2)]) rfl ?_
        exact wX1_takeRow_J96 C hr a1 ha1 x2 μ

def fX1_takeRow (a1 : Nat) (μ : Mem) : Option (Int32 × Mem) := lb (0 : Int32) fun (y1 : Int32) => lb (0 : Int32) fun (y2 : Int32) => fX1_takeRow_L4 a1 FU y1 y2 μ
set_option maxHeartbeats 4000000 in
set_option maxRecDepth 100000 in
theorem wX1_takeRow {p : Program} {l : Launch} {e : Env} {s : State} {m : MethodId} {args : Array Value} {below : List Frame} {meth : Method} {c : Code} {A : Nat → Prop} {D : va_G} {ad : Nat → Nat} {cA : Nat → ClassId} (C : Cx p s m args meth c cX1_takeRow RX1 4 A dsX D ad cA (EX A ad)) (hr : meth.sig.returnType = some .int) (a1 : Nat) (ha1 : dsX[a1]? = some (0, 5, [])) (μ : Mem) : T p l e (rmD 2) s m args below meth c 4 A dsX D ad cA enI (fX1_takeRow a1 μ) 0 [(0, .ref (ad 23)), (1, .ref (ad a1))] [] μ := by
  unfold fX1_takeRow
  refine tt_iconst (v := (0 : Int32)) C dX1_takeRow_0 (by decide) ?_
  refine tt_lbi (fun y1 => ?_)
  refine tt_istore_n (L2 := [(2, .int y1), (0, .ref (ad 23)), (1, .ref (ad a1))]) C dX1_takeRow_1 rfl (by decide) rfl ?_
  refine tt_iconst (v := (0 : Int32)) C dX1_takeRow_2 (by decide) ?_
  refine tt_lbi (fun y2 => ?_)
  refine tt_istore_n (L2 := [(3, .int y2), (2, .int y1), (0, .ref (ad 23)), (1, .ref (ad a1))]) C dX1_takeRow_3 rfl (by decide) rfl ?_
  refine tt_sub [2, 3, 1, 0] (L2 := [(0, .ref (ad 23)), (1, .ref (ad a1)), (2, .int y1), (3, .int y2)]) rfl ?_
  exact wX1_takeRow_L4 C hr a1 ha1 FU y1 y2 μ
theorem kX1_takeRow {l : Launch} {A : Nat → Prop} {D : va_G} {ad : Nat → Nat} {cA : Nat → ClassId} (hPk : Pk A dsX ad cA (EX A ad)) (a1 : Nat) (ha1 : dsX[a1]? = some (0, 5, [])) {μ : Mem} {v : Int32} {ν : Mem} (h : fX1_takeRow a1 μ = some (v, ν)) : Ct l A dsX D ad cA (EX A ad) yX1_takeRow cX1_takeRow 4 (some .int) 2 [.ref (ad 23), .ref (ad a1)] μ (enI (v, ν)) :=
  ct_of (by decide) (Nat.le_of_ble_eq_true rfl) hPk rfl (fun p e s m args below meth c C hr => wX1_takeRow C hr a1 ha1 μ) h

/-! BasketRound$Reader.takeSemicolon()V -/
def fX1_takeSemicolon_J35 (μ : Mem) : Option (Mem) := some μ
set_option maxHeartbeats 4000000 in
set_option maxRecDepth 100000 in
theorem wX1_takeSemicolon_J35 {p : Program} {l : Launch} {e : Env} {s : State} {m : MethodId} {args : Array Value} {below : List Frame} {meth : Method} {c : Code} {A : Nat → Prop} {D : va_G} {ad : Nat → Nat} {cA : Nat → ClassId} (C : Cx p s m args meth c cX1_takeSemicolon RX1 1 A dsX D ad cA (EX A ad)) (hr : meth.sig.returnType = none) (μ : Mem) : T p l e (rmD 2) s m args below meth c 1 A dsX D ad cA enV (fX1_takeSemicolon_J35 μ) 35 [] [] μ := by
  unfold fX1_takeSemicolon_J35
  exact tt_vret rfl C hr dX1_takeSemicolon_35

def fX1_takeSemicolon_J24 (μ : Mem) : Option (Mem) := if (μ 23 3) = (0 : Int32) then (bv (fX1_readToken μ) fun m1 => fX1_takeSemicolon_J35 m1) else (fX1_takeSemicolon_J35 μ)
set_option maxHeartbeats 4000000 in
set_option maxRecDepth 100000 in
theorem wX1_takeSemicolon_J24 {p : Program} {l : Launch} {e : Env} {s : State} {m : MethodId} {args : Array Value} {below : List Frame} {meth : Method} {c : Code} {A : Nat → Prop} {D : va_G} {ad : Nat → Nat} {cA : Nat → ClassId} (C : Cx p s m args meth c cX1_takeSemicolon RX1 1 A dsX D ad cA (EX A ad)) (hr : meth.sig.returnType = none) (μ : Mem) : T p l e (rmD 2) s m args below meth c 1 A dsX D ad cA enV (fX1_takeSemicolon_J24 μ) 24 [(0, .ref (ad 23))] [] μ := by
  unfold fX1_takeSemicolon_J24
  refine tt_aload_n C 0 dX1_takeSemicolon_24 rfl rfl ?_
  refine tt_getI C (j := 3) dX_23 rfl fl_RX1_29 dX1_takeSemicolon_25 ?_
  refine tt_if (fun h1 => ?_) (fun h1 => ?_)
  · refine tt_if_neF C 35 h1 dX1_takeSemicolon_28 (by decide) ?_
    refine tt_aload_n C 0 dX1_takeSemicolon_31 rfl rfl ?_
    refine tt_bv (fun m1 h2 => ?_)
    refine tt_callV (st := []) (As := []) C (kX1_readToken C.2.2.2.2.2.2.2.1 h2) mi_X1_readToken ml_RX1_47 mv_X1_readToken ms_X1_readToken (q := (RX1, TX1, 12)) dX_23 rfl rfl (by decide) (by decide) (Nat.le_of_ble_eq_true rfl) dX1_takeSemicolon_32 ?_
    refine tt_sub [] (L2 := []) rfl ?_
    exact wX1_takeSemicolon_J35 C hr m1
  · refine tt_if_neT (tgt := 35) C h1 dX1_takeSemicolon_28 (by decide) ?_
    refine tt_sub [] (L2 := []) rfl ?_
    exact wX1_takeSemicolon_J35 C hr μ

def fX1_takeSemicolon (μ : Mem) : Option (Mem) := if (μ 23 3) = (0 : Int32) then (if (μ 23 5) = (3 : Int32) then (fX1_takeSemicolon_J24 μ) else (bv (fX1_fail (2 : Int32) (μ 23 6) μ) fun m1 => fX1_takeSemicolon_J24 m1)) else (fX1_takeSemicolon_J24 μ)
set_option maxHeartbeats 4000000 in
set_option maxRecDepth 100000 in
theorem wX1_takeSemicolon {p : Program} {l : Launch} {e : Env} {s : State} {m : MethodId} {args : Array Value} {below : List Frame} {meth : Method} {c : Code} {A : Nat → Prop} {D : va_G} {ad : Nat → Nat} {cA : Nat → ClassId} (C : Cx p s m args meth c cX1_takeSemicolon RX1 1 A dsX D ad cA (EX A ad)) (hr : meth.sig.returnType = none) (μ : Mem) : T p l e (rmD 2) s m args below meth c 1 A dsX D ad cA enV (fX1_takeSemicolon μ) 0 [(0, .ref (ad 23))] [] μ := by
  unfold fX1_takeSemicolon
  refine tt_aload_n C 0 dX1_takeSemicolon_0 rfl rfl ?_
  refine tt_getI C (j := 3) dX_23 rfl fl_RX1_29 dX1_takeSemicolon_1 ?_
  refine tt_if (fun h1 => ?_) (fun h1 => ?_)
  · refine tt_if_neF C 24 h1 dX1_takeSemicolon_4 (by decide) ?_
    refine tt_aload_n C 0 dX1_takeSemicolon_7 rfl rfl ?_
    refine tt_getI C (j := 5) dX_23 rfl fl_RX1_50 dX1_takeSemicolon_8 ?_
    refine tt_iconst (v := (3 : Int32)) C dX1_takeSemicolon_11 (by decide) ?_
    refine tt_if (fun h2 => ?_) (fun h2 => ?_)
    · refine tt_icmp_eqT (tgt := 24) C h2 dX1_takeSemicolon_12 (by decide) ?_
      refine tt_sub [0] (L2 := [(0, .ref (ad 23))]) rfl ?_
      exact wX1_takeSemicolon_J24 C hr μ
    · refine tt_icmp_eqF C 24 h2 dX1_takeSemicolon_12 (by decide) ?_
      refine tt_aload_n C 0 dX1_takeSemicolon_15 rfl rfl ?_
      refine tt_iconst (v := (2 : Int32)) C dX1_takeSemicolon_16 (by decide) ?_
      refine tt_aload_n C 0 dX1_takeSemicolon_17 rfl rfl ?_
      refine tt_getI C (j := 6) dX_23 rfl fl_RX1_79 dX1_takeSemicolon_18 ?_
      refine tt_bv (fun m1 h3 => ?_)
      refine tt_callV (st := []) (As := [.int (2 : Int32), .int (μ 23 6)]) C (kX1_fail C.2.2.2.2.2.2.2.1 h3) mi_X1_fail ml_RX1_92 mv_X1_fail ms_X1_fail (q := (RX1, TX1, 12)) dX_23 rfl rfl (by decide) (by decide) (Nat.le_of_ble_eq_true rfl) dX1_takeSemicolon_21 ?_
      refine tt_sub [0] (L2 := [(0, .ref (ad 23))]) rfl ?_
      exact wX1_takeSemicolon_J24 C hr m1
  · refine tt_if_neT (tgt := 24) C h1 dX1_takeSemicolon_4 (by decide) ?_
    refine tt_sub [0] (L2 := [(0, .ref (ad 23))]) rfl ?_
    exact wX1_takeSemicolon_J24 C hr μ
theorem kX1_takeSemicolon {l : Launch} {A : Nat → Prop} {D : va_G} {ad : Nat → Nat} {cA : Nat → ClassId} (hPk : Pk A dsX ad cA (EX A ad)) {μ : Mem} {ν : Mem} (h : fX1_takeSemicolon μ = some ν) : Ct l A dsX D ad cA (EX A ad) yX1_takeSemicolon cX1_takeSemicolon 1 none 2 [.ref (ad 23)] μ (enV ν) :=
  ct_of (by decide) (Nat.le_of_ble_eq_true rfl) hPk rfl (fun p e s m args below meth c C hr => wX1_takeSemicolon C hr μ) h

/-! BasketRound$Shop.clear()V -/
def fX4_clear (sh : Nat) (μ : Mem) : Option (Mem) := lb (wr μ sh 4 (0 : Int32)) fun m1 => lb (wr m1 sh 5 (0 : Int32)) fun m2 => lb (wr m2 sh 6 (10 : Int32)) fun m3 => lb (wr m3 sh 7 (0 : Int32)) fun m4 => some m4
set_option maxHeartbeats 4000000 in
set_option maxRecDepth 100000 in
theorem wX4_clear {p : Program} {l : Launch} {e : Env} {s : State} {m : MethodId} {args : Array Value} {below : List Frame} {meth : Method} {c : Code} {A : Nat → Prop} {D : va_G} {ad : Nat → Nat} {cA : Nat → ClassId} (C : Cx p s m args meth c cX4_clear RX4 1 A dsX D ad cA (EX A ad)) (hr : meth.sig.returnType = none) (sh : Nat) (hsh : isShop sh) (μ : Mem) : T p l e (rmD 0) s m args below meth c 1 A dsX D ad cA enV (fX4_clear sh μ) 0 [(0, .ref (ad sh))] [] μ := by
  unfold fX4_clear
  refine tt_aload_n C 0 dX4_clear_0 rfl rfl ?_
  refine tt_iconst (v := (0 : Int32)) C dX4_clear_1 (by decide) ?_
  refine tt_putI C (j := 4) hsh.1 rfl fl_RX4_28 fw_4_4 dX4_clear_2 ?_
  refine tt_lbm (fun m1 => ?_)
  refine tt_aload_n C 0 dX4_clear_5 rfl rfl ?_
  refine tt_iconst (v := (0 : Int32)) C dX4_clear_6 (by decide) ?_
  refine tt_putI C (j := 5) hsh.1 rfl fl_RX4_31 fw_4_5 dX4_clear_7 ?_
  refine tt_lbm (fun m2 => ?_)
  refine tt_aload_n C 0 dX4_clear_10 rfl rfl ?_
  refine tt_bipush (v := (10 : Int32)) C dX4_clear_11 (by decide) ?_
  refine tt_putI C (j := 6) hsh.1 rfl fl_RX4_24 fw_4_6 dX4_clear_13 ?_
  refine tt_lbm (fun m3 => ?_)
  refine tt_aload_n C 0 dX4_clear_16 rfl rfl ?_
  refine tt_iconst (v := (0 : Int32)) C dX4_clear_17 (by decide) ?_
  refine tt_putI C (j := 7) hsh.1 rfl fl_RX4_34 fw_4_7 dX4_clear_18 ?_
  refine tt_lbm (fun m4 => ?_)
  exact tt_vret rfl C hr dX4_clear_21
theorem kX4_clear {l : Launch} {A : Nat → Prop} {D : va_G} {ad : Nat → Nat} {cA : Nat → ClassId} (hPk : Pk A dsX ad cA (EX A ad)) (sh : Nat) (hsh : isShop sh) {μ : Mem} {ν : Mem} (h : fX4_clear sh μ = some ν) : Ct l A dsX D ad cA (EX A ad) yX4_clear cX4_clear 1 none 0 [.ref (ad sh)] μ (enV ν) :=
  ct_of (by decide) (Nat.le_of_ble_eq_true rfl) hPk rfl (fun p e s m args below meth c C hr => wX4_clear C hr sh hsh μ) h

/-! BasketRound$Seen.add(II)V -/
def fX2_add (x1 : Int32) (x2 : Int32) (μ : Mem) : Option (Mem) := gr (μ 31 2) 6 <| lb (wr μ 32 (μ 31 2).toNatClampNeg x1) fun m1 => gr (m1 31 2) 6 <| lb (wr m1 33 (m1 31 2).toNatClampNeg x2) fun m2 => lb (wr m2 31 2 ((m2 31 2) + (1 : Int32))) fun m3 => some m3
set_option maxHeartbeats 4000000 in
set_option maxRecDepth 100000 in
theorem wX2_add {p : Program} {l : Launch} {e : Env} {s : State} {m : MethodId} {args : Array Value} {below : List Frame} {meth : Method} {c : Code} {A : Nat → Prop} {D : va_G} {ad : Nat → Nat} {cA : Nat → ClassId} (C : Cx p s m args meth c cX2_add RX2 3 A dsX D ad cA (EX A ad)) (hr : meth.sig.returnType = none) (x1 : Int32) (x2 : Int32) (μ : Mem) : T p l e (rmD 0) s m args below meth c 3 A dsX D ad cA enV (fX2_add x1 x2 μ) 0 [(0, .ref (ad 31)), (1, .int x1), (2, .int x2)] [] μ := by
  unfold fX2_add
  refine tt_aload_n C 0 dX2_add_0 rfl rfl ?_
  refine tt_getR C (j := 0) (r0 := 32) dX_31 rfl fl_RX2_9 dX2_add_1 ?_
  refine tt_aload_n C 0 dX2_add_4 rfl rfl ?_
  refine tt_getI C (j := 2) dX_31 rfl fl_RX2_18 dX2_add_5 ?_
  refine tt_iload_n C 1 dX2_add_8 rfl rfl ?_
  refine tt_gr (fun h1 => ?_)
  refine tt_iast C dX_32 h1 dX2_add_9 ?_
  refine tt_lbm (fun m1 => ?_)
  refine tt_aload_n C 0 dX2_add_10 rfl rfl ?_
  refine tt_getR C (j := 1) (r0 := 33) dX_31 rfl fl_RX2_15 dX2_add_11 ?_
  refine tt_aload_n C 0 dX2_add_14 rfl rfl ?_
  refine tt_getI C (j := 2) dX_31 rfl fl_RX2_18 dX2_add_15 ?_
  refine tt_iload_n C 2 dX2_add_18 rfl rfl ?_
  refine tt_gr (fun h2 => ?_)
  refine tt_iast C dX_33 h2 dX2_add_19 ?_
  refine tt_lbm (fun m2 => ?_)
  refine tt_aload_n C 0 dX2_add_20 rfl rfl ?_
  refine tt_dup C dX2_add_21 rfl ?_
  refine tt_getI C (j := 2) dX_31 rfl fl_RX2_18 dX2_add_22 ?_
  refine tt_iconst (v := (1 : Int32)) C dX2_add_25 (by decide) ?_
  refine tt_iadd C dX2_add_26 ?_
  refine tt_putI C (j := 2) dX_31 rfl fl_RX2_18 fw_2_2 dX2_add_27 ?_
  refine tt_lbm (fun m3 => ?_)
  exact tt_vret rfl C hr dX2_add_30
theorem kX2_add {l : Launch} {A : Nat → Prop} {D : va_G} {ad : Nat → Nat} {cA : Nat → ClassId} (hPk : Pk A dsX ad cA (EX A ad)) {x1 : Int32} {x2 : Int32} {μ : Mem} {ν : Mem} (h : fX2_add x1 x2 μ = some ν) : Ct l A dsX D ad cA (EX A ad) yX2_add cX2_add 3 none 0 [.ref (ad 31), .int x1, .int x2] μ (enV ν) :=
  ct_of (by decide) (Nat.le_of_ble_eq_true rfl) hPk rfl (fun p e s m args below meth c C hr => wX2_add C hr x1 x2 μ) h

/-! BasketRound$Seen.agreesWith([I)Z -/
def fX2_agreesWith_J38 (a1 : Nat) (k4 : Int32 → Int32 → Mem → Option (Int32 × Mem)) (x3 : Int32) (z0 : Int32) (μ : Mem) : Option (Int32 × Mem) := lb (x3 + (1 : Int32)) fun (y1 : Int32) => k4 z0 y1 μ
set_option maxHeartbeats 4000000 in
set_option maxRecDepth 100000 in
theorem wX2_agreesWith_J38 {p : Program} {l : Launch} {e : Env} {s : State} {m : MethodId} {args : Array Value} {below : List Frame} {meth : Method} {c : Code} {A : Nat → Prop} {D : va_G} {ad : Nat → Nat} {cA : Nat → ClassId} (C : Cx p s m args meth c cX2_agreesWith RX2 4 A dsX D ad cA (EX A ad)) (hr : meth.sig.returnType = some .boolean) (a1 : Nat) (ha1 : dsX[a1]? = some (0, 5, [])) (k4 : Int32 → Int32 → Mem → Option (Int32 × Mem)) (hk4 : ∀ (x2 : Int32) (x3 : Int32) (μ : Mem), T p l e (rmD 0) s m args below meth c 4 A dsX D ad cA enI (k4 x2 x3 μ) 4 [(0, .ref (ad 31)), (1, .ref (ad a1)), (2, .int x2), (3, .int x3)] [] μ) (x3 : Int32) (z0 : Int32) (μ : Mem) : T p l e (rmD 0) s m args below meth c 4 A dsX D ad cA enI (fX2_agreesWith_J38 a1 k4 x3 z0 μ) 38 [(0, .ref (ad 31)), (1, .ref (ad a1)), (3, .int x3)] [.int z0] μ := by
  unfold fX2_agreesWith_J38
  refine tt_istore_n (L2 := [(2, .int z0), (0, .ref (ad 31)), (1, .ref (ad a1)), (3, .int x3)]) C dX2_agreesWith_38 rfl (by decide) rfl ?_
  refine tt_iincB (d := (1 : Int32)) C 3 (fun y1 => [(3, .int y1), (2, .int z0), (0, .ref (ad 31)), (1, .ref (ad a1))]) dX2_agreesWith_39 rfl (by decide) (by decide) (fun _ => rfl) (fun y1 => ?_)
  refine tt_goto (tgt := 4) C dX2_agreesWith_42 (by decide) ?_
  refine tt_sub [2, 3, 1, 0] (L2 := [(0, .ref (ad 31)), (1, .ref (ad a1)), (2, .int z0), (3, .int y1)]) rfl ?_
  exact hk4 z0 y1 μ

def fX2_agreesWith_J37 (a1 : Nat) (k4 : Int32 → Int32 → Mem → Option (Int32 × Mem)) (x3 : Int32) (μ : Mem) : Option (Int32 × Mem) := fX2_agreesWith_J38 a1 k4 x3 (0 : Int32) μ
set_option maxHeartbeats 4000000 in
set_option maxRecDepth 100000 in
theorem wX2_agreesWith_J37 {p : Program} {l : Launch} {e : Env} {s : State} {m : MethodId} {args : Array Value} {below : List Frame} {meth : Method} {c : Code} {A : Nat → Prop} {D : va_G} {ad : Nat → Nat} {cA : Nat → ClassId} (C : Cx p s m args meth c cX2_agreesWith RX2 4 A dsX D ad cA (EX A ad)) (hr : meth.sig.returnType = some .boolean) (a1 : Nat) (ha1 : dsX[a1]? = some (0, 5, [])) (k4 : Int32 → Int32 → Mem → Option (Int32 × Mem)) (hk4 : ∀ (x2 : Int32) (x3 : Int32) (μ : Mem), T p l e (rmD 0) s m args below meth c 4 A dsX D ad cA enI (k4 x2 x3 μ) 4 [(0, .ref (ad 31)), (1, .ref (ad a1)), (2, .int x2), (3, .int x3)] [] μ) (x3 : Int32) (μ : Mem) : T p l e (rmD 0) s m args below meth c 4 A dsX D ad cA enI (fX2_agreesWith_J37 a1 k4 x3 μ) 37 [(0, .ref (ad 31)), (1, .ref (ad a1)), (3, .int x3)] [] μ := by
  unfold fX2_agreesWith_J37
  refine tt_iconst (v := (0 : Int32)) C dX2_agreesWith_37 (by decide) ?_
  refine tt_sub [0, 1, 2] (L2 := [(0, .ref (ad 31)), (1, .ref (ad a1)), (3, .int x3)]) rfl ?_
  exact wX2_agreesWith_J38 C hr a1 ha1 k4 hk4 x3 (0 : Int32) μ

def fX2_agreesWith_L4 (a1 : Nat) : Nat → Int32 → Int32 → Mem → Option (Int32 × Mem)
  | 0, _, _, _ => none
  | fu + 1, x2, x3, μ => if (μ 31 2) ≤ x3 then (gd (x2 = (0 : Int32) ∨ x2 = (1 : Int32)) <| some (x2, μ)) else (if x2 = (0 : Int32) then (fX2_agreesWith_J37 a1 (fun x2 x3 μ => fX2_agreesWith_L4 a1 fu x2 x3 μ) x3 μ) else (gr x3 6 <| gr (μ 32 x3.toNatClampNeg) 5 <| gr x3 6 <| if (μ a1 (μ 32 x3.toNatClampNeg).toNatClampNeg) = (μ 33 x3.toNatClampNeg) then (fX2_agreesWith_J38 a1 (fun x2 x3 μ => fX2_agreesWith_L4 a1 fu x2 x3 μ) x3 (1 : Int32) μ) else (fX2_agreesWith_J37 a1 (fun x2 x3 μ => fX2_agreesWith_L4 a1 fu x2 x3 μ) x3 μ)))
set_option maxHeartbeats 4000000 in
set_option maxRecDepth 100000 in
theorem wX2_agreesWith_L4 {p : Program} {l : Launch} {e : Env} {s : State} {m : MethodId} {args : Array Value} {below : List Frame} {meth : Method} {c : Code} {A : Nat → Prop} {D : va_G} {ad : Nat → Nat} {cA : Nat → ClassId} (C : Cx p s m args meth c cX2_agreesWith RX2 4 A dsX D ad cA (EX A ad)) (hr : meth.sig.returnType = some .boolean) (a1 : Nat) (ha1 : dsX[a1]? = some (0, 5, [])) : ∀ (fu : Nat) (x2 : Int32) (x3 : Int32) (μ : Mem), T p l e (rmD 0) s m args below meth c 4 A dsX D ad cA enI (fX2_agreesWith_L4 a1 fu x2 x3 μ) 4 [(0, .ref (ad 31)), (1, .ref (ad a1)), (2, .int x2), (3, .int x3)] [] μ
  | 0, _, _, _ => tt_none
  | fu + 1, x2, x3, μ => by
    have ih := fun (x2 : Int32) (x3 : Int32) (μ : Mem) => wX2_agreesWith_L4 (l := l) (e := e) (below := below) C hr a1 ha1 fu x2 x3 μ
    show T p l e (rmD 0) s m args below meth c 4 A dsX D ad cA enI (if (μ 31 2) ≤ x3 then (gd (x2 = (0 : Int32) ∨ x2 = (1 : Int32)) <| some (x2, μ)) else (if x2 = (0 : Int32) then (fX2_agreesWith_J37 a1 (fun x2 x3 μ => fX2_agreesWith_L4 a1 fu x2 x3 μ) x3 μ) else (gr x3 6 <| gr (μ 32 x3.toNatClampNeg) 5 <| gr x3 6 <| if (μ a1 (μ 32 x3.toNatClampNeg).toNatClampNeg) = (μ 33 x3.toNatClampNeg) then (fX2_agreesWith_J38 a1 (fun x2 x3 μ => fX2_agreesWith_L4 a1 fu x2 x3 μ) x3 (1 : Int32) μ) else (fX2_agreesWith_J37 a1 (fun x2 x3 μ => fX2_agreesWith_L4 a1 fu x2 x3 μ) x3 μ)))) 4 [(0, .ref (ad 31)), (1, .ref (ad a1)), (2, .int x2), (3, .int x3)] [] μ
    refine tt_iload_n C 3 dX2_agreesWith_4 rfl rfl ?_
    refine tt_aload_n C 0 dX2_agreesWith_5 rfl rfl ?_
    refine tt_getI C (j := 2) dX_31 rfl fl_RX2_18 dX2_agreesWith_6 ?_
    refine tt_if (fun h1 => ?_) (fun h1 => ?_)
    · refine tt_icmp_geT (tgt := 45) C h1 dX2_agreesWith_9 (by decide) ?_
      refine tt_iload_n C 2 dX2_agreesWith_45 rfl rfl ?_
      refine tt_gd (fun h2 => ?_)
      exact tt_zret rfl C hr h2 dX2_agreesWith_46
    · refine tt_icmp_geF C 45 h1 dX2_agreesWith_9 (by decide) ?_
      refine tt_iload_n C 2 dX2_agreesWith_12 rfl rfl ?_
      refine tt_if (fun h3 => ?_) (fun h3 => ?_)
      · refine tt_if_eqT (tgt := 37) C h3 dX2_agreesWith_13 (by decide) ?_
        refine tt_sub [0, 1, 3] (L2 := [(0, .ref (ad 31)), (1, .ref (ad a1)), (3, .int x3)]) rfl ?_
        exact wX2_agreesWith_J37 C hr a1 ha1 (fun x2 x3 μ => fX2_agreesWith_L4 a1 fu x2 x3 μ) (fun x2 x3 μ => ih x2 x3 μ) x3 μ
      · refine tt_if_eqF C 37 h3 dX2_agreesWith_13 (by decide) ?_
        refine tt_aload_n C 1 dX2_agreesWith_16 rfl rfl ?_
        refine tt_aload_n C 0 dX2_agreesWith_17 rfl rfl ?_
        refine tt_getR C (j := 0) (r0 := 32) dX_31 rfl fl_RX2_9 dX2_agreesWith_18 ?_
        refine tt_iload_n C 3 dX2_agreesWith_21 rfl rfl ?_
        refine tt_gr (fun h4 => ?_)
        refine tt_iald C dX_32 h4 dX2_agreesWith_22 ?_
        refine tt_gr (fun h5 => ?_)
        refine tt_iald C ha1 h5 dX2_agreesWith_23 ?_
        refine tt_aload_n C 0 dX2_agreesWith_24 rfl rfl ?_
        refine tt_getR C (j := 1) (r0 := 33) dX_31 rfl fl_RX2_15 dX2_agreesWith_25 ?_
        refine tt_iload_n C 3 dX2_agreesWith_28 rfl rfl ?_
        refine tt_gr (fun h6 => ?_)
        refine tt_iald C dX_33 h6 dX2_agreesWith_29 ?_
        refine tt_if (fun h7 => ?_) (fun h7 => ?_)
        · refine tt_icmp_neF C 37 h7 dX2_agreesWith_30 (by decide) ?_
          refine tt_iconst (v := (1 : Int32)) C dX2_agreesWith_33 (by decide) ?_
          refine tt_goto (tgt := 38) C dX2_agreesWith_34 (by decide) ?_
          refine tt_sub [0, 1, 3] (L2 := [(0, .ref (ad 31)), (1, .ref (ad a1)), (3, .int x3)]) rfl ?_
          exact wX2_agreesWith_J38 C hr a1 ha1 (fun x2 x3 μ => fX2_agreesWith_L4 a1 fu x2 x3 μ) (fun x2 x3 μ => ih x2 x3 μ) x3 (1 : Int32) μ
        · refine tt_icmp_neT (tgt := 37) C h7 dX2_agreesWith_30 (by decide) ?_
          refine tt_sub [0, 1, 3] (L2 := [(0, .ref (ad 31)), (1, .ref (ad a1)), (3, .int x3)]) rfl ?_
          exact wX2_agreesWith_J37 C hr a1 ha1 (fun x2 x3 μ => fX2_agreesWith_L4 a1 fu x2 x3 μ) (fun x2 x3 μ => ih x2 x3 μ) x3 μ

def fX2_agreesWith (a1 : Nat) (μ : Mem) : Option (Int32 × Mem) := lb (1 : Int32) fun (y1 : Int32) => lb (0 : Int32) fun (y2 : Int32) => fX2_agreesWith_L4 a1 FU y1 y2 μ
set_option maxHeartbeats 4000000 in
set_option maxRecDepth 100000 in
theorem wX2_agreesWith {p : Program} {l : Launch} {e : Env} {s : State} {m : MethodId} {args : Array Value} {below : List Frame} {meth : Method} {c : Code} {A : Nat → Prop} {D : va_G} {ad : Nat → Nat} {cA : Nat → ClassId} (C : Cx p s m args meth c cX2_agreesWith RX2 4 A dsX D ad cA (EX A ad)) (hr : meth.sig.returnType = some .boolean) (a1 : Nat) (ha1 : dsX[a1]? = some (0, 5, [])) (μ : Mem) : T p l e (rmD 0) s m args below meth c 4 A dsX D ad cA enI (fX2_agreesWith a1 μ) 0 [(0, .ref (ad 31)), (1, .ref (ad a1))] [] μ := by
  unfold fX2_agreesWith
  refine tt_iconst (v := (1 : Int32)) C dX2_agreesWith_0 (by decide) ?_
  refine tt_lbi (fun y1 => ?_)
  refine tt_istore_n (L2 := [(2, .int y1), (0, .ref (ad 31)), (1, .ref (ad a1))]) C dX2_agreesWith_1 rfl (by decide) rfl ?_
  refine tt_iconst (v := (0 : Int32)) C dX2_agreesWith_2 (by decide) ?_
  refine tt_lbi (fun y2 => ?_)
  refine tt_istore_n (L2 := [(3, .int y2), (2, .int y1), (0, .ref (ad 31)), (1, .ref (ad a1))]) C dX2_agreesWith_3 rfl (by decide) rfl ?_
  refine tt_sub [2, 3, 1, 0] (L2 := [(0, .ref (ad 31)), (1, .ref (ad a1)), (2, .int y1), (3, .int y2)]) rfl ?_
  exact wX2_agreesWith_L4 C hr a1 ha1 FU y1 y2 μ
theorem kX2_agreesWith {l : Launch} {A : Nat → Prop} {D : va_G} {ad : Nat → Nat} {cA : Nat → ClassId} (hPk : Pk A dsX ad cA (EX A ad)) (a1 : Nat) (ha1 : dsX[a1]? = some (0, 5, [])) {μ : Mem} {v : Int32} {ν : Mem} (h : fX2_agreesWith a1 μ = some (v, ν)) : Ct l A dsX D ad cA (EX A ad) yX2_agreesWith cX2_agreesWith 4 (some .boolean) 0 [.ref (ad 31), .ref (ad a1)] μ (enI (v, ν)) :=
  ct_of (by decide) (Nat.le_of_ble_eq_true rfl) hPk rfl (fun p e s m args below meth c C hr => wX2_agreesWith C hr a1 ha1 μ) h

/-! BasketRound$Sheets.cell(II)I -/
def fX3_cell (x1 : Int32) (x2 : Int32) (μ : Mem) : Option (Int32 × Mem) := gr x1 4 <| if x1.toNatClampNeg = 0 then (gr x2 40 <| some ((μ 38 x2.toNatClampNeg), μ)) else (if x1.toNatClampNeg = 1 then (gr x2 40 <| some ((μ 39 x2.toNatClampNeg), μ)) else (if x1.toNatClampNeg = 2 then (gr x2 40 <| some ((μ 40 x2.toNatClampNeg), μ)) else (if x1.toNatClampNeg = 3 then (gr x2 40 <| some ((μ 41 x2.toNatClampNeg), μ)) else (none))))
set_option maxHeartbeats 4000000 in
set_option maxRecDepth 100000 in
theorem wX3_cell {p : Program} {l : Launch} {e : Env} {s : State} {m : MethodId} {args : Array Value} {below : List Frame} {meth : Method} {c : Code} {A : Nat → Prop} {D : va_G} {ad : Nat → Nat} {cA : Nat → ClassId} (C : Cx p s m args meth c cX3_cell RX3 3 A dsX D ad cA (EX A ad)) (hr : meth.sig.returnType = some .int) (x1 : Int32) (x2 : Int32) (μ : Mem) : T p l e (rmD 0) s m args below meth c 3 A dsX D ad cA enI (fX3_cell x1 x2 μ) 0 [(0, .ref (ad 36)), (1, .int x1), (2, .int x2)] [] μ := by
  unfold fX3_cell
  refine tt_aload_n C 0 dX3_cell_0 rfl rfl ?_
  refine tt_getR C (j := 0) (r0 := 37) dX_36 rfl fl_RX3_11 dX3_cell_1 ?_
  refine tt_iload_n C 1 dX3_cell_4 rfl rfl ?_
  refine tt_gr (fun h1 => ?_)
  refine tt_if (fun h2 => ?_) (fun h2 => ?_)
  · refine tt_gald (r0 := 38) C dX_37 h1 (by rw [h2]; rfl) dX3_cell_5 ?_
    refine tt_iload_n C 2 dX3_cell_6 rfl rfl ?_
    refine tt_gr (fun h3 => ?_)
    refine tt_iald C dX_38 h3 dX3_cell_7 ?_
    exact tt_iret rfl C hr dX3_cell_8
  · skip
    refine tt_if (fun h4 => ?_) (fun h4 => ?_)
    · refine tt_gald (r0 := 39) C dX_37 h1 (by rw [h4]; rfl) dX3_cell_5 ?_
      refine tt_iload_n C 2 dX3_cell_6 rfl rfl ?_
      refine tt_gr (fun h5 => ?_)
      refine tt_iald C dX_39 h5 dX3_cell_7 ?_
      exact tt_iret rfl C hr dX3_cell_8
    · skip
      refine tt_if (fun h6 => ?_) (fun h6 => ?_)
      · refine tt_gald (r0 := 40) C dX_37 h1 (by rw [h6]; rfl) dX3_cell_5 ?_
        refine tt_iload_n C 2 dX3_cell_6 rfl rfl ?_
        refine tt_gr (fun h7 => ?_)
        refine tt_iald C dX_40 h7 dX3_cell_7 ?_
        exact tt_iret rfl C hr dX3_cell_8
      · skip
        refine tt_if (fun h8 => ?_) (fun h8 => ?_)
        · refine tt_gald (r0 := 41) C dX_37 h1 (by rw [h8]; rfl) dX3_cell_5 ?_
          refine tt_iload_n C 2 dX3_cell_6 rfl rfl ?_
          refine tt_gr (fun h9 => ?_)
          refine tt_iald C dX_41 h9 dX3_cell_7 ?_
          exact tt_iret rfl C hr dX3_cell_8
        · skip
          exact tt_none
theorem kX3_cell {l : Launch} {A : Nat → Prop} {D : va_G} {ad : Nat → Nat} {cA : Nat → ClassId} (hPk : Pk A dsX ad cA (EX A ad)) {x1 : Int32} {x2 : Int32} {μ : Mem} {v : Int32} {ν : Mem} (h : fX3_cell x1 x2 μ = some (v, ν)) : Ct l A dsX D ad cA (EX A ad) yX3_cell cX3_cell 3 (some .int) 0 [.ref (ad 36), .int x1, .int x2] μ (enI (v, ν)) :=
  ct_of (by decide) (Nat.le_of_ble_eq_true rfl) hPk rfl (fun p e s m args below meth c C hr => wX3_cell C hr x1 x2 μ) h

/-! BasketRound$Sheets.faultAt(IIJ)I -/
def fX3_faultAt_J46 (z0 : Int32) (μ : Mem) : Option (Int32 × Mem) := some (z0, μ)
set_option maxHeartbeats 4000000 in
set_option maxRecDepth 100000 in
theorem wX3_faultAt_J46 {p : Program} {l : Launch} {e : Env} {s : State} {m : MethodId} {args : Array Value} {below : List Frame} {meth : Method} {c : Code} {A : Nat → Prop} {D : va_G} {ad : Nat → Nat} {cA : Nat → ClassId} (C : Cx p s m args meth c cX3_faultAt RX3 5 A dsX D ad cA (EX A ad)) (hr : meth.sig.returnType = some .int) (z0 : Int32) (μ : Mem) : T p l e (rmD 0) s m args below meth c 5 A dsX D ad cA enI (fX3_faultAt_J46 z0 μ) 46 [] [.int z0] μ := by
  unfold fX3_faultAt_J46
  exact tt_iret rfl C hr dX3_faultAt_46

def fX3_faultAt_J41 (μ : Mem) : Option (Int32 × Mem) := fX3_faultAt_J46 (2 : Int32) μ
set_option maxHeartbeats 4000000 in
set_option maxRecDepth 100000 in
theorem wX3_faultAt_J41 {p : Program} {l : Launch} {e : Env} {s : State} {m : MethodId} {args : Array Value} {below : List Frame} {meth : Method} {c : Code} {A : Nat → Prop} {D : va_G} {ad : Nat → Nat} {cA : Nat → ClassId} (C : Cx p s m args meth c cX3_faultAt RX3 5 A dsX D ad cA (EX A ad)) (hr : meth.sig.returnType = some .int) (μ : Mem) : T p l e (rmD 0) s m args below meth c 5 A dsX D ad cA enI (fX3_faultAt_J41 μ) 41 [] [] μ := by
  unfold fX3_faultAt_J41
  refine tt_iconst (v := (2 : Int32)) C dX3_faultAt_41 (by decide) ?_
  refine tt_goto (tgt := 46) C dX3_faultAt_42 (by decide) ?_
  refine tt_sub [] (L2 := []) rfl ?_
  exact wX3_faultAt_J46 C hr (2 : Int32) μ

def fX3_faultAt (x1 : Int32) (x2 : Int32) (x3 : Int64) (μ : Mem) : Option (Int32 × Mem) := gr x1 4 <| if (0 : Int32) ≤ (μ 43 x1.toNatClampNeg) then (gr x1 4 <| if (μ 42 x1.toNatClampNeg) = x2 then (if (lg_cmp x3 (0 : Int64)) < (0 : Int32) then (fX3_faultAt_J41 μ) else (gr x1 4 <| if (lg_cmp x3 ((μ 43 x1.toNatClampNeg).toInt64)) < (0 : Int32) then (fX3_faultAt_J46 (0 : Int32) μ) else (fX3_faultAt_J41 μ))) else (some ((3 : Int32), μ))) else (some ((1 : Int32), μ))
set_option maxHeartbeats 4000000 in
set_option maxRecDepth 100000 in
theorem wX3_faultAt {p : Program} {l : Launch} {e : Env} {s : State} {m : MethodId} {args : Array Value} {below : List Frame} {meth : Method} {c : Code} {A : Nat → Prop} {D : va_G} {ad : Nat → Nat} {cA : Nat → ClassId} (C : Cx p s m args meth c cX3_faultAt RX3 5 A dsX D ad cA (EX A ad)) (hr : meth.sig.returnType = some .int) (x1 : Int32) (x2 : Int32) (x3 : Int64) (μ : Mem) : T p l e (rmD 0) s m args below meth c 5 A dsX D ad cA enI (fX3_faultAt x1 x2 x3 μ) 0 [(0, .ref (ad 36)), (1, .int x1), (2, .int x2), (3, .long x3)] [] μ := by
  unfold fX3_faultAt
  refine tt_aload_n C 0 dX3_faultAt_0 rfl rfl ?_
  refine tt_getR C (j := 2) (r0 := 43) dX_36 rfl fl_RX3_20 dX3_faultAt_1 ?_
  refine tt_iload_n C 1 dX3_faultAt_4 rfl rfl ?_
  refine tt_gr (fun h1 => ?_)
  refine tt_iald C dX_43 h1 dX3_faultAt_5 ?_
  refine tt_if (fun h2 => ?_) (fun h2 => ?_)
  · refine tt_if_geT (tgt := 11) C h2 dX3_faultAt_6 (by decide) ?_
    refine tt_aload_n C 0 dX3_faultAt_11 rfl rfl ?_
    refine tt_getR C (j := 1) (r0 := 42) dX_36 rfl fl_RX3_16 dX3_faultAt_12 ?_
    refine tt_iload_n C 1 dX3_faultAt_15 rfl rfl ?_
    refine tt_gr (fun h3 => ?_)
    refine tt_iald C dX_42 h3 dX3_faultAt_16 ?_
    refine tt_iload_n C 2 dX3_faultAt_17 rfl rfl ?_
    refine tt_if (fun h4 => ?_) (fun h4 => ?_)
    · refine tt_icmp_eqT (tgt := 23) C h4 dX3_faultAt_18 (by decide) ?_
      refine tt_lload_n C 3 dX3_faultAt_23 rfl rfl ?_
      refine tt_lconst (v := (0 : Int64)) C dX3_faultAt_24 (by decide) ?_
      refine tt_lcmp C dX3_faultAt_25 ?_
      refine tt_if (fun h5 => ?_) (fun h5 => ?_)
      · refine tt_if_ltT (tgt := 41) C h5 dX3_faultAt_26 (by decide) ?_
        refine tt_sub [] (L2 := []) rfl ?_
        exact wX3_faultAt_J41 C hr μ
      · refine tt_if_ltF C 41 h5 dX3_faultAt_26 (by decide) ?_
        refine tt_lload_n C 3 dX3_faultAt_29 rfl rfl ?_
        refine tt_aload_n C 0 dX3_faultAt_30 rfl rfl ?_
        refine tt_getR C (j := 2) (r0 := 43) dX_36 rfl fl_RX3_20 dX3_faultAt_31 ?_
        refine tt_iload_n C 1 dX3_faultAt_34 rfl rfl ?_
        refine tt_gr (fun h6 => ?_)
        refine tt_iald C dX_43 h6 dX3_faultAt_35 ?_
        refine tt_i2l C dX3_faultAt_36 ?_
        refine tt_lcmp C dX3_faultAt_37 ?_
        refine tt_if (fun h7 => ?_) (fun h7 => ?_)
        · refine tt_if_ltT (tgt := 45) C h7 dX3_faultAt_38 (by decide) ?_
          refine tt_iconst (v := (0 : Int32)) C dX3_faultAt_45 (by decide) ?_
          refine tt_sub [] (L2 := []) rfl ?_
          exact wX3_faultAt_J46 C hr (0 : Int32) μ
        · refine tt_if_ltF C 45 h7 dX3_faultAt_38 (by decide) ?_
          refine tt_sub [] (L2 := []) rfl ?_
          exact wX3_faultAt_J41 C hr μ
    · refine tt_icmp_eqF C 23 h4 dX3_faultAt_18 (by decide) ?_
      refine tt_iconst (v := (3 : Int32)) C dX3_faultAt_21 (by decide) ?_
      exact tt_iret rfl C hr dX3_faultAt_22
  · refine tt_if_geF C 11 h2 dX3_faultAt_6 (by decide) ?_
    refine tt_iconst (v := (1 : Int32)) C dX3_faultAt_9 (by decide) ?_
    exact tt_iret rfl C hr dX3_faultAt_10
theorem kX3_faultAt {l : Launch} {A : Nat → Prop} {D : va_G} {ad : Nat → Nat} {cA : Nat → ClassId} (hPk : Pk A dsX ad cA (EX A ad)) {x1 : Int32} {x2 : Int32} {x3 : Int64} {μ : Mem} {v : Int32} {ν : Mem} (h : fX3_faultAt x1 x2 x3 μ = some (v, ν)) : Ct l A dsX D ad cA (EX A ad) yX3_faultAt cX3_faultAt 5 (some .int) 0 [.ref (ad 36), .int x1, .int x2, .long x3] μ (enI (v, ν)) :=
  ct_of (by decide) (Nat.le_of_ble_eq_true rfl) hPk rfl (fun p e s m args below meth c C hr => wX3_faultAt C hr x1 x2 x3 μ) h

/-! BasketRound$Sheets.faultOfPair(IIII)I -/
def fX3_faultOfPair_J42 (z0 : Int32) (μ : Mem) : Option (Int32 × Mem) := some (z0, μ)
set_option maxHeartbeats 4000000 in
set_option maxRecDepth 100000 in
theorem wX3_faultOfPair_J42 {p : Program} {l : Launch} {e : Env} {s : State} {m : MethodId} {args : Array Value} {below : List Frame} {meth : Method} {c : Code} {A : Nat → Prop} {D : va_G} {ad : Nat → Nat} {cA : Nat → ClassId} (C : Cx p s m args meth c cX3_faultOfPair RX3 8 A dsX D ad cA (EX A ad)) (hr : meth.sig.returnType = some .int) (z0 : Int32) (μ : Mem) : T p l e (rmD 1) s m args below meth c 8 A dsX D ad cA enI (fX3_faultOfPair_J42 z0 μ) 42 [] [.int z0] μ := by
  unfold fX3_faultOfPair_J42
  exact tt_iret rfl C hr dX3_faultOfPair_42

def fX3_faultOfPair (x1 : Int32) (x2 : Int32) (x3 : Int32) (x4 : Int32) (μ : Mem) : Option (Int32 × Mem) := lb (x3.toInt64 + ((2 : Int64) * x4.toInt64)) fun (y1 : Int64) => bi (fX3_faultAt x1 x2 y1 μ) fun v3 m2 => if v3 = (0 : Int32) then (bi (fX3_faultAt x1 x2 (y1 + (1 : Int64)) m2) fun v5 m4 => fX3_faultOfPair_J42 v5 m4) else (fX3_faultOfPair_J42 v3 m2)
set_option maxHeartbeats 4000000 in
set_option maxRecDepth 100000 in
theorem wX3_faultOfPair {p : Program} {l : Launch} {e : Env} {s : State} {m : MethodId} {args : Array Value} {below : List Frame} {meth : Method} {c : Code} {A : Nat → Prop} {D : va_G} {ad : Nat → Nat} {cA : Nat → ClassId} (C : Cx p s m args meth c cX3_faultOfPair RX3 8 A dsX D ad cA (EX A ad)) (hr : meth.sig.returnType = some .int) (x1 : Int32) (x2 : Int32) (x3 : Int32) (x4 : Int32) (μ : Mem) : T p l e (rmD 1) s m args below meth c 8 A dsX D ad cA enI (fX3_faultOfPair x1 x2 x3 x4 μ) 0 [(0, .ref (ad 36)), (1, .int x1), (2, .int x2), (3, .int x3), (4, .int x4)] [] μ := by
  unfold fX3_faultOfPair
  refine tt_iload_n C 3 dX3_faultOfPair_0 rfl rfl ?_
  refine tt_i2l C dX3_faultOfPair_1 ?_
  refine tt_ldc2 (v := (2 : Int64)) C kL_RX3_29 dX3_faultOfPair_2 ?_
  refine tt_iload C 4 dX3_faultOfPair_5 rfl ?_
  refine tt_i2l C dX3_faultOfPair_7 ?_
  refine tt_lmul C dX3_faultOfPair_8 ?_
  refine tt_ladd C dX3_faultOfPair_9 ?_
  refine tt_lbl (fun y1 => ?_)
  refine tt_lstore (L2 := [(5, .long y1), (0, .ref (ad 36)), (1, .int x1), (2, .int x2), (3, .int x3), (4, .int x4)]) C dX3_faultOfPair_10 (by decide) rfl ?_
  refine tt_aload_n C 1 dX3_faultOfPair_12 rfl rfl ?_
  refine tt_iload_n C 2 dX3_faultOfPair_13 rfl rfl ?_
  refine tt_iload_n C 3 dX3_faultOfPair_14 rfl rfl ?_
  refine tt_lload C 0 dX3_faultOfPair_15 rfl ?_
  refine tt_bi (fun v3 m2 h1 => ?_)
  refine tt_callV (st := []) (As := [.int x1, .int x2, .long y1]) C (kX3_faultAt C.2.2.2.2.2.2.2.1 h1) mi_X3_faultAt ml_RX3_31 mv_X3_faultAt ms_X3_faultAt (q := (RX3, TX3, 3)) dX_36 rfl rfl (by decide) (by decide) (Nat.le_of_ble_eq_true rfl) dX3_faultOfPair_17 ?_
  refine tt_istore (L2 := [(7, .int v3), (5, .long y1), (0, .ref (ad 36)), (1, .int x1), (2, .int x2), (3, .int x3), (4, .int x4)]) C dX3_faultOfPair_20 (by decide) rfl ?_
  refine tt_iload C 0 dX3_faultOfPair_22 rfl ?_
  refine tt_if (fun h2 => ?_) (fun h2 => ?_)
  · refine tt_if_eqT (tgt := 32) C h2 dX3_faultOfPair_24 (by decide) ?_
    refine tt_aload_n C 2 dX3_faultOfPair_32 rfl rfl ?_
    refine tt_iload_n C 3 dX3_faultOfPair_33 rfl rfl ?_
    refine tt_iload_n C 4 dX3_faultOfPair_34 rfl rfl ?_
    refine tt_lload C 1 dX3_faultOfPair_35 rfl ?_
    refine tt_lconst (v := (1 : Int64)) C dX3_faultOfPair_37 (by decide) ?_
    refine tt_ladd C dX3_faultOfPair_38 ?_
    refine tt_bi (fun v5 m4 h3 => ?_)
    refine tt_callV (st := []) (As := [.int x1, .int x2, .long (y1 + (1 : Int64))]) C (kX3_faultAt C.2.2.2.2.2.2.2.1 h3) mi_X3_faultAt ml_RX3_31 mv_X3_faultAt ms_X3_faultAt (q := (RX3, TX3, 3)) dX_36 rfl rfl (by decide) (by decide) (Nat.le_of_ble_eq_true rfl) dX3_faultOfPair_39 ?_
    refine tt_sub [] (L2 := []) rfl ?_
    exact wX3_faultOfPair_J42 C hr v5 m4
  · refine tt_if_eqF C 32 h2 dX3_faultOfPair_24 (by decide) ?_
    refine tt_iload C 0 dX3_faultOfPair_27 rfl ?_
    refine tt_goto (tgt := 42) C dX3_faultOfPair_29 (by decide) ?_
    refine tt_sub [] (L2 := []) rfl ?_
    exact wX3_faultOfPair_J42 C hr v3 m2
theorem kX3_faultOfPair {l : Launch} {A : Nat → Prop} {D : va_G} {ad : Nat → Nat} {cA : Nat → ClassId} (hPk : Pk A dsX ad cA (EX A ad)) {x1 : Int32} {x2 : Int32} {x3 : Int32} {x4 : Int32} {μ : Mem} {v : Int32} {ν : Mem} (h : fX3_faultOfPair x1 x2 x3 x4 μ = some (v, ν)) : Ct l A dsX D ad cA (EX A ad) yX3_faultOfPair cX3_faultOfPair 8 (some .int) 1 [.ref (ad 36), .int x1, .int x2, .int x3, .int x4] μ (enI (v, ν)) :=
  ct_of (by decide) (Nat.le_of_ble_eq_true rfl) hPk rfl (fun p e s m args below meth c C hr => wX3_faultOfPair C hr x1 x2 x3 x4 μ) h

