/-! BasketRoundModel.order(II)I -/
def fX8_order (x1 : Int32) (x2 : Int32) (μ : Mem) : Option (Int32 × Mem) := bi (fX8_isOrder x1 μ) fun v2 m1 => if v2 = (0 : Int32) then (some ((-1 : Int32), m1)) else (if x2 = (0 : Int32) then (gr x1 160 <| some ((m1 1 x1.toNatClampNeg), m1)) else (if x2 = (1 : Int32) then (gr x1 5 <| some ((m1 4 x1.toNatClampNeg), m1)) else (if x2 = (2 : Int32) then (gr ((5 : Int32) + x1) 160 <| some ((m1 1 ((5 : Int32) + x1).toNatClampNeg), m1)) else (if x2 = (3 : Int32) then (gr ((10 : Int32) + x1) 160 <| some ((m1 1 ((10 : Int32) + x1).toNatClampNeg), m1)) else (if x2 = (4 : Int32) then (gr ((15 : Int32) + x1) 160 <| some ((m1 1 ((15 : Int32) + x1).toNatClampNeg), m1)) else (if x2 = (5 : Int32) then (bi (fX8_placeOf (20 : Int32) x1 m1) fun v4 m3 => some (v4, m3)) else (if x2 = (6 : Int32) then (bi (fX8_placeOf (25 : Int32) x1 m1) fun v6 m5 => some (v6, m5)) else (some ((-1 : Int32), m1)))))))))
set_option maxHeartbeats 4000000 in
set_option maxRecDepth 100000 in
theorem wX8_order {p : Program} {l : Launch} {e : Env} {s : State} {m : MethodId} {args : Array Value} {below : List Frame} {meth : Method} {c : Code} {A : Nat → Prop} {D : va_G} {ad : Nat → Nat} {cA : Nat → ClassId} (C : Cx p s m args meth c cX8_order RX8 3 A dsM D ad cA EM) (hr : meth.sig.returnType = some .int) (x1 : Int32) (x2 : Int32) (μ : Mem) : T p l e (rmD 2) s m args below meth c 3 A dsM D ad cA enI (fX8_order x1 x2 μ) 0 [(0, .ref (ad 0)), (1, .int x1), (2, .int x2)] [] μ := by
  unfold fX8_order
  refine tt_aload_n C 0 dX8_order_0 rfl rfl ?_
  refine tt_iload_n C 1 dX8_order_1 rfl rfl ?_
  refine tt_bi (fun v2 m1 h1 => ?_)
  refine tt_callV (st := []) (As := [.int x1]) C (kX8_isOrder C.2.2.2.2.2.2.2.1 h1) mi_X8_isOrder ml_RX8_185 mv_X8_isOrder ms_X8_isOrder (q := (RX8, TX8, 45)) dM_0 rfl rfl (by decide) (by decide) (Nat.le_of_ble_eq_true rfl) dX8_order_2 ?_
  refine tt_if (fun h2 => ?_) (fun h2 => ?_)
  · refine tt_if_neF C 10 h2 dX8_order_5 (by decide) ?_
    refine tt_iconst (v := (-1 : Int32)) C dX8_order_8 (by decide) ?_
    exact tt_iret rfl C hr dX8_order_9
  · refine tt_if_neT (tgt := 10) C h2 dX8_order_5 (by decide) ?_
    refine tt_iload_n C 2 dX8_order_10 rfl rfl ?_
    refine tt_if (fun h3 => ?_) (fun h3 => ?_)
    · refine tt_tabIn (y1 := (0 : Int32)) (a := 0) (off := 41) (tgt := 52) C h3 (by decide) (by decide) (by decide) dX8_order_11 (by decide) (by decide) ?_
      refine tt_aload_n C 0 dX8_order_52 rfl rfl ?_
      refine tt_getR C (j := 0) (r0 := 1) dM_0 rfl fl_RX8_7 dX8_order_53 ?_
      refine tt_iload_n C 1 dX8_order_56 rfl rfl ?_
      refine tt_gr (fun h4 => ?_)
      refine tt_iald C dM_1 h4 dX8_order_57 ?_
      exact tt_iret rfl C hr dX8_order_58
    · skip
      refine tt_if (fun h5 => ?_) (fun h5 => ?_)
      · refine tt_tabIn (y1 := (1 : Int32)) (a := 1) (off := 48) (tgt := 59) C h5 (by decide) (by decide) (by decide) dX8_order_11 (by decide) (by decide) ?_
        refine tt_aload_n C 0 dX8_order_59 rfl rfl ?_
        refine tt_getR C (j := 4) (r0 := 4) dM_0 rfl fl_RX8_19 dX8_order_60 ?_
        refine tt_iload_n C 1 dX8_order_63 rfl rfl ?_
        refine tt_gr (fun h6 => ?_)
        refine tt_iald C dM_4 h6 dX8_order_64 ?_
        exact tt_iret rfl C hr dX8_order_65
      · skip
        refine tt_if (fun h7 => ?_) (fun h7 => ?_)
        · refine tt_tabIn (y1 := (2 : Int32)) (a := 2) (off := 55) (tgt := 66) C h7 (by decide) (by decide) (by decide) dX8_order_11 (by decide) (by decide) ?_
          refine tt_aload_n C 0 dX8_order_66 rfl rfl ?_
          refine tt_getR C (j := 0) (r0 := 1) dM_0 rfl fl_RX8_7 dX8_order_67 ?_
          refine tt_iconst (v := (5 : Int32)) C dX8_order_70 (by decide) ?_
          refine tt_iload_n C 1 dX8_order_71 rfl rfl ?_
          refine tt_iadd C dX8_order_72 ?_
          refine tt_gr (fun h8 => ?_)
          refine tt_iald C dM_1 h8 dX8_order_73 ?_
          exact tt_iret rfl C hr dX8_order_74
        · skip
          refine tt_if (fun h9 => ?_) (fun h9 => ?_)
          · refine tt_tabIn (y1 := (3 : Int32)) (a := 3) (off := 64) (tgt := 75) C h9 (by decide) (by decide) (by decide) dX8_order_11 (by decide) (by decide) ?_
            refine tt_aload_n C 0 dX8_order_75 rfl rfl ?_
            refine tt_getR C (j := 0) (r0 := 1) dM_0 rfl fl_RX8_7 dX8_order_76 ?_
            refine tt_bipush (v := (10 : Int32)) C dX8_order_79 (by decide) ?_
            refine tt_iload_n C 1 dX8_order_81 rfl rfl ?_
            refine tt_iadd C dX8_order_82 ?_
            refine tt_gr (fun h10 => ?_)
            refine tt_iald C dM_1 h10 dX8_order_83 ?_
            exact tt_iret rfl C hr dX8_order_84
          · skip
            refine tt_if (fun h11 => ?_) (fun h11 => ?_)
            · refine tt_tabIn (y1 := (4 : Int32)) (a := 4) (off := 74) (tgt := 85) C h11 (by decide) (by decide) (by decide) dX8_order_11 (by decide) (by decide) ?_
              refine tt_aload_n C 0 dX8_order_85 rfl rfl ?_
              refine tt_getR C (j := 0) (r0 := 1) dM_0 rfl fl_RX8_7 dX8_order_86 ?_
              refine tt_bipush (v := (15 : Int32)) C dX8_order_89 (by decide) ?_
              refine tt_iload_n C 1 dX8_order_91 rfl rfl ?_
              refine tt_iadd C dX8_order_92 ?_
              refine tt_gr (fun h12 => ?_)
              refine tt_iald C dM_1 h12 dX8_order_93 ?_
              exact tt_iret rfl C hr dX8_order_94
            · skip
              refine tt_if (fun h13 => ?_) (fun h13 => ?_)
              · refine tt_tabIn (y1 := (5 : Int32)) (a := 5) (off := 84) (tgt := 95) C h13 (by decide) (by decide) (by decide) dX8_order_11 (by decide) (by decide) ?_
                refine tt_aload_n C 0 dX8_order_95 rfl rfl ?_
                refine tt_bipush (v := (20 : Int32)) C dX8_order_96 (by decide) ?_
                refine tt_iload_n C 1 dX8_order_98 rfl rfl ?_
                refine tt_bi (fun v4 m3 h14 => ?_)
                refine tt_callV (st := []) (As := [.int (20 : Int32), .int x1]) C (kX8_placeOf C.2.2.2.2.2.2.2.1 h14) mi_X8_placeOf ml_RX8_189 mv_X8_placeOf ms_X8_placeOf (q := (RX8, TX8, 45)) dM_0 rfl rfl (by decide) (by decide) (Nat.le_of_ble_eq_true rfl) dX8_order_99 ?_
                exact tt_iret rfl C hr dX8_order_102
              · skip
                refine tt_if (fun h15 => ?_) (fun h15 => ?_)
                · refine tt_tabIn (y1 := (6 : Int32)) (a := 6) (off := 92) (tgt := 103) C h15 (by decide) (by decide) (by decide) dX8_order_11 (by decide) (by decide) ?_
                  refine tt_aload_n C 0 dX8_order_103 rfl rfl ?_
                  refine tt_bipush (v := (25 : Int32)) C dX8_order_104 (by decide) ?_
                  refine tt_iload_n C 1 dX8_order_106 rfl rfl ?_
                  refine tt_bi (fun v6 m5 h16 => ?_)
                  refine tt_callV (st := []) (As := [.int (25 : Int32), .int x1]) C (kX8_placeOf C.2.2.2.2.2.2.2.1 h16) mi_X8_placeOf ml_RX8_189 mv_X8_placeOf ms_X8_placeOf (q := (RX8, TX8, 45)) dM_0 rfl rfl (by decide) (by decide) (Nat.le_of_ble_eq_true rfl) dX8_order_107 ?_
                  exact tt_iret rfl C hr dX8_order_110
                · skip
                  have nh3 := lv_neT h3 (show (0 : Int32).toInt = 0 by decide)
                  have nh5 := lv_neT h5 (show (1 : Int32).toInt = 1 by decide)
                  have nh7 := lv_neT h7 (show (2 : Int32).toInt = 2 by decide)
                  have nh9 := lv_neT h9 (show (3 : Int32).toInt = 3 by decide)
                  have nh11 := lv_neT h11 (show (4 : Int32).toInt = 4 by decide)
                  have nh13 := lv_neT h13 (show (5 : Int32).toInt = 5 by decide)
                  have nh15 := lv_neT h15 (show (6 : Int32).toInt = 6 by decide)
                  refine tt_tabOut (tgt := 111) C (by omega) dX8_order_11 (by decide) ?_
                  refine tt_iconst (v := (-1 : Int32)) C dX8_order_111 (by decide) ?_
                  exact tt_iret rfl C hr dX8_order_112
theorem kX8_order {l : Launch} {A : Nat → Prop} {D : va_G} {ad : Nat → Nat} {cA : Nat → ClassId} (hPk : Pk A dsM ad cA EM) {x1 : Int32} {x2 : Int32} {μ : Mem} {v : Int32} {ν : Mem} (h : fX8_order x1 x2 μ = some (v, ν)) : Ct l A dsM D ad cA EM yX8_order cX8_order 3 (some .int) 2 [.ref (ad 0), .int x1, .int x2] μ (enI (v, ν)) :=
  ct_of (by decide) (Nat.le_of_ble_eq_true rfl) hPk rfl (fun p e s m args below meth c C hr => wX8_order C hr x1 x2 μ) h

/-! BasketRoundModel.pack(II)I -/
def fX8_pack (x1 : Int32) (x2 : Int32) (μ : Mem) : Option (Int32 × Mem) := bi (fX8_changes (20 : Int32) x1 x2 μ) fun v2 m1 => some (v2, m1)
set_option maxHeartbeats 4000000 in
set_option maxRecDepth 100000 in
theorem wX8_pack {p : Program} {l : Launch} {e : Env} {s : State} {m : MethodId} {args : Array Value} {below : List Frame} {meth : Method} {c : Code} {A : Nat → Prop} {D : va_G} {ad : Nat → Nat} {cA : Nat → ClassId} (C : Cx p s m args meth c cX8_pack RX8 3 A dsM D ad cA EM) (hr : meth.sig.returnType = some .int) (x1 : Int32) (x2 : Int32) (μ : Mem) : T p l e (rmD 3) s m args below meth c 3 A dsM D ad cA enI (fX8_pack x1 x2 μ) 0 [(0, .ref (ad 0)), (1, .int x1), (2, .int x2)] [] μ := by
  unfold fX8_pack
  refine tt_aload_n C 0 dX8_pack_0 rfl rfl ?_
  refine tt_bipush (v := (20 : Int32)) C dX8_pack_1 (by decide) ?_
  refine tt_iload_n C 1 dX8_pack_3 rfl rfl ?_
  refine tt_iload_n C 2 dX8_pack_4 rfl rfl ?_
  refine tt_bi (fun v2 m1 h1 => ?_)
  refine tt_callV (st := []) (As := [.int (20 : Int32), .int x1, .int x2]) C (kX8_changes C.2.2.2.2.2.2.2.1 h1) mi_X8_changes ml_RX8_198 mv_X8_changes ms_X8_changes (q := (RX8, TX8, 45)) dM_0 rfl rfl (by decide) (by decide) (Nat.le_of_ble_eq_true rfl) dX8_pack_5 ?_
  exact tt_iret rfl C hr dX8_pack_8
theorem kX8_pack {l : Launch} {A : Nat → Prop} {D : va_G} {ad : Nat → Nat} {cA : Nat → ClassId} (hPk : Pk A dsM ad cA EM) {x1 : Int32} {x2 : Int32} {μ : Mem} {v : Int32} {ν : Mem} (h : fX8_pack x1 x2 μ = some (v, ν)) : Ct l A dsM D ad cA EM yX8_pack cX8_pack 3 (some .int) 3 [.ref (ad 0), .int x1, .int x2] μ (enI (v, ν)) :=
  ct_of (by decide) (Nat.le_of_ble_eq_true rfl) hPk rfl (fun p e s m args below meth c C hr => wX8_pack C hr x1 x2 μ) h

/-! BasketRoundModel.packing(I)I -/
def fX8_packing_J57 (z0 : Int32) (μ : Mem) : Option (Int32 × Mem) := some (z0, μ)
set_option maxHeartbeats 4000000 in
set_option maxRecDepth 100000 in
theorem wX8_packing_J57 {p : Program} {l : Launch} {e : Env} {s : State} {m : MethodId} {args : Array Value} {below : List Frame} {meth : Method} {c : Code} {A : Nat → Prop} {D : va_G} {ad : Nat → Nat} {cA : Nat → ClassId} (C : Cx p s m args meth c cX8_packing RX8 2 A dsM D ad cA EM) (hr : meth.sig.returnType = some .int) (z0 : Int32) (μ : Mem) : T p l e (rmD 6) s m args below meth c 2 A dsM D ad cA enI (fX8_packing_J57 z0 μ) 57 [] [.int z0] μ := by
  unfold fX8_packing_J57
  exact tt_iret rfl C hr dX8_packing_57

def fX8_packing (x1 : Int32) (μ : Mem) : Option (Int32 × Mem) := bi (fX8_in x1.toInt64 (0 : Int64) (2 : Int64) μ) fun v2 m1 => if v2 = (0 : Int32) then (some ((-1 : Int32), m1)) else (lb (wr m1 0 34 (-1 : Int32)) fun m3 => lb (wr m3 0 35 (1000000 : Int32)) fun m4 => bv (fX8_allPacks m4) fun m5 => if x1 = (0 : Int32) then (fX8_packing_J57 (m5 0 34) m5) else (if x1 = (1 : Int32) then (fX8_packing_J57 (m5 0 35) m5) else (fX8_packing_J57 (m5 0 37) m5)))
set_option maxHeartbeats 4000000 in
set_option maxRecDepth 100000 in
theorem wX8_packing {p : Program} {l : Launch} {e : Env} {s : State} {m : MethodId} {args : Array Value} {below : List Frame} {meth : Method} {c : Code} {A : Nat → Prop} {D : va_G} {ad : Nat → Nat} {cA : Nat → ClassId} (C : Cx p s m args meth c cX8_packing RX8 2 A dsM D ad cA EM) (hr : meth.sig.returnType = some .int) (x1 : Int32) (μ : Mem) : T p l e (rmD 6) s m args below meth c 2 A dsM D ad cA enI (fX8_packing x1 μ) 0 [(0, .ref (ad 0)), (1, .int x1)] [] μ := by
  unfold fX8_packing
  refine tt_iload_n C 1 dX8_packing_0 rfl rfl ?_
  refine tt_i2l C dX8_packing_1 ?_
  refine tt_lconst (v := (0 : Int64)) C dX8_packing_2 (by decide) ?_
  refine tt_ldc2 (v := (2 : Int64)) C kL_RX8_251 dX8_packing_3 ?_
  refine tt_bi (fun v2 m1 h1 => ?_)
  refine tt_callS (st := []) (As := [.long x1.toInt64, .long (0 : Int64), .long (2 : Int64)]) C (kX8_in C.2.2.2.2.2.2.2.1 h1) mi_X8_in ml_RX8_70 mt_X8_in rfl (by decide) (by decide) (Nat.le_of_ble_eq_true rfl) dX8_packing_6 ?_
  refine tt_if (fun h2 => ?_) (fun h2 => ?_)
  · refine tt_if_neF C 14 h2 dX8_packing_9 (by decide) ?_
    refine tt_iconst (v := (-1 : Int32)) C dX8_packing_12 (by decide) ?_
    exact tt_iret rfl C hr dX8_packing_13
  · refine tt_if_neT (tgt := 14) C h2 dX8_packing_9 (by decide) ?_
    refine tt_aload_n C 0 dX8_packing_14 rfl rfl ?_
    refine tt_iconst (v := (-1 : Int32)) C dX8_packing_15 (by decide) ?_
    refine tt_putI C (j := 34) dM_0 rfl fl_RX8_253 fw_8_34 dX8_packing_16 ?_
    refine tt_lbm (fun m3 => ?_)
    refine tt_aload_n C 0 dX8_packing_19 rfl rfl ?_
    refine tt_ldcw (v := (1000000 : Int32)) C kC_RX8_277 dX8_packing_20 ?_
    refine tt_putI C (j := 35) dM_0 rfl fl_RX8_256 fw_8_35 dX8_packing_23 ?_
    refine tt_lbm (fun m4 => ?_)
    refine tt_aload_n C 0 dX8_packing_26 rfl rfl ?_
    refine tt_bv (fun m5 h3 => ?_)
    refine tt_callV (st := []) (As := []) C (kX8_allPacks C.2.2.2.2.2.2.2.1 h3) mi_X8_allPacks ml_RX8_278 mv_X8_allPacks ms_X8_allPacks (q := (RX8, TX8, 45)) dM_0 rfl rfl (by decide) (by decide) (Nat.le_of_ble_eq_true rfl) dX8_packing_27 ?_
    refine tt_iload_n C 1 dX8_packing_30 rfl rfl ?_
    refine tt_if (fun h4 => ?_) (fun h4 => ?_)
    · refine tt_if_neF C 41 h4 dX8_packing_31 (by decide) ?_
      refine tt_aload_n C 0 dX8_packing_34 rfl rfl ?_
      refine tt_getI C (j := 34) dM_0 rfl fl_RX8_253 dX8_packing_35 ?_
      refine tt_goto (tgt := 57) C dX8_packing_38 (by decide) ?_
      refine tt_sub [] (L2 := []) rfl ?_
      exact wX8_packing_J57 C hr (m5 0 34) m5
    · refine tt_if_neT (tgt := 41) C h4 dX8_packing_31 (by decide) ?_
      refine tt_iload_n C 1 dX8_packing_41 rfl rfl ?_
      refine tt_iconst (v := (1 : Int32)) C dX8_packing_42 (by decide) ?_
      refine tt_if (fun h5 => ?_) (fun h5 => ?_)
      · refine tt_icmp_neF C 53 h5 dX8_packing_43 (by decide) ?_
        refine tt_aload_n C 0 dX8_packing_46 rfl rfl ?_
        refine tt_getI C (j := 35) dM_0 rfl fl_RX8_256 dX8_packing_47 ?_
        refine tt_goto (tgt := 57) C dX8_packing_50 (by decide) ?_
        refine tt_sub [] (L2 := []) rfl ?_
        exact wX8_packing_J57 C hr (m5 0 35) m5
      · refine tt_icmp_neT (tgt := 53) C h5 dX8_packing_43 (by decide) ?_
        refine tt_aload_n C 0 dX8_packing_53 rfl rfl ?_
        refine tt_getI C (j := 37) dM_0 rfl fl_RX8_262 dX8_packing_54 ?_
        refine tt_sub [] (L2 := []) rfl ?_
        exact wX8_packing_J57 C hr (m5 0 37) m5
theorem kX8_packing {l : Launch} {A : Nat → Prop} {D : va_G} {ad : Nat → Nat} {cA : Nat → ClassId} (hPk : Pk A dsM ad cA EM) {x1 : Int32} {μ : Mem} {v : Int32} {ν : Mem} (h : fX8_packing x1 μ = some (v, ν)) : Ct l A dsM D ad cA EM yX8_packing cX8_packing 2 (some .int) 6 [.ref (ad 0), .int x1] μ (enI (v, ν)) :=
  ct_of (by decide) (Nat.le_of_ble_eq_true rfl) hPk rfl (fun p e s m args below meth c C hr => wX8_packing C hr x1 μ) h

/-! BasketRoundModel.pennies()I -/
def fX8_pennies (μ : Mem) : Option (Int32 × Mem) := bi (fX8_wholeRound μ) fun v2 m1 => bi (fX8_every m1) fun v4 m3 => bi (fX8_penniesOf v4 m3) fun v6 m5 => some (v6, m5)
set_option maxHeartbeats 4000000 in
set_option maxRecDepth 100000 in
theorem wX8_pennies {p : Program} {l : Launch} {e : Env} {s : State} {m : MethodId} {args : Array Value} {below : List Frame} {meth : Method} {c : Code} {A : Nat → Prop} {D : va_G} {ad : Nat → Nat} {cA : Nat → ClassId} (C : Cx p s m args meth c cX8_pennies RX8 1 A dsM D ad cA EM) (hr : meth.sig.returnType = some .int) (μ : Mem) : T p l e (rmD 4) s m args below meth c 1 A dsM D ad cA enI (fX8_pennies μ) 0 [(0, .ref (ad 0))] [] μ := by
  unfold fX8_pennies
  refine tt_aload_n C 0 dX8_pennies_0 rfl rfl ?_
  refine tt_bi (fun v2 m1 h1 => ?_)
  refine tt_callV (st := []) (As := []) C (kX8_wholeRound C.2.2.2.2.2.2.2.1 h1) mi_X8_wholeRound ml_RX8_245 mv_X8_wholeRound ms_X8_wholeRound (q := (RX8, TX8, 45)) dM_0 rfl rfl (by decide) (by decide) (Nat.le_of_ble_eq_true rfl) dX8_pennies_1 ?_
  refine tt_pop C dX8_pennies_4 rfl ?_
  refine tt_aload_n C 0 dX8_pennies_5 rfl rfl ?_
  refine tt_aload_n C 0 dX8_pennies_6 rfl rfl ?_
  refine tt_bi (fun v4 m3 h2 => ?_)
  refine tt_callV (st := [.ref (ad 0)]) (As := []) C (kX8_every C.2.2.2.2.2.2.2.1 h2) mi_X8_every ml_RX8_239 mv_X8_every ms_X8_every (q := (RX8, TX8, 45)) dM_0 rfl rfl (by decide) (by decide) (Nat.le_of_ble_eq_true rfl) dX8_pennies_7 ?_
  refine tt_bi (fun v6 m5 h3 => ?_)
  refine tt_callV (st := []) (As := [.int v4]) C (kX8_penniesOf C.2.2.2.2.2.2.2.1 h3) mi_X8_penniesOf ml_RX8_248 mv_X8_penniesOf ms_X8_penniesOf (q := (RX8, TX8, 45)) dM_0 rfl rfl (by decide) (by decide) (Nat.le_of_ble_eq_true rfl) dX8_pennies_10 ?_
  exact tt_iret rfl C hr dX8_pennies_13
theorem kX8_pennies {l : Launch} {A : Nat → Prop} {D : va_G} {ad : Nat → Nat} {cA : Nat → ClassId} (hPk : Pk A dsM ad cA EM) {μ : Mem} {v : Int32} {ν : Mem} (h : fX8_pennies μ = some (v, ν)) : Ct l A dsM D ad cA EM yX8_pennies cX8_pennies 1 (some .int) 4 [.ref (ad 0)] μ (enI (v, ν)) :=
  ct_of (by decide) (Nat.le_of_ble_eq_true rfl) hPk rfl (fun p e s m args below meth c C hr => wX8_pennies C hr μ) h

/-! BasketRoundModel.read(IIII)I -/
def fX8_read_J198 (x5 : Int32) (x6 : Int32) (μ : Mem) : Option (Int32 × Mem) := lb (wr μ 0 44 x5) fun m1 => some (x6, m1)
set_option maxHeartbeats 4000000 in
set_option maxRecDepth 100000 in
theorem wX8_read_J198 {p : Program} {l : Launch} {e : Env} {s : State} {m : MethodId} {args : Array Value} {below : List Frame} {meth : Method} {c : Code} {A : Nat → Prop} {D : va_G} {ad : Nat → Nat} {cA : Nat → ClassId} (C : Cx p s m args meth c cX8_read RX8 9 A dsM D ad cA EM) (hr : meth.sig.returnType = some .int) (x5 : Int32) (x6 : Int32) (μ : Mem) : T p l e (rmD 3) s m args below meth c 9 A dsM D ad cA enI (fX8_read_J198 x5 x6 μ) 198 [(0, .ref (ad 0)), (5, .int x5), (6, .int x6)] [] μ := by
  unfold fX8_read_J198
  refine tt_aload_n C 0 dX8_read_198 rfl rfl ?_
  refine tt_iload C 1 dX8_read_199 rfl ?_
  refine tt_putI C (j := 44) dM_0 rfl fl_RX8_306 fw_8_44 dX8_read_201 ?_
  refine tt_lbm (fun m1 => ?_)
  refine tt_iload C 2 dX8_read_204 rfl ?_
  exact tt_iret rfl C hr dX8_read_206

def fX8_read_J192 (k55 : Int32 → Int32 → Int32 → Int32 → Int32 → Int32 → Int32 → Mem → Option (Int32 × Mem)) (x1 : Int32) (x2 : Int32) (x3 : Int32) (x4 : Int32) (x5 : Int32) (x6 : Int32) (x7 : Int32) (μ : Mem) : Option (Int32 × Mem) := lb (x7 + (1 : Int32)) fun (y1 : Int32) => k55 x1 x2 x3 x4 x5 x6 y1 μ
set_option maxHeartbeats 4000000 in
set_option maxRecDepth 100000 in
theorem wX8_read_J192 {p : Program} {l : Launch} {e : Env} {s : State} {m : MethodId} {args : Array Value} {below : List Frame} {meth : Method} {c : Code} {A : Nat → Prop} {D : va_G} {ad : Nat → Nat} {cA : Nat → ClassId} (C : Cx p s m args meth c cX8_read RX8 9 A dsM D ad cA EM) (hr : meth.sig.returnType = some .int) (k55 : Int32 → Int32 → Int32 → Int32 → Int32 → Int32 → Int32 → Mem → Option (Int32 × Mem)) (hk55 : ∀ (x1 : Int32) (x2 : Int32) (x3 : Int32) (x4 : Int32) (x5 : Int32) (x6 : Int32) (x7 : Int32) (μ : Mem), T p l e (rmD 3) s m args below meth c 9 A dsM D ad cA enI (k55 x1 x2 x3 x4 x5 x6 x7 μ) 55 [(0, .ref (ad 0)), (1, .int x1), (2, .int x2), (3, .int x3), (4, .int x4), (5, .int x5), (6, .int x6), (7, .int x7)] [] μ) (x1 : Int32) (x2 : Int32) (x3 : Int32) (x4 : Int32) (x5 : Int32) (x6 : Int32) (x7 : Int32) (μ : Mem) : T p l e (rmD 3) s m args below meth c 9 A dsM D ad cA enI (fX8_read_J192 k55 x1 x2 x3 x4 x5 x6 x7 μ) 192 [(0, .ref (ad 0)), (1, .int x1), (2, .int x2), (3, .int x3), (4, .int x4), (5, .int x5), (6, .int x6), (7, .int x7)] [] μ := by
  unfold fX8_read_J192
  refine tt_iincB (d := (1 : Int32)) C 7 (fun y1 => [(7, .int y1), (0, .ref (ad 0)), (1, .int x1), (2, .int x2), (3, .int x3), (4, .int x4), (5, .int x5), (6, .int x6)]) dX8_read_192 rfl (by decide) (by decide) (fun _ => rfl) (fun y1 => ?_)
  refine tt_goto (tgt := 55) C dX8_read_195 (by decide) ?_
  refine tt_sub [1, 2, 3, 4, 5, 6, 7, 0] (L2 := [(0, .ref (ad 0)), (1, .int x1), (2, .int x2), (3, .int x3), (4, .int x4), (5, .int x5), (6, .int x6), (7, .int y1)]) rfl ?_
  exact hk55 x1 x2 x3 x4 x5 x6 y1 μ

def fX8_read_J125 (k55 : Int32 → Int32 → Int32 → Int32 → Int32 → Int32 → Int32 → Mem → Option (Int32 × Mem)) (x1 : Int32) (x2 : Int32) (x3 : Int32) (x4 : Int32) (x6 : Int32) (x7 : Int32) (z0 : Int32) (μ : Mem) : Option (Int32 × Mem) := if z0 = (0 : Int32) then (gd (¬ (2 : Int32) = (0 : Int32)) <| if (irm x7 (2 : Int32)) = (1 : Int32) then (lb ((((40 : Int32) * x1) + x3) + x7) fun (y1 : Int32) => gr (y1 - (1 : Int32)) 160 <| gr y1 160 <| bi (fX8_changes (25 : Int32) (μ 19 (y1 - (1 : Int32)).toNatClampNeg) (μ 19 y1.toNatClampNeg) μ) fun v3 m2 => if (0 : Int32) ≤ v3 then (lb (x6 + (1 : Int32)) fun (y4 : Int32) => fX8_read_J192 k55 x1 x2 x3 x4 z0 y4 x7 m2) else (bv (fX8_copies (96 : Int32) (0 : Int32) m2) fun m5 => some (((-20 : Int32) - x6), m5))) else (fX8_read_J192 k55 x1 x2 x3 x4 z0 x6 x7 μ)) else (fX8_read_J192 k55 x1 x2 x3 x4 z0 x6 x7 μ)
set_option maxHeartbeats 4000000 in
set_option maxRecDepth 100000 in
theorem wX8_read_J125 {p : Program} {l : Launch} {e : Env} {s : State} {m : MethodId} {args : Array Value} {below : List Frame} {meth : Method} {c : Code} {A : Nat → Prop} {D : va_G} {ad : Nat → Nat} {cA : Nat → ClassId} (C : Cx p s m args meth c cX8_read RX8 9 A dsM D ad cA EM) (hr : meth.sig.returnType = some .int) (k55 : Int32 → Int32 → Int32 → Int32 → Int32 → Int32 → Int32 → Mem → Option (Int32 × Mem)) (hk55 : ∀ (x1 : Int32) (x2 : Int32) (x3 : Int32) (x4 : Int32) (x5 : Int32) (x6 : Int32) (x7 : Int32) (μ : Mem), T p l e (rmD 3) s m args below meth c 9 A dsM D ad cA enI (k55 x1 x2 x3 x4 x5 x6 x7 μ) 55 [(0, .ref (ad 0)), (1, .int x1), (2, .int x2), (3, .int x3), (4, .int x4), (5, .int x5), (6, .int x6), (7, .int x7)] [] μ) (x1 : Int32) (x2 : Int32) (x3 : Int32) (x4 : Int32) (x6 : Int32) (x7 : Int32) (z0 : Int32) (μ : Mem) : T p l e (rmD 3) s m args below meth c 9 A dsM D ad cA enI (fX8_read_J125 k55 x1 x2 x3 x4 x6 x7 z0 μ) 125 [(0, .ref (ad 0)), (1, .int x1), (2, .int x2), (3, .int x3), (4, .int x4), (6, .int x6), (7, .int x7)] [.int z0] μ := by
  unfold fX8_read_J125
  refine tt_istore (L2 := [(5, .int z0), (0, .ref (ad 0)), (1, .int x1), (2, .int x2), (3, .int x3), (4, .int x4), (6, .int x6), (7, .int x7)]) C dX8_read_125 (by decide) rfl ?_
  refine tt_iload C 0 dX8_read_127 rfl ?_
  refine tt_if (fun h1 => ?_) (fun h1 => ?_)
  · refine tt_if_neF C 192 h1 dX8_read_129 (by decide) ?_
    refine tt_iload C 7 dX8_read_132 rfl ?_
    refine tt_iconst (v := (2 : Int32)) C dX8_read_134 (by decide) ?_
    refine tt_gd (fun h2 => ?_)
    refine tt_irem C h2 dX8_read_135 ?_
    refine tt_iconst (v := (1 : Int32)) C dX8_read_136 (by decide) ?_
    refine tt_if (fun h3 => ?_) (fun h3 => ?_)
    · refine tt_icmp_neF C 192 h3 dX8_read_137 (by decide) ?_
      refine tt_bipush (v := (40 : Int32)) C dX8_read_140 (by decide) ?_
      refine tt_iload_n C 2 dX8_read_142 rfl rfl ?_
      refine tt_imul C dX8_read_143 ?_
      refine tt_iload_n C 4 dX8_read_144 rfl rfl ?_
      refine tt_iadd C dX8_read_145 ?_
      refine tt_iload C 7 dX8_read_146 rfl ?_
      refine tt_iadd C dX8_read_148 ?_
      refine tt_lbi (fun y1 => ?_)
      refine tt_istore (L2 := [(8, .int y1), (5, .int z0), (0, .ref (ad 0)), (1, .int x1), (2, .int x2), (3, .int x3), (4, .int x4), (6, .int x6), (7, .int x7)]) C dX8_read_149 (by decide) rfl ?_
      refine tt_aload_n C 2 dX8_read_151 rfl rfl ?_
      refine tt_bipush (v := (25 : Int32)) C dX8_read_152 (by decide) ?_
      refine tt_aload_n C 2 dX8_read_154 rfl rfl ?_
      refine tt_getR C (j := 43) (r0 := 19) dM_0 rfl fl_RX8_65 dX8_read_155 ?_
      refine tt_iload C 0 dX8_read_158 rfl ?_
      refine tt_iconst (v := (1 : Int32)) C dX8_read_160 (by decide) ?_
      refine tt_isub C dX8_read_161 ?_
      refine tt_gr (fun h4 => ?_)
      refine tt_iald C dM_19 h4 dX8_read_162 ?_
      refine tt_aload_n C 2 dX8_read_163 rfl rfl ?_
      refine tt_getR C (j := 43) (r0 := 19) dM_0 rfl fl_RX8_65 dX8_read_164 ?_
      refine tt_iload C 0 dX8_read_167 rfl ?_
      refine tt_gr (fun h5 => ?_)
      refine tt_iald C dM_19 h5 dX8_read_169 ?_
      refine tt_bi (fun v3 m2 h6 => ?_)
      refine tt_callV (st := []) (As := [.int (25 : Int32), .int (μ 19 (y1 - (1 : Int32)).toNatClampNeg), .int (μ 19 y1.toNatClampNeg)]) C (kX8_changes C.2.2.2.2.2.2.2.1 h6) mi_X8_changes ml_RX8_198 mv_X8_changes ms_X8_changes (q := (RX8, TX8, 45)) dM_0 rfl rfl (by decide) (by decide) (Nat.le_of_ble_eq_true rfl) dX8_read_170 ?_
      refine tt_if (fun h7 => ?_) (fun h7 => ?_)
      · refine tt_if_geT (tgt := 189) C h7 dX8_read_173 (by decide) ?_
        refine tt_iincB (d := (1 : Int32)) C 7 (fun y4 => [(6, .int y4), (8, .int y1), (5, .int z0), (0, .ref (ad 0)), (1, .int x1), (2, .int x2), (3, .int x3), (4, .int x4), (7, .int x7)]) dX8_read_189 rfl (by decide) (by decide) (fun _ => rfl) (fun y4 => ?_)
        refine tt_sub [3, 4, 5, 6, 7, 2, 0, 8] (L2 := [(0, .ref (ad 0)), (1, .int x1), (2, .int x2), (3, .int x3), (4, .int x4), (5, .int z0), (6, .int y4), (7, .int x7)]) rfl ?_
        exact wX8_read_J192 C hr k55 hk55 x1 x2 x3 x4 z0 y4 x7 m2
      · refine tt_if_geF C 189 h7 dX8_read_173 (by decide) ?_
        refine tt_aload_n C 2 dX8_read_176 rfl rfl ?_
        refine tt_bipush (v := (96 : Int32)) C dX8_read_177 (by decide) ?_
        refine tt_iconst (v := (0 : Int32)) C dX8_read_179 (by decide) ?_
        refine tt_bv (fun m5 h8 => ?_)
        refine tt_callV (st := []) (As := [.int (96 : Int32), .int (0 : Int32)]) C (kX8_copies C.2.2.2.2.2.2.2.1 h8) mi_X8_copies ml_RX8_300 mv_X8_copies ms_X8_copies (q := (RX8, TX8, 45)) dM_0 rfl rfl (by decide) (by decide) (Nat.le_of_ble_eq_true rfl) dX8_read_180 ?_
        refine tt_bipush (v := (-20 : Int32)) C dX8_read_183 (by decide) ?_
        refine tt_iload C 7 dX8_read_185 rfl ?_
        refine tt_isub C dX8_read_187 ?_
        exact tt_iret rfl C hr dX8_read_188
    · refine tt_icmp_neT (tgt := 192) C h3 dX8_read_137 (by decide) ?_
      refine tt_sub [1, 2, 3, 4, 5, 0, 6, 7] (L2 := [(0, .ref (ad 0)), (1, .int x1), (2, .int x2), (3, .int x3), (4, .int x4), (5, .int z0), (6, .int x6), (7, .int x7)]) rfl ?_
      exact wX8_read_J192 C hr k55 hk55 x1 x2 x3 x4 z0 x6 x7 μ
  · refine tt_if_neT (tgt := 192) C h1 dX8_read_129 (by decide) ?_
    refine tt_sub [1, 2, 3, 4, 5, 0, 6, 7] (L2 := [(0, .ref (ad 0)), (1, .int x1), (2, .int x2), (3, .int x3), (4, .int x4), (5, .int z0), (6, .int x6), (7, .int x7)]) rfl ?_
    exact wX8_read_J192 C hr k55 hk55 x1 x2 x3 x4 z0 x6 x7 μ

def fX8_read_L55 : Nat → Int32 → Int32 → Int32 → Int32 → Int32 → Int32 → Int32 → Mem → Option (Int32 × Mem)
  | 0, _, _, _, _, _, _, _, _ => none
  | fu + 1, x1, x2, x3, x4, x5, x6, x7, μ => if ((2 : Int32) * x4) ≤ x7 then (fX8_read_J198 x5 x6 μ) else (if x5 = (0 : Int32) then (gr x1 4 <| if (μ 17 x1.toNatClampNeg) = (-4 : Int32) then (fX8_read_J125 (fun x1 x2 x3 x4 x5 x6 x7 μ => fX8_read_L55 fu x1 x2 x3 x4 x5 x6 x7 μ) x1 x2 x3 x4 x6 x7 (1 : Int32) μ) else (gr x1 4 <| if (μ 17 x1.toNatClampNeg) = x2 then (gr x1 4 <| bi (fX8_in (x3.toInt64 + x7.toInt64) (0 : Int64) (((μ 18 x1.toNatClampNeg) - (1 : Int32)).toInt64) μ) fun v2 m1 => if v2 = (0 : Int32) then (fX8_read_J125 (fun x1 x2 x3 x4 x5 x6 x7 μ => fX8_read_L55 fu x1 x2 x3 x4 x5 x6 x7 μ) x1 x2 x3 x4 x6 x7 (2 : Int32) m1) else (fX8_read_J125 (fun x1 x2 x3 x4 x5 x6 x7 μ => fX8_read_L55 fu x1 x2 x3 x4 x5 x6 x7 μ) x1 x2 x3 x4 x6 x7 (0 : Int32) m1)) else (fX8_read_J125 (fun x1 x2 x3 x4 x5 x6 x7 μ => fX8_read_L55 fu x1 x2 x3 x4 x5 x6 x7 μ) x1 x2 x3 x4 x6 x7 (3 : Int32) μ))) else (fX8_read_J198 x5 x6 μ))
set_option maxHeartbeats 4000000 in
set_option maxRecDepth 100000 in
theorem wX8_read_L55 {p : Program} {l : Launch} {e : Env} {s : State} {m : MethodId} {args : Array Value} {below : List Frame} {meth : Method} {c : Code} {A : Nat → Prop} {D : va_G} {ad : Nat → Nat} {cA : Nat → ClassId} (C : Cx p s m args meth c cX8_read RX8 9 A dsM D ad cA EM) (hr : meth.sig.returnType = some .int) : ∀ (fu : Nat) (x1 : Int32) (x2 : Int32) (x3 : Int32) (x4 : Int32) (x5 : Int32) (x6 : Int32) (x7 : Int32) (μ : Mem), T p l e (rmD 3) s m args below meth c 9 A dsM D ad cA enI (fX8_read_L55 fu x1 x2 x3 x4 x5 x6 x7 μ) 55 [(0, .ref (ad 0)), (1, .int x1), (2, .int x2), (3, .int x3), (4, .int x4), (5, .int x5), (6, .int x6), (7, .int x7)] [] μ
  | 0, _, _, _, _, _, _, _, _ => tt_none
  | fu + 1, x1, x2, x3, x4, x5, x6, x7, μ => by
    have ih := fun (x1 : Int32) (x2 : Int32) (x3 : Int32) (x4 : Int32) (x5 : Int32) (x6 : Int32) (x7 : Int32) (μ : Mem) => wX8_read_L55 (l := l) (e := e) (below := below) C hr fu x1 x2 x3 x4 x5 x6 x7 μ
    show T p l e (rmD 3) s m args below meth c 9 A dsM D ad cA enI (if ((2 : Int32) * x4) ≤ x7 then (fX8_read_J198 x5 x6 μ) else (if x5 = (0 : Int32) then (gr x1 4 <| if (μ 17 x1.toNatClampNeg) = (-4 : Int32) then (fX8_read_J125 (fun x1 x2 x3 x4 x5 x6 x7 μ => fX8_read_L55 fu x1 x2 x3 x4 x5 x6 x7 μ) x1 x2 x3 x4 x6 x7 (1 : Int32) μ) else (gr x1 4 <| if (μ 17 x1.toNatClampNeg) = x2 then (gr x1 4 <| bi (fX8_in (x3.toInt64 + x7.toInt64) (0 : Int64) (((μ 18 x1.toNatClampNeg) - (1 : Int32)).toInt64) μ) fun v2 m1 => if v2 = (0 : Int32) then (fX8_read_J125 (fun x1 x2 x3 x4 x5 x6 x7 μ => fX8_read_L55 fu x1 x2 x3 x4 x5 x6 x7 μ) x1 x2 x3 x4 x6 x7 (2 : Int32) m1) else (fX8_read_J125 (fun x1 x2 x3 x4 x5 x6 x7 μ => fX8_read_L55 fu x1 x2 x3 x4 x5 x6 x7 μ) x1 x2 x3 x4 x6 x7 (0 : Int32) m1)) else (fX8_read_J125 (fun x1 x2 x3 x4 x5 x6 x7 μ => fX8_read_L55 fu x1 x2 x3 x4 x5 x6 x7 μ) x1 x2 x3 x4 x6 x7 (3 : Int32) μ))) else (fX8_read_J198 x5 x6 μ))) 55 [(0, .ref (ad 0)), (1, .int x1), (2, .int x2), (3, .int x3), (4, .int x4), (5, .int x5), (6, .int x6), (7, .int x7)] [] μ
    refine tt_iload C 7 dX8_read_55 rfl ?_
    refine tt_iconst (v := (2 : Int32)) C dX8_read_57 (by decide) ?_
    refine tt_iload C 4 dX8_read_58 rfl ?_
    refine tt_imul C dX8_read_60 ?_
    refine tt_if (fun h1 => ?_) (fun h1 => ?_)
    · refine tt_icmp_geT (tgt := 198) C h1 dX8_read_61 (by decide) ?_
      refine tt_sub [0, 5, 6] (L2 := [(0, .ref (ad 0)), (5, .int x5), (6, .int x6)]) rfl ?_
      exact wX8_read_J198 C hr x5 x6 μ
    · refine tt_icmp_geF C 198 h1 dX8_read_61 (by decide) ?_
      refine tt_iload C 5 dX8_read_64 rfl ?_
      refine tt_if (fun h2 => ?_) (fun h2 => ?_)
      · refine tt_if_neF C 198 h2 dX8_read_66 (by decide) ?_
        refine tt_aload_n C 0 dX8_read_69 rfl rfl ?_
        refine tt_getR C (j := 41) (r0 := 17) dM_0 rfl fl_RX8_59 dX8_read_70 ?_
        refine tt_iload_n C 1 dX8_read_73 rfl rfl ?_
        refine tt_gr (fun h3 => ?_)
        refine tt_iald C dM_17 h3 dX8_read_74 ?_
        refine tt_bipush (v := (-4 : Int32)) C dX8_read_75 (by decide) ?_
        refine tt_if (fun h4 => ?_) (fun h4 => ?_)
        · refine tt_icmp_neF C 84 h4 dX8_read_77 (by decide) ?_
          refine tt_iconst (v := (1 : Int32)) C dX8_read_80 (by decide) ?_
          refine tt_goto (tgt := 125) C dX8_read_81 (by decide) ?_
          refine tt_sub [0, 1, 2, 3, 4, 6, 7] (L2 := [(0, .ref (ad 0)), (1, .int x1), (2, .int x2), (3, .int x3), (4, .int x4), (6, .int x6), (7, .int x7)]) rfl ?_
          exact wX8_read_J125 C hr (fun x1 x2 x3 x4 x5 x6 x7 μ => fX8_read_L55 fu x1 x2 x3 x4 x5 x6 x7 μ) (fun x1 x2 x3 x4 x5 x6 x7 μ => ih x1 x2 x3 x4 x5 x6 x7 μ) x1 x2 x3 x4 x6 x7 (1 : Int32) μ
        · refine tt_icmp_neT (tgt := 84) C h4 dX8_read_77 (by decide) ?_
          refine tt_aload_n C 0 dX8_read_84 rfl rfl ?_
          refine tt_getR C (j := 41) (r0 := 17) dM_0 rfl fl_RX8_59 dX8_read_85 ?_
          refine tt_iload_n C 1 dX8_read_88 rfl rfl ?_
          refine tt_gr (fun h5 => ?_)
          refine tt_iald C dM_17 h5 dX8_read_89 ?_
          refine tt_iload_n C 2 dX8_read_90 rfl rfl ?_
          refine tt_if (fun h6 => ?_) (fun h6 => ?_)
          · refine tt_icmp_eqT (tgt := 98) C h6 dX8_read_91 (by decide) ?_
            refine tt_iload_n C 3 dX8_read_98 rfl rfl ?_
            refine tt_i2l C dX8_read_99 ?_
            refine tt_iload C 7 dX8_read_100 rfl ?_
            refine tt_i2l C dX8_read_102 ?_
            refine tt_ladd C dX8_read_103 ?_
            refine tt_lconst (v := (0 : Int64)) C dX8_read_104 (by decide) ?_
            refine tt_aload_n C 0 dX8_read_105 rfl rfl ?_
            refine tt_getR C (j := 42) (r0 := 18) dM_0 rfl fl_RX8_62 dX8_read_106 ?_
            refine tt_iload_n C 1 dX8_read_109 rfl rfl ?_
            refine tt_gr (fun h7 => ?_)
            refine tt_iald C dM_18 h7 dX8_read_110 ?_
            refine tt_iconst (v := (1 : Int32)) C dX8_read_111 (by decide) ?_
            refine tt_isub C dX8_read_112 ?_
            refine tt_i2l C dX8_read_113 ?_
            refine tt_bi (fun v2 m1 h8 => ?_)
            refine tt_callS (st := []) (As := [.long (x3.toInt64 + x7.toInt64), .long (0 : Int64), .long (((μ 18 x1.toNatClampNeg) - (1 : Int32)).toInt64)]) C (kX8_in C.2.2.2.2.2.2.2.1 h8) mi_X8_in ml_RX8_70 mt_X8_in rfl (by decide) (by decide) (Nat.le_of_ble_eq_true rfl) dX8_read_114 ?_
            refine tt_if (fun h9 => ?_) (fun h9 => ?_)
            · refine tt_if_neF C 124 h9 dX8_read_117 (by decide) ?_
              refine tt_iconst (v := (2 : Int32)) C dX8_read_120 (by decide) ?_
              refine tt_goto (tgt := 125) C dX8_read_121 (by decide) ?_
              refine tt_sub [0, 1, 2, 3, 4, 6, 7] (L2 := [(0, .ref (ad 0)), (1, .int x1), (2, .int x2), (3, .int x3), (4, .int x4), (6, .int x6), (7, .int x7)]) rfl ?_
              exact wX8_read_J125 C hr (fun x1 x2 x3 x4 x5 x6 x7 μ => fX8_read_L55 fu x1 x2 x3 x4 x5 x6 x7 μ) (fun x1 x2 x3 x4 x5 x6 x7 μ => ih x1 x2 x3 x4 x5 x6 x7 μ) x1 x2 x3 x4 x6 x7 (2 : Int32) m1
            · refine tt_if_neT (tgt := 124) C h9 dX8_read_117 (by decide) ?_
              refine tt_iconst (v := (0 : Int32)) C dX8_read_124 (by decide) ?_
              refine tt_sub [0, 1, 2, 3, 4, 6, 7] (L2 := [(0, .ref (ad 0)), (1, .int x1), (2, .int x2), (3, .int x3), (4, .int x4), (6, .int x6), (7, .int x7)]) rfl ?_
              exact wX8_read_J125 C hr (fun x1 x2 x3 x4 x5 x6 x7 μ => fX8_read_L55 fu x1 x2 x3 x4 x5 x6 x7 μ) (fun x1 x2 x3 x4 x5 x6 x7 μ => ih x1 x2 x3 x4 x5 x6 x7 μ) x1 x2 x3 x4 x6 x7 (0 : Int32) m1
          · refine tt_icmp_eqF C 98 h6 dX8_read_91 (by decide) ?_
            refine tt_iconst (v := (3 : Int32)) C dX8_read_94 (by decide) ?_
            refine tt_goto (tgt := 125) C dX8_read_95 (by decide) ?_
            refine tt_sub [0, 1, 2, 3, 4, 6, 7] (L2 := [(0, .ref (ad 0)), (1, .int x1), (2, .int x2), (3, .int x3), (4, .int x4), (6, .int x6), (7, .int x7)]) rfl ?_
            exact wX8_read_J125 C hr (fun x1 x2 x3 x4 x5 x6 x7 μ => fX8_read_L55 fu x1 x2 x3 x4 x5 x6 x7 μ) (fun x1 x2 x3 x4 x5 x6 x7 μ => ih x1 x2 x3 x4 x5 x6 x7 μ) x1 x2 x3 x4 x6 x7 (3 : Int32) μ
      · refine tt_if_neT (tgt := 198) C h2 dX8_read_66 (by decide) ?_
        refine tt_sub [0, 5, 6] (L2 := [(0, .ref (ad 0)), (5, .int x5), (6, .int x6)]) rfl ?_
        exact wX8_read_J198 C hr x5 x6 μ

def fX8_read_J37 (μ : Mem) : Option (Int32 × Mem) := some ((-1 : Int32), μ)
set_option maxHeartbeats 4000000 in
set_option maxRecDepth 100000 in
theorem wX8_read_J37 {p : Program} {l : Launch} {e : Env} {s : State} {m : MethodId} {args : Array Value} {below : List Frame} {meth : Method} {c : Code} {A : Nat → Prop} {D : va_G} {ad : Nat → Nat} {cA : Nat → ClassId} (C : Cx p s m args meth c cX8_read RX8 9 A dsM D ad cA EM) (hr : meth.sig.returnType = some .int) (μ : Mem) : T p l e (rmD 3) s m args below meth c 9 A dsM D ad cA enI (fX8_read_J37 μ) 37 [] [] μ := by
  unfold fX8_read_J37
  refine tt_iconst (v := (-1 : Int32)) C dX8_read_37 (by decide) ?_
  exact tt_iret rfl C hr dX8_read_38

def fX8_read (x1 : Int32) (x2 : Int32) (x3 : Int32) (x4 : Int32) (μ : Mem) : Option (Int32 × Mem) := bi (fX8_in x1.toInt64 (0 : Int64) (3 : Int64) μ) fun v2 m1 => if v2 = (0 : Int32) then (fX8_read_J37 m1) else (bi (fX8_in x2.toInt64 (0 : Int64) (2 : Int64) m1) fun v4 m3 => if v4 = (0 : Int32) then (fX8_read_J37 m3) else (bi (fX8_in x4.toInt64 (0 : Int64) (20 : Int64) m3) fun v6 m5 => if v6 = (0 : Int32) then (fX8_read_J37 m5) else (bv (fX8_copies (0 : Int32) (96 : Int32) m5) fun m7 => lb (0 : Int32) fun (y8 : Int32) => lb (0 : Int32) fun (y9 : Int32) => lb (0 : Int32) fun (y10 : Int32) => fX8_read_L55 FU x1 x2 x3 x4 y8 y9 y10 m7)))
set_option maxHeartbeats 4000000 in
set_option maxRecDepth 100000 in
theorem wX8_read {p : Program} {l : Launch} {e : Env} {s : State} {m : MethodId} {args : Array Value} {below : List Frame} {meth : Method} {c : Code} {A : Nat → Prop} {D : va_G} {ad : Nat → Nat} {cA : Nat → ClassId} (C : Cx p s m args meth c cX8_read RX8 9 A dsM D ad cA EM) (hr : meth.sig.returnType = some .int) (x1 : Int32) (x2 : Int32) (x3 : Int32) (x4 : Int32) (μ : Mem) : T p l e (rmD 3) s m args below meth c 9 A dsM D ad cA enI (fX8_read x1 x2 x3 x4 μ) 0 [(0, .ref (ad 0)), (1, .int x1), (2, .int x2), (3, .int x3), (4, .int x4)] [] μ := by
  unfold fX8_read
  refine tt_iload_n C 1 dX8_read_0 rfl rfl ?_
  refine tt_i2l C dX8_read_1 ?_
  refine tt_lconst (v := (0 : Int64)) C dX8_read_2 (by decide) ?_
  refine tt_ldc2 (v := (3 : Int64)) C kL_RX8_275 dX8_read_3 ?_
  refine tt_bi (fun v2 m1 h1 => ?_)
  refine tt_callS (st := []) (As := [.long x1.toInt64, .long (0 : Int64), .long (3 : Int64)]) C (kX8_in C.2.2.2.2.2.2.2.1 h1) mi_X8_in ml_RX8_70 mt_X8_in rfl (by decide) (by decide) (Nat.le_of_ble_eq_true rfl) dX8_read_6 ?_
  refine tt_if (fun h2 => ?_) (fun h2 => ?_)
  · refine tt_if_eqT (tgt := 37) C h2 dX8_read_9 (by decide) ?_
    refine tt_sub [] (L2 := []) rfl ?_
    exact wX8_read_J37 C hr m1
  · refine tt_if_eqF C 37 h2 dX8_read_9 (by decide) ?_
    refine tt_iload_n C 2 dX8_read_12 rfl rfl ?_
    refine tt_i2l C dX8_read_13 ?_
    refine tt_lconst (v := (0 : Int64)) C dX8_read_14 (by decide) ?_
    refine tt_ldc2 (v := (2 : Int64)) C kL_RX8_251 dX8_read_15 ?_
    refine tt_bi (fun v4 m3 h3 => ?_)
    refine tt_callS (st := []) (As := [.long x2.toInt64, .long (0 : Int64), .long (2 : Int64)]) C (kX8_in C.2.2.2.2.2.2.2.1 h3) mi_X8_in ml_RX8_70 mt_X8_in rfl (by decide) (by decide) (Nat.le_of_ble_eq_true rfl) dX8_read_18 ?_
    refine tt_if (fun h4 => ?_) (fun h4 => ?_)
    · refine tt_if_eqT (tgt := 37) C h4 dX8_read_21 (by decide) ?_
      refine tt_sub [] (L2 := []) rfl ?_
      exact wX8_read_J37 C hr m3
    · refine tt_if_eqF C 37 h4 dX8_read_21 (by decide) ?_
      refine tt_iload C 4 dX8_read_24 rfl ?_
      refine tt_i2l C dX8_read_26 ?_
      refine tt_lconst (v := (0 : Int64)) C dX8_read_27 (by decide) ?_
      refine tt_ldc2 (v := (20 : Int64)) C kL_RX8_304 dX8_read_28 ?_
      refine tt_bi (fun v6 m5 h5 => ?_)
      refine tt_callS (st := []) (As := [.long x4.toInt64, .long (0 : Int64), .long (20 : Int64)]) C (kX8_in C.2.2.2.2.2.2.2.1 h5) mi_X8_in ml_RX8_70 mt_X8_in rfl (by decide) (by decide) (Nat.le_of_ble_eq_true rfl) dX8_read_31 ?_
      refine tt_if (fun h6 => ?_) (fun h6 => ?_)
      · refine tt_if_neF C 39 h6 dX8_read_34 (by decide) ?_
        refine tt_sub [] (L2 := []) rfl ?_
        exact wX8_read_J37 C hr m5
      · refine tt_if_neT (tgt := 39) C h6 dX8_read_34 (by decide) ?_
        refine tt_aload_n C 0 dX8_read_39 rfl rfl ?_
        refine tt_iconst (v := (0 : Int32)) C dX8_read_40 (by decide) ?_
        refine tt_bipush (v := (96 : Int32)) C dX8_read_41 (by decide) ?_
        refine tt_bv (fun m7 h7 => ?_)
        refine tt_callV (st := []) (As := [.int (0 : Int32), .int (96 : Int32)]) C (kX8_copies C.2.2.2.2.2.2.2.1 h7) mi_X8_copies ml_RX8_300 mv_X8_copies ms_X8_copies (q := (RX8, TX8, 45)) dM_0 rfl rfl (by decide) (by decide) (Nat.le_of_ble_eq_true rfl) dX8_read_43 ?_
        refine tt_iconst (v := (0 : Int32)) C dX8_read_46 (by decide) ?_
        refine tt_lbi (fun y8 => ?_)
        refine tt_istore (L2 := [(5, .int y8), (0, .ref (ad 0)), (1, .int x1), (2, .int x2), (3, .int x3), (4, .int x4)]) C dX8_read_47 (by decide) rfl ?_
        refine tt_iconst (v := (0 : Int32)) C dX8_read_49 (by decide) ?_
        refine tt_lbi (fun y9 => ?_)
        refine tt_istore (L2 := [(6, .int y9), (5, .int y8), (0, .ref (ad 0)), (1, .int x1), (2, .int x2), (3, .int x3), (4, .int x4)]) C dX8_read_50 (by decide) rfl ?_
        refine tt_iconst (v := (0 : Int32)) C dX8_read_52 (by decide) ?_
        refine tt_lbi (fun y10 => ?_)
        refine tt_istore (L2 := [(7, .int y10), (6, .int y9), (5, .int y8), (0, .ref (ad 0)), (1, .int x1), (2, .int x2), (3, .int x3), (4, .int x4)]) C dX8_read_53 (by decide) rfl ?_
        refine tt_sub [3, 4, 5, 6, 7, 2, 1, 0] (L2 := [(0, .ref (ad 0)), (1, .int x1), (2, .int x2), (3, .int x3), (4, .int x4), (5, .int y8), (6, .int y9), (7, .int y10)]) rfl ?_
        exact wX8_read_L55 C hr FU x1 x2 x3 x4 y8 y9 y10 m7
theorem kX8_read {l : Launch} {A : Nat → Prop} {D : va_G} {ad : Nat → Nat} {cA : Nat → ClassId} (hPk : Pk A dsM ad cA EM) {x1 : Int32} {x2 : Int32} {x3 : Int32} {x4 : Int32} {μ : Mem} {v : Int32} {ν : Mem} (h : fX8_read x1 x2 x3 x4 μ = some (v, ν)) : Ct l A dsM D ad cA EM yX8_read cX8_read 9 (some .int) 3 [.ref (ad 0), .int x1, .int x2, .int x3, .int x4] μ (enI (v, ν)) :=
  ct_of (by decide) (Nat.le_of_ble_eq_true rfl) hPk rfl (fun p e s m args below meth c C hr => wX8_read C hr x1 x2 x3 x4 μ) h

/-! BasketRoundModel.readOrder()V -/
def fX8_readOrder_J87 (z1 : Int32) (μ : Mem) : Option (Mem) := lb (wr μ 0 15 z1) fun m1 => bi (fX8_number (1 : Int32) (9 : Int32) m1) fun v3 m2 => gr ((5 : Int32) + (m1 0 11)) 32 <| lb (wr m2 5 ((5 : Int32) + (m1 0 11)).toNatClampNeg v3) fun m4 => bi (fX8_number (0 : Int32) (9 : Int32) m4) fun v6 m5 => gr ((10 : Int32) + (m4 0 11)) 32 <| lb (wr m5 5 ((10 : Int32) + (m4 0 11)).toNatClampNeg v6) fun m7 => bi (fX8_number (0 : Int32) (99 : Int32) m7) fun v9 m8 => gr ((15 : Int32) + (m7 0 11)) 32 <| lb (wr m8 5 ((15 : Int32) + (m7 0 11)).toNatClampNeg v9) fun m10 => lb (wr m10 0 11 ((m10 0 11) + (1 : Int32))) fun m11 => some m11
set_option maxHeartbeats 4000000 in
set_option maxRecDepth 100000 in
theorem wX8_readOrder_J87 {p : Program} {l : Launch} {e : Env} {s : State} {m : MethodId} {args : Array Value} {below : List Frame} {meth : Method} {c : Code} {A : Nat → Prop} {D : va_G} {ad : Nat → Nat} {cA : Nat → ClassId} (C : Cx p s m args meth c cX8_readOrder RX8 2 A dsM D ad cA EM) (hr : meth.sig.returnType = none) (z1 : Int32) (μ : Mem) : T p l e (rmD 3) s m args below meth c 2 A dsM D ad cA enV (fX8_readOrder_J87 z1 μ) 87 [(0, .ref (ad 0))] [.int z1, .ref (ad 0)] μ := by
  unfold fX8_readOrder_J87
  refine tt_putI C (j := 15) dM_0 rfl fl_RX8_126 fw_8_15 dX8_readOrder_87 ?_
  refine tt_lbm (fun m1 => ?_)
  refine tt_aload_n C 0 dX8_readOrder_90 rfl rfl ?_
  refine tt_getR C (j := 6) (r0 := 5) dM_0 rfl fl_RX8_22 dX8_readOrder_91 ?_
  refine tt_iconst (v := (5 : Int32)) C dX8_readOrder_94 (by decide) ?_
  refine tt_aload_n C 0 dX8_readOrder_95 rfl rfl ?_
  refine tt_getI C (j := 11) dM_0 rfl fl_RX8_119 dX8_readOrder_96 ?_
  refine tt_iadd C dX8_readOrder_99 ?_
  refine tt_aload_n C 0 dX8_readOrder_100 rfl rfl ?_
  refine tt_iconst (v := (1 : Int32)) C dX8_readOrder_101 (by decide) ?_
  refine tt_bipush (v := (9 : Int32)) C dX8_readOrder_102 (by decide) ?_
  refine tt_bi (fun v3 m2 h1 => ?_)
  refine tt_callV (st := [.int ((5 : Int32) + (m1 0 11)), .ref (ad 5)]) (As := [.int (1 : Int32), .int (9 : Int32)]) C (kX8_number C.2.2.2.2.2.2.2.1 h1) mi_X8_number ml_RX8_122 mv_X8_number ms_X8_number (q := (RX8, TX8, 45)) dM_0 rfl rfl (by decide) (by decide) (Nat.le_of_ble_eq_true rfl) dX8_readOrder_104 ?_
  refine tt_gr (fun h2 => ?_)
  refine tt_iast C dM_5 h2 dX8_readOrder_107 ?_
  refine tt_lbm (fun m4 => ?_)
  refine tt_aload_n C 0 dX8_readOrder_108 rfl rfl ?_
  refine tt_getR C (j := 6) (r0 := 5) dM_0 rfl fl_RX8_22 dX8_readOrder_109 ?_
  refine tt_bipush (v := (10 : Int32)) C dX8_readOrder_112 (by decide) ?_
  refine tt_aload_n C 0 dX8_readOrder_114 rfl rfl ?_
  refine tt_getI C (j := 11) dM_0 rfl fl_RX8_119 dX8_readOrder_115 ?_
  refine tt_iadd C dX8_readOrder_118 ?_
  refine tt_aload_n C 0 dX8_readOrder_119 rfl rfl ?_
  refine tt_iconst (v := (0 : Int32)) C dX8_readOrder_120 (by decide) ?_
  refine tt_bipush (v := (9 : Int32)) C dX8_readOrder_121 (by decide) ?_
  refine tt_bi (fun v6 m5 h3 => ?_)
  refine tt_callV (st := [.int ((10 : Int32) + (m4 0 11)), .ref (ad 5)]) (As := [.int (0 : Int32), .int (9 : Int32)]) C (kX8_number C.2.2.2.2.2.2.2.1 h3) mi_X8_number ml_RX8_122 mv_X8_number ms_X8_number (q := (RX8, TX8, 45)) dM_0 rfl rfl (by decide) (by decide) (Nat.le_of_ble_eq_true rfl) dX8_readOrder_123 ?_
  refine tt_gr (fun h4 => ?_)
  refine tt_iast C dM_5 h4 dX8_readOrder_126 ?_
  refine tt_lbm (fun m7 => ?_)
  refine tt_aload_n C 0 dX8_readOrder_127 rfl rfl ?_
  refine tt_getR C (j := 6) (r0 := 5) dM_0 rfl fl_RX8_22 dX8_readOrder_128 ?_
  refine tt_bipush (v := (15 : Int32)) C dX8_readOrder_131 (by decide) ?_
  refine tt_aload_n C 0 dX8_readOrder_133 rfl rfl ?_
  refine tt_getI C (j := 11) dM_0 rfl fl_RX8_119 dX8_readOrder_134 ?_
  refine tt_iadd C dX8_readOrder_137 ?_
  refine tt_aload_n C 0 dX8_readOrder_138 rfl rfl ?_
  refine tt_iconst (v := (0 : Int32)) C dX8_readOrder_139 (by decide) ?_
  refine tt_bipush (v := (99 : Int32)) C dX8_readOrder_140 (by decide) ?_
  refine tt_bi (fun v9 m8 h5 => ?_)
  refine tt_callV (st := [.int ((15 : Int32) + (m7 0 11)), .ref (ad 5)]) (As := [.int (0 : Int32), .int (99 : Int32)]) C (kX8_number C.2.2.2.2.2.2.2.1 h5) mi_X8_number ml_RX8_122 mv_X8_number ms_X8_number (q := (RX8, TX8, 45)) dM_0 rfl rfl (by decide) (by decide) (Nat.le_of_ble_eq_true rfl) dX8_readOrder_142 ?_
  refine tt_gr (fun h6 => ?_)
  refine tt_iast C dM_5 h6 dX8_readOrder_145 ?_
  refine tt_lbm (fun m10 => ?_)
  refine tt_aload_n C 0 dX8_readOrder_146 rfl rfl ?_
  refine tt_dup C dX8_readOrder_147 rfl ?_
  refine tt_getI C (j := 11) dM_0 rfl fl_RX8_119 dX8_readOrder_148 ?_
  refine tt_iconst (v := (1 : Int32)) C dX8_readOrder_151 (by decide) ?_
  refine tt_iadd C dX8_readOrder_152 ?_
  refine tt_putI C (j := 11) dM_0 rfl fl_RX8_119 fw_8_11 dX8_readOrder_153 ?_
  refine tt_lbm (fun m11 => ?_)
  exact tt_vret rfl C hr dX8_readOrder_156

def fX8_readOrder_J24 (x1 : Int32) (μ : Mem) : Option (Mem) := gr (μ 0 11) 32 <| lb (wr μ 5 (μ 0 11).toNatClampNeg x1) fun m1 => bv (fX8_step m1) fun m2 => bi (fX8_number (1 : Int32) (6 : Int32) m2) fun v4 m3 => gr (m2 0 11) 5 <| lb (wr m3 8 (m2 0 11).toNatClampNeg v4) fun m5 => gr (m5 0 11) 5 <| if (m5 8 (m5 0 11).toNatClampNeg) ≤ (m5 0 15) then (fX8_readOrder_J87 (m5 0 15) m5) else (gr (m5 0 11) 5 <| fX8_readOrder_J87 (m5 8 (m5 0 11).toNatClampNeg) m5)
set_option maxHeartbeats 4000000 in
set_option maxRecDepth 100000 in
theorem wX8_readOrder_J24 {p : Program} {l : Launch} {e : Env} {s : State} {m : MethodId} {args : Array Value} {below : List Frame} {meth : Method} {c : Code} {A : Nat → Prop} {D : va_G} {ad : Nat → Nat} {cA : Nat → ClassId} (C : Cx p s m args meth c cX8_readOrder RX8 2 A dsM D ad cA EM) (hr : meth.sig.returnType = none) (x1 : Int32) (μ : Mem) : T p l e (rmD 3) s m args below meth c 2 A dsM D ad cA enV (fX8_readOrder_J24 x1 μ) 24 [(0, .ref (ad 0)), (1, .int x1)] [] μ := by
  unfold fX8_readOrder_J24
  refine tt_aload_n C 0 dX8_readOrder_24 rfl rfl ?_
  refine tt_getR C (j := 6) (r0 := 5) dM_0 rfl fl_RX8_22 dX8_readOrder_25 ?_
  refine tt_aload_n C 0 dX8_readOrder_28 rfl rfl ?_
  refine tt_getI C (j := 11) dM_0 rfl fl_RX8_119 dX8_readOrder_29 ?_
  refine tt_iload_n C 1 dX8_readOrder_32 rfl rfl ?_
  refine tt_gr (fun h1 => ?_)
  refine tt_iast C dM_5 h1 dX8_readOrder_33 ?_
  refine tt_lbm (fun m1 => ?_)
  refine tt_aload_n C 0 dX8_readOrder_34 rfl rfl ?_
  refine tt_bv (fun m2 h2 => ?_)
  refine tt_callV (st := []) (As := []) C (kX8_step C.2.2.2.2.2.2.2.1 h2) mi_X8_step ml_RX8_112 mv_X8_step ms_X8_step (q := (RX8, TX8, 45)) dM_0 rfl rfl (by decide) (by decide) (Nat.le_of_ble_eq_true rfl) dX8_readOrder_35 ?_
  refine tt_aload_n C 0 dX8_readOrder_38 rfl rfl ?_
  refine tt_getR C (j := 9) (r0 := 8) dM_0 rfl fl_RX8_31 dX8_readOrder_39 ?_
  refine tt_aload_n C 0 dX8_readOrder_42 rfl rfl ?_
  refine tt_getI C (j := 11) dM_0 rfl fl_RX8_119 dX8_readOrder_43 ?_
  refine tt_aload_n C 0 dX8_readOrder_46 rfl rfl ?_
  refine tt_iconst (v := (1 : Int32)) C dX8_readOrder_47 (by decide) ?_
  refine tt_bipush (v := (6 : Int32)) C dX8_readOrder_48 (by decide) ?_
  refine tt_bi (fun v4 m3 h3 => ?_)
  refine tt_callV (st := [.int (m2 0 11), .ref (ad 8)]) (As := [.int (1 : Int32), .int (6 : Int32)]) C (kX8_number C.2.2.2.2.2.2.2.1 h3) mi_X8_number ml_RX8_122 mv_X8_number ms_X8_number (q := (RX8, TX8, 45)) dM_0 rfl rfl (by decide) (by decide) (Nat.le_of_ble_eq_true rfl) dX8_readOrder_50 ?_
  refine tt_gr (fun h4 => ?_)
  refine tt_iast C dM_8 h4 dX8_readOrder_53 ?_
  refine tt_lbm (fun m5 => ?_)
  refine tt_aload_n C 0 dX8_readOrder_54 rfl rfl ?_
  refine tt_aload_n C 0 dX8_readOrder_55 rfl rfl ?_
  refine tt_getR C (j := 9) (r0 := 8) dM_0 rfl fl_RX8_31 dX8_readOrder_56 ?_
  refine tt_aload_n C 0 dX8_readOrder_59 rfl rfl ?_
  refine tt_getI C (j := 11) dM_0 rfl fl_RX8_119 dX8_readOrder_60 ?_
  refine tt_gr (fun h5 => ?_)
  refine tt_iald C dM_8 h5 dX8_readOrder_63 ?_
  refine tt_aload_n C 0 dX8_readOrder_64 rfl rfl ?_
  refine tt_getI C (j := 15) dM_0 rfl fl_RX8_126 dX8_readOrder_65 ?_
  refine tt_if (fun h6 => ?_) (fun h6 => ?_)
  · refine tt_icmp_leT (tgt := 83) C h6 dX8_readOrder_68 (by decide) ?_
    refine tt_aload_n C 0 dX8_readOrder_83 rfl rfl ?_
    refine tt_getI C (j := 15) dM_0 rfl fl_RX8_126 dX8_readOrder_84 ?_
    refine tt_sub [0] (L2 := [(0, .ref (ad 0))]) rfl ?_
    exact wX8_readOrder_J87 C hr (m5 0 15) m5
  · refine tt_icmp_leF C 83 h6 dX8_readOrder_68 (by decide) ?_
    refine tt_aload_n C 0 dX8_readOrder_71 rfl rfl ?_
    refine tt_getR C (j := 9) (r0 := 8) dM_0 rfl fl_RX8_31 dX8_readOrder_72 ?_
    refine tt_aload_n C 0 dX8_readOrder_75 rfl rfl ?_
    refine tt_getI C (j := 11) dM_0 rfl fl_RX8_119 dX8_readOrder_76 ?_
    refine tt_gr (fun h7 => ?_)
    refine tt_iald C dM_8 h7 dX8_readOrder_79 ?_
    refine tt_goto (tgt := 87) C dX8_readOrder_80 (by decide) ?_
    refine tt_sub [0] (L2 := [(0, .ref (ad 0))]) rfl ?_
    exact wX8_readOrder_J87 C hr (m5 8 (m5 0 11).toNatClampNeg) m5

def fX8_readOrder (μ : Mem) : Option (Mem) := bi (fX8_nameHere μ) fun v2 m1 => lb (v2 - (8 : Int32)) fun (y3 : Int32) => if (m1 0 20) = (0 : Int32) then (if (0 : Int32) ≤ y3 then (fX8_readOrder_J24 y3 m1) else (bv (fX8_fails (2 : Int32) m1) fun m4 => fX8_readOrder_J24 y3 m4)) else (fX8_readOrder_J24 y3 m1)
set_option maxHeartbeats 4000000 in
set_option maxRecDepth 100000 in
theorem wX8_readOrder {p : Program} {l : Launch} {e : Env} {s : State} {m : MethodId} {args : Array Value} {below : List Frame} {meth : Method} {c : Code} {A : Nat → Prop} {D : va_G} {ad : Nat → Nat} {cA : Nat → ClassId} (C : Cx p s m args meth c cX8_readOrder RX8 2 A dsM D ad cA EM) (hr : meth.sig.returnType = none) (μ : Mem) : T p l e (rmD 3) s m args below meth c 2 A dsM D ad cA enV (fX8_readOrder μ) 0 [(0, .ref (ad 0))] [] μ := by
  unfold fX8_readOrder
  refine tt_aload_n C 0 dX8_readOrder_0 rfl rfl ?_
  refine tt_bi (fun v2 m1 h1 => ?_)
  refine tt_callV (st := []) (As := []) C (kX8_nameHere C.2.2.2.2.2.2.2.1 h1) mi_X8_nameHere ml_RX8_115 mv_X8_nameHere ms_X8_nameHere (q := (RX8, TX8, 45)) dM_0 rfl rfl (by decide) (by decide) (Nat.le_of_ble_eq_true rfl) dX8_readOrder_1 ?_
  refine tt_bipush (v := (8 : Int32)) C dX8_readOrder_4 (by decide) ?_
  refine tt_isub C dX8_readOrder_6 ?_
  refine tt_lbi (fun y3 => ?_)
  refine tt_istore_n (L2 := [(1, .int y3), (0, .ref (ad 0))]) C dX8_readOrder_7 rfl (by decide) rfl ?_
  refine tt_aload_n C 1 dX8_readOrder_8 rfl rfl ?_
  refine tt_getI C (j := 20) dM_0 rfl fl_RX8_78 dX8_readOrder_9 ?_
  refine tt_if (fun h2 => ?_) (fun h2 => ?_)
  · refine tt_if_neF C 24 h2 dX8_readOrder_12 (by decide) ?_
    refine tt_iload_n C 0 dX8_readOrder_15 rfl rfl ?_
    refine tt_if (fun h3 => ?_) (fun h3 => ?_)
    · refine tt_if_geT (tgt := 24) C h3 dX8_readOrder_16 (by decide) ?_
      refine tt_sub [1, 0] (L2 := [(0, .ref (ad 0)), (1, .int y3)]) rfl ?_
      exact wX8_readOrder_J24 C hr y3 m1
    · refine tt_if_geF C 24 h3 dX8_readOrder_16 (by decide) ?_
      refine tt_aload_n C 1 dX8_readOrder_19 rfl rfl ?_
      refine tt_iconst (v := (2 : Int32)) C dX8_readOrder_20 (by decide) ?_
      refine tt_bv (fun m4 h4 => ?_)
      refine tt_callV (st := []) (As := [.int (2 : Int32)]) C (kX8_fails C.2.2.2.2.2.2.2.1 h4) mi_X8_fails ml_RX8_108 mv_X8_fails ms_X8_fails (q := (RX8, TX8, 45)) dM_0 rfl rfl (by decide) (by decide) (Nat.le_of_ble_eq_true rfl) dX8_readOrder_21 ?_
      refine tt_sub [1, 0] (L2 := [(0, .ref (ad 0)), (1, .int y3)]) rfl ?_
      exact wX8_readOrder_J24 C hr y3 m4
  · refine tt_if_neT (tgt := 24) C h2 dX8_readOrder_12 (by decide) ?_
    refine tt_sub [1, 0] (L2 := [(0, .ref (ad 0)), (1, .int y3)]) rfl ?_
    exact wX8_readOrder_J24 C hr y3 m1
theorem kX8_readOrder {l : Launch} {A : Nat → Prop} {D : va_G} {ad : Nat → Nat} {cA : Nat → ClassId} (hPk : Pk A dsM ad cA EM) {μ : Mem} {ν : Mem} (h : fX8_readOrder μ = some ν) : Ct l A dsM D ad cA EM yX8_readOrder cX8_readOrder 2 none 3 [.ref (ad 0)] μ (enV ν) :=
  ct_of (by decide) (Nat.le_of_ble_eq_true rfl) hPk rfl (fun p e s m args below meth c C hr => wX8_readOrder C hr μ) h

/-! BasketRoundModel.readRow(I)V -/
def fX8_readRow_J128 (μ : Mem) : Option (Mem) := some μ
set_option maxHeartbeats 4000000 in
set_option maxRecDepth 100000 in
theorem wX8_readRow_J128 {p : Program} {l : Launch} {e : Env} {s : State} {m : MethodId} {args : Array Value} {below : List Frame} {meth : Method} {c : Code} {A : Nat → Prop} {D : va_G} {ad : Nat → Nat} {cA : Nat → ClassId} (C : Cx p s m args meth c cX8_readRow RX8 4 A dsM D ad cA EM) (hr : meth.sig.returnType = none) (μ : Mem) : T p l e (rmD 3) s m args below meth c 4 A dsM D ad cA enV (fX8_readRow_J128 μ) 128 [] [] μ := by
  unfold fX8_readRow_J128
  exact tt_vret rfl C hr dX8_readRow_128

def fX8_readRow_J125 (k2 : Int32 → Int32 → Mem → Option (Mem)) (x1 : Int32) (x2 : Int32) (μ : Mem) : Option (Mem) := k2 x1 x2 μ
set_option maxHeartbeats 4000000 in
set_option maxRecDepth 100000 in
theorem wX8_readRow_J125 {p : Program} {l : Launch} {e : Env} {s : State} {m : MethodId} {args : Array Value} {below : List Frame} {meth : Method} {c : Code} {A : Nat → Prop} {D : va_G} {ad : Nat → Nat} {cA : Nat → ClassId} (C : Cx p s m args meth c cX8_readRow RX8 4 A dsM D ad cA EM) (hr : meth.sig.returnType = none) (k2 : Int32 → Int32 → Mem → Option (Mem)) (hk2 : ∀ (x1 : Int32) (x2 : Int32) (μ : Mem), T p l e (rmD 3) s m args below meth c 4 A dsM D ad cA enV (k2 x1 x2 μ) 2 [(0, .ref (ad 0)), (1, .int x1), (2, .int x2)] [] μ) (x1 : Int32) (x2 : Int32) (μ : Mem) : T p l e (rmD 3) s m args below meth c 4 A dsM D ad cA enV (fX8_readRow_J125 k2 x1 x2 μ) 125 [(0, .ref (ad 0)), (1, .int x1), (2, .int x2)] [] μ := by
  unfold fX8_readRow_J125
  refine tt_goto (tgt := 2) C dX8_readRow_125 (by decide) ?_
  refine tt_sub [0, 1, 2] (L2 := [(0, .ref (ad 0)), (1, .int x1), (2, .int x2)]) rfl ?_
  exact hk2 x1 x2 μ

def fX8_readRow_J99 (k2 : Int32 → Int32 → Mem → Option (Mem)) (x1 : Int32) (x2 : Int32) (x3 : Int32) (μ : Mem) : Option (Mem) := gr x1 2 <| gr (((5 : Int32) * x1) + (μ 10 x1.toNatClampNeg)) 10 <| lb (wr μ 9 (((5 : Int32) * x1) + (μ 10 x1.toNatClampNeg)).toNatClampNeg x3) fun m1 => gr x1 2 <| gr x1 2 <| lb (wr m1 10 x1.toNatClampNeg ((m1 10 x1.toNatClampNeg) + (1 : Int32))) fun m2 => fX8_readRow_J125 k2 x1 x2 m2
set_option maxHeartbeats 4000000 in
set_option maxRecDepth 100000 in
theorem wX8_readRow_J99 {p : Program} {l : Launch} {e : Env} {s : State} {m : MethodId} {args : Array Value} {below : List Frame} {meth : Method} {c : Code} {A : Nat → Prop} {D : va_G} {ad : Nat → Nat} {cA : Nat → ClassId} (C : Cx p s m args meth c cX8_readRow RX8 4 A dsM D ad cA EM) (hr : meth.sig.returnType = none) (k2 : Int32 → Int32 → Mem → Option (Mem)) (hk2 : ∀ (x1 : Int32) (x2 : Int32) (μ : Mem), T p l e (rmD 3) s m args below meth c 4 A dsM D ad cA enV (k2 x1 x2 μ) 2 [(0, .ref (ad 0)), (1, .int x1), (2, .int x2)] [] μ) (x1 : Int32) (x2 : Int32) (x3 : Int32) (μ : Mem) : T p l e (rmD 3) s m args below meth c 4 A dsM D ad cA enV (fX8_readRow_J99 k2 x1 x2 x3 μ) 99 [(0, .ref (ad 0)), (1, .int x1), (2, .int x2), (3, .int x3)] [] μ := by
  unfold fX8_readRow_J99
  refine tt_aload_n C 0 dX8_readRow_99 rfl rfl ?_
  refine tt_getR C (j := 13) (r0 := 9) dM_0 rfl fl_RX8_34 dX8_readRow_100 ?_
  refine tt_iconst (v := (5 : Int32)) C dX8_readRow_103 (by decide) ?_
  refine tt_iload_n C 1 dX8_readRow_104 rfl rfl ?_
  refine tt_imul C dX8_readRow_105 ?_
  refine tt_aload_n C 0 dX8_readRow_106 rfl rfl ?_
  refine tt_getR C (j := 14) (r0 := 10) dM_0 rfl fl_RX8_37 dX8_readRow_107 ?_
  refine tt_iload_n C 1 dX8_readRow_110 rfl rfl ?_
  refine tt_gr (fun h1 => ?_)
  refine tt_iald C dM_10 h1 dX8_readRow_111 ?_
  refine tt_iadd C dX8_readRow_112 ?_
  refine tt_iload_n C 3 dX8_readRow_113 rfl rfl ?_
  refine tt_gr (fun h2 => ?_)
  refine tt_iast C dM_9 h2 dX8_readRow_114 ?_
  refine tt_lbm (fun m1 => ?_)
  refine tt_aload_n C 0 dX8_readRow_115 rfl rfl ?_
  refine tt_getR C (j := 14) (r0 := 10) dM_0 rfl fl_RX8_37 dX8_readRow_116 ?_
  refine tt_iload_n C 1 dX8_readRow_119 rfl rfl ?_
  refine tt_dup2 C dX8_readRow_120 rfl rfl ?_
  refine tt_gr (fun h3 => ?_)
  refine tt_iald C dM_10 h3 dX8_readRow_121 ?_
  refine tt_iconst (v := (1 : Int32)) C dX8_readRow_122 (by decide) ?_
  refine tt_iadd C dX8_readRow_123 ?_
  refine tt_gr (fun h4 => ?_)
  refine tt_iast C dM_10 h4 dX8_readRow_124 ?_
  refine tt_lbm (fun m2 => ?_)
  refine tt_sub [0, 1, 2] (L2 := [(0, .ref (ad 0)), (1, .int x1), (2, .int x2)]) rfl ?_
  exact wX8_readRow_J125 C hr k2 hk2 x1 x2 m2

def fX8_readRow_J79 (k2 : Int32 → Int32 → Mem → Option (Mem)) (x1 : Int32) (x2 : Int32) (x3 : Int32) (z1 : Int32) (μ : Mem) : Option (Mem) := lb (wr μ 0 16 z1) fun m1 => if (m1 0 20) = (0 : Int32) then (fX8_readRow_J99 k2 x1 x2 x3 m1) else (gr x1 2 <| if (5 : Int32) ≤ (m1 10 x1.toNatClampNeg) then (fX8_readRow_J125 k2 x1 x2 m1) else (fX8_readRow_J99 k2 x1 x2 x3 m1))
set_option maxHeartbeats 4000000 in
set_option maxRecDepth 100000 in
theorem wX8_readRow_J79 {p : Program} {l : Launch} {e : Env} {s : State} {m : MethodId} {args : Array Value} {below : List Frame} {meth : Method} {c : Code} {A : Nat → Prop} {D : va_G} {ad : Nat → Nat} {cA : Nat → ClassId} (C : Cx p s m args meth c cX8_readRow RX8 4 A dsM D ad cA EM) (hr : meth.sig.returnType = none) (k2 : Int32 → Int32 → Mem → Option (Mem)) (hk2 : ∀ (x1 : Int32) (x2 : Int32) (μ : Mem), T p l e (rmD 3) s m args below meth c 4 A dsM D ad cA enV (k2 x1 x2 μ) 2 [(0, .ref (ad 0)), (1, .int x1), (2, .int x2)] [] μ) (x1 : Int32) (x2 : Int32) (x3 : Int32) (z1 : Int32) (μ : Mem) : T p l e (rmD 3) s m args below meth c 4 A dsM D ad cA enV (fX8_readRow_J79 k2 x1 x2 x3 z1 μ) 79 [(0, .ref (ad 0)), (1, .int x1), (2, .int x2), (3, .int x3)] [.int z1, .ref (ad 0)] μ := by
  unfold fX8_readRow_J79
  refine tt_putI C (j := 16) dM_0 rfl fl_RX8_131 fw_8_16 dX8_readRow_79 ?_
  refine tt_lbm (fun m1 => ?_)
  refine tt_aload_n C 0 dX8_readRow_82 rfl rfl ?_
  refine tt_getI C (j := 20) dM_0 rfl fl_RX8_78 dX8_readRow_83 ?_
  refine tt_if (fun h1 => ?_) (fun h1 => ?_)
  · refine tt_if_eqT (tgt := 99) C h1 dX8_readRow_86 (by decide) ?_
    refine tt_sub [0, 1, 2, 3] (L2 := [(0, .ref (ad 0)), (1, .int x1), (2, .int x2), (3, .int x3)]) rfl ?_
    exact wX8_readRow_J99 C hr k2 hk2 x1 x2 x3 m1
  · refine tt_if_eqF C 99 h1 dX8_readRow_86 (by decide) ?_
    refine tt_aload_n C 0 dX8_readRow_89 rfl rfl ?_
    refine tt_getR C (j := 14) (r0 := 10) dM_0 rfl fl_RX8_37 dX8_readRow_90 ?_
    refine tt_iload_n C 1 dX8_readRow_93 rfl rfl ?_
    refine tt_gr (fun h2 => ?_)
    refine tt_iald C dM_10 h2 dX8_readRow_94 ?_
    refine tt_iconst (v := (5 : Int32)) C dX8_readRow_95 (by decide) ?_
    refine tt_if (fun h3 => ?_) (fun h3 => ?_)
    · refine tt_icmp_geT (tgt := 125) C h3 dX8_readRow_96 (by decide) ?_
      refine tt_sub [0, 1, 2] (L2 := [(0, .ref (ad 0)), (1, .int x1), (2, .int x2)]) rfl ?_
      exact wX8_readRow_J125 C hr k2 hk2 x1 x2 m1
    · refine tt_icmp_geF C 125 h3 dX8_readRow_96 (by decide) ?_
      refine tt_sub [0, 1, 2, 3] (L2 := [(0, .ref (ad 0)), (1, .int x1), (2, .int x2), (3, .int x3)]) rfl ?_
      exact wX8_readRow_J99 C hr k2 hk2 x1 x2 x3 m1

def fX8_readRow_J49 (k2 : Int32 → Int32 → Mem → Option (Mem)) (x1 : Int32) (x2 : Int32) (μ : Mem) : Option (Mem) := bi (fX8_number (0 : Int32) (4 : Int32) μ) fun v2 m1 => lb (x2 ||| ((1 : Int32) <<< (v2 &&& 31))) fun (y3 : Int32) => if v2 ≤ (m1 0 16) then (fX8_readRow_J79 k2 x1 y3 v2 (m1 0 16) m1) else (fX8_readRow_J79 k2 x1 y3 v2 v2 m1)
set_option maxHeartbeats 4000000 in
set_option maxRecDepth 100000 in
theorem wX8_readRow_J49 {p : Program} {l : Launch} {e : Env} {s : State} {m : MethodId} {args : Array Value} {below : List Frame} {meth : Method} {c : Code} {A : Nat → Prop} {D : va_G} {ad : Nat → Nat} {cA : Nat → ClassId} (C : Cx p s m args meth c cX8_readRow RX8 4 A dsM D ad cA EM) (hr : meth.sig.returnType = none) (k2 : Int32 → Int32 → Mem → Option (Mem)) (hk2 : ∀ (x1 : Int32) (x2 : Int32) (μ : Mem), T p l e (rmD 3) s m args below meth c 4 A dsM D ad cA enV (k2 x1 x2 μ) 2 [(0, .ref (ad 0)), (1, .int x1), (2, .int x2)] [] μ) (x1 : Int32) (x2 : Int32) (μ : Mem) : T p l e (rmD 3) s m args below meth c 4 A dsM D ad cA enV (fX8_readRow_J49 k2 x1 x2 μ) 49 [(0, .ref (ad 0)), (1, .int x1), (2, .int x2)] [] μ := by
  unfold fX8_readRow_J49
  refine tt_aload_n C 0 dX8_readRow_49 rfl rfl ?_
  refine tt_iconst (v := (0 : Int32)) C dX8_readRow_50 (by decide) ?_
  refine tt_iconst (v := (4 : Int32)) C dX8_readRow_51 (by decide) ?_
  refine tt_bi (fun v2 m1 h1 => ?_)
  refine tt_callV (st := []) (As := [.int (0 : Int32), .int (4 : Int32)]) C (kX8_number C.2.2.2.2.2.2.2.1 h1) mi_X8_number ml_RX8_122 mv_X8_number ms_X8_number (q := (RX8, TX8, 45)) dM_0 rfl rfl (by decide) (by decide) (Nat.le_of_ble_eq_true rfl) dX8_readRow_52 ?_
  refine tt_istore_n (L2 := [(3, .int v2), (0, .ref (ad 0)), (1, .int x1), (2, .int x2)]) C dX8_readRow_55 rfl (by decide) rfl ?_
  refine tt_iload_n C 3 dX8_readRow_56 rfl rfl ?_
  refine tt_iconst (v := (1 : Int32)) C dX8_readRow_57 (by decide) ?_
  refine tt_iload_n C 0 dX8_readRow_58 rfl rfl ?_
  refine tt_ishl C dX8_readRow_59 ?_
  refine tt_ior C dX8_readRow_60 ?_
  refine tt_lbi (fun y3 => ?_)
  refine tt_istore_n (L2 := [(2, .int y3), (3, .int v2), (0, .ref (ad 0)), (1, .int x1)]) C dX8_readRow_61 rfl (by decide) rfl ?_
  refine tt_aload_n C 2 dX8_readRow_62 rfl rfl ?_
  refine tt_iload_n C 1 dX8_readRow_63 rfl rfl ?_
  refine tt_aload_n C 2 dX8_readRow_64 rfl rfl ?_
  refine tt_getI C (j := 16) dM_0 rfl fl_RX8_131 dX8_readRow_65 ?_
  refine tt_if (fun h2 => ?_) (fun h2 => ?_)
  · refine tt_icmp_leT (tgt := 75) C h2 dX8_readRow_68 (by decide) ?_
    refine tt_aload_n C 2 dX8_readRow_75 rfl rfl ?_
    refine tt_getI C (j := 16) dM_0 rfl fl_RX8_131 dX8_readRow_76 ?_
    refine tt_sub [2, 3, 0, 1] (L2 := [(0, .ref (ad 0)), (1, .int x1), (2, .int y3), (3, .int v2)]) rfl ?_
    exact wX8_readRow_J79 C hr k2 hk2 x1 y3 v2 (m1 0 16) m1
  · refine tt_icmp_leF C 75 h2 dX8_readRow_68 (by decide) ?_
    refine tt_iload_n C 1 dX8_readRow_71 rfl rfl ?_
    refine tt_goto (tgt := 79) C dX8_readRow_72 (by decide) ?_
    refine tt_sub [2, 3, 0, 1] (L2 := [(0, .ref (ad 0)), (1, .int x1), (2, .int y3), (3, .int v2)]) rfl ?_
    exact wX8_readRow_J79 C hr k2 hk2 x1 y3 v2 v2 m1

def fX8_readRow_L2 : Nat → Int32 → Int32 → Mem → Option (Mem)
  | 0, _, _, _ => none
  | fu + 1, x1, x2, μ => if (μ 0 20) = (0 : Int32) then (if (μ 0 24) = (2 : Int32) then (bi (fX8_in ((μ 0 25).toInt64) (0 : Int64) (4 : Int64) μ) fun v2 m1 => if v2 = (0 : Int32) then (fX8_readRow_J49 (fun x1 x2 μ => fX8_readRow_L2 fu x1 x2 μ) x1 x2 m1) else (if ((x2 >>> ((m1 0 25) &&& 31)) &&& (1 : Int32)) = (1 : Int32) then (bv (fX8_fails (4 : Int32) m1) fun m3 => fX8_readRow_J49 (fun x1 x2 μ => fX8_readRow_L2 fu x1 x2 μ) x1 x2 m3) else (fX8_readRow_J49 (fun x1 x2 μ => fX8_readRow_L2 fu x1 x2 μ) x1 x2 m1))) else (fX8_readRow_J128 μ)) else (fX8_readRow_J128 μ)
set_option maxHeartbeats 4000000 in
set_option maxRecDepth 100000 in
theorem wX8_readRow_L2 {p : Program} {l : Launch} {e : Env} {s : State} {m : MethodId} {args : Array Value} {below : List Frame} {meth : Method} {c : Code} {A : Nat → Prop} {D : va_G} {ad : Nat → Nat} {cA : Nat → ClassId} (C : Cx p s m args meth c cX8_readRow RX8 4 A dsM D ad cA EM) (hr : meth.sig.returnType = none) : ∀ (fu : Nat) (x1 : Int32) (x2 : Int32) (μ : Mem), T p l e (rmD 3) s m args below meth c 4 A dsM D ad cA enV (fX8_readRow_L2 fu x1 x2 μ) 2 [(0, .ref (ad 0)), (1, .int x1), (2, .int x2)] [] μ
  | 0, _, _, _ => tt_none
  | fu + 1, x1, x2, μ => by
    have ih := fun (x1 : Int32) (x2 : Int32) (μ : Mem) => wX8_readRow_L2 (l := l) (e := e) (below := below) C hr fu x1 x2 μ
    show T p l e (rmD 3) s m args below meth c 4 A dsM D ad cA enV (if (μ 0 20) = (0 : Int32) then (if (μ 0 24) = (2 : Int32) then (bi (fX8_in ((μ 0 25).toInt64) (0 : Int64) (4 : Int64) μ) fun v2 m1 => if v2 = (0 : Int32) then (fX8_readRow_J49 (fun x1 x2 μ => fX8_readRow_L2 fu x1 x2 μ) x1 x2 m1) else (if ((x2 >>> ((m1 0 25) &&& 31)) &&& (1 : Int32)) = (1 : Int32) then (bv (fX8_fails (4 : Int32) m1) fun m3 => fX8_readRow_J49 (fun x1 x2 μ => fX8_readRow_L2 fu x1 x2 μ) x1 x2 m3) else (fX8_readRow_J49 (fun x1 x2 μ => fX8_readRow_L2 fu x1 x2 μ) x1 x2 m1))) else (fX8_readRow_J128 μ)) else (fX8_readRow_J128 μ)) 2 [(0, .ref (ad 0)), (1, .int x1), (2, .int x2)] [] μ
    refine tt_aload_n C 0 dX8_readRow_2 rfl rfl ?_
    refine tt_getI C (j := 20) dM_0 rfl fl_RX8_78 dX8_readRow_3 ?_
    refine tt_if (fun h1 => ?_) (fun h1 => ?_)
    · refine tt_if_neF C 128 h1 dX8_readRow_6 (by decide) ?_
      refine tt_aload_n C 0 dX8_readRow_9 rfl rfl ?_
      refine tt_getI C (j := 24) dM_0 rfl fl_RX8_87 dX8_readRow_10 ?_
      refine tt_iconst (v := (2 : Int32)) C dX8_readRow_13 (by decide) ?_
      refine tt_if (fun h2 => ?_) (fun h2 => ?_)
      · refine tt_icmp_neF C 128 h2 dX8_readRow_14 (by decide) ?_
        refine tt_aload_n C 0 dX8_readRow_17 rfl rfl ?_
        refine tt_getI C (j := 25) dM_0 rfl fl_RX8_97 dX8_readRow_18 ?_
        refine tt_i2l C dX8_readRow_21 ?_
        refine tt_lconst (v := (0 : Int64)) C dX8_readRow_22 (by decide) ?_
        refine tt_ldc2 (v := (4 : Int64)) C kL_RX8_129 dX8_readRow_23 ?_
        refine tt_bi (fun v2 m1 h3 => ?_)
        refine tt_callS (st := []) (As := [.long ((μ 0 25).toInt64), .long (0 : Int64), .long (4 : Int64)]) C (kX8_in C.2.2.2.2.2.2.2.1 h3) mi_X8_in ml_RX8_70 mt_X8_in rfl (by decide) (by decide) (Nat.le_of_ble_eq_true rfl) dX8_readRow_26 ?_
        refine tt_if (fun h4 => ?_) (fun h4 => ?_)
        · refine tt_if_eqT (tgt := 49) C h4 dX8_readRow_29 (by decide) ?_
          refine tt_sub [0, 1, 2] (L2 := [(0, .ref (ad 0)), (1, .int x1), (2, .int x2)]) rfl ?_
          exact wX8_readRow_J49 C hr (fun x1 x2 μ => fX8_readRow_L2 fu x1 x2 μ) (fun x1 x2 μ => ih x1 x2 μ) x1 x2 m1
        · refine tt_if_eqF C 49 h4 dX8_readRow_29 (by decide) ?_
          refine tt_iload_n C 2 dX8_readRow_32 rfl rfl ?_
          refine tt_aload_n C 0 dX8_readRow_33 rfl rfl ?_
          refine tt_getI C (j := 25) dM_0 rfl fl_RX8_97 dX8_readRow_34 ?_
          refine tt_ishr C dX8_readRow_37 ?_
          refine tt_iconst (v := (1 : Int32)) C dX8_readRow_38 (by decide) ?_
          refine tt_iand C dX8_readRow_39 ?_
          refine tt_iconst (v := (1 : Int32)) C dX8_readRow_40 (by decide) ?_
          refine tt_if (fun h5 => ?_) (fun h5 => ?_)
          · refine tt_icmp_neF C 49 h5 dX8_readRow_41 (by decide) ?_
            refine tt_aload_n C 0 dX8_readRow_44 rfl rfl ?_
            refine tt_iconst (v := (4 : Int32)) C dX8_readRow_45 (by decide) ?_
            refine tt_bv (fun m3 h6 => ?_)
            refine tt_callV (st := []) (As := [.int (4 : Int32)]) C (kX8_fails C.2.2.2.2.2.2.2.1 h6) mi_X8_fails ml_RX8_108 mv_X8_fails ms_X8_fails (q := (RX8, TX8, 45)) dM_0 rfl rfl (by decide) (by decide) (Nat.le_of_ble_eq_true rfl) dX8_readRow_46 ?_
            refine tt_sub [0, 1, 2] (L2 := [(0, .ref (ad 0)), (1, .int x1), (2, .int x2)]) rfl ?_
            exact wX8_readRow_J49 C hr (fun x1 x2 μ => fX8_readRow_L2 fu x1 x2 μ) (fun x1 x2 μ => ih x1 x2 μ) x1 x2 m3
          · refine tt_icmp_neT (tgt := 49) C h5 dX8_readRow_41 (by decide) ?_
            refine tt_sub [0, 1, 2] (L2 := [(0, .ref (ad 0)), (1, .int x1), (2, .int x2)]) rfl ?_
            exact wX8_readRow_J49 C hr (fun x1 x2 μ => fX8_readRow_L2 fu x1 x2 μ) (fun x1 x2 μ => ih x1 x2 μ) x1 x2 m1
      · refine tt_icmp_neT (tgt := 128) C h2 dX8_readRow_14 (by decide) ?_
        refine tt_sub [] (L2 := []) rfl ?_
        exact wX8_readRow_J128 C hr μ
    · refine tt_if_neT (tgt := 128) C h1 dX8_readRow_6 (by decide) ?_
      refine tt_sub [] (L2 := []) rfl ?_
      exact wX8_readRow_J128 C hr μ

def fX8_readRow (x1 : Int32) (μ : Mem) : Option (Mem) := lb (0 : Int32) fun (y1 : Int32) => fX8_readRow_L2 FU x1 y1 μ
set_option maxHeartbeats 4000000 in
set_option maxRecDepth 100000 in
theorem wX8_readRow {p : Program} {l : Launch} {e : Env} {s : State} {m : MethodId} {args : Array Value} {below : List Frame} {meth : Method} {c : Code} {A : Nat → Prop} {D : va_G} {ad : Nat → Nat} {cA : Nat → ClassId} (C : Cx p s m args meth c cX8_readRow RX8 4 A dsM D ad cA EM) (hr : meth.sig.returnType = none) (x1 : Int32) (μ : Mem) : T p l e (rmD 3) s m args below meth c 4 A dsM D ad cA enV (fX8_readRow x1 μ) 0 [(0, .ref (ad 0)), (1, .int x1)] [] μ := by
  unfold fX8_readRow
  refine tt_iconst (v := (0 : Int32)) C dX8_readRow_0 (by decide) ?_
  refine tt_lbi (fun y1 => ?_)
  refine tt_istore_n (L2 := [(2, .int y1), (0, .ref (ad 0)), (1, .int x1)]) C dX8_readRow_1 rfl (by decide) rfl ?_
  refine tt_sub [1, 2, 0] (L2 := [(0, .ref (ad 0)), (1, .int x1), (2, .int y1)]) rfl ?_
  exact wX8_readRow_L2 C hr FU x1 y1 μ
theorem kX8_readRow {l : Launch} {A : Nat → Prop} {D : va_G} {ad : Nat → Nat} {cA : Nat → ClassId} (hPk : Pk A dsM ad cA EM) {x1 : Int32} {μ : Mem} {ν : Mem} (h : fX8_readRow x1 μ = some ν) : Ct l A dsM D ad cA EM yX8_readRow cX8_readRow 4 none 3 [.ref (ad 0), .int x1] μ (enV ν) :=
  ct_of (by decide) (Nat.le_of_ble_eq_true rfl) hPk rfl (fun p e s m args below meth c C hr => wX8_readRow C hr x1 μ) h

/-! BasketRoundModel.readMore(I)V -/
def fX8_readMore_J111 (μ : Mem) : Option (Mem) := some μ
set_option maxHeartbeats 4000000 in
set_option maxRecDepth 100000 in
theorem wX8_readMore_J111 {p : Program} {l : Launch} {e : Env} {s : State} {m : MethodId} {args : Array Value} {below : List Frame} {meth : Method} {c : Code} {A : Nat → Prop} {D : va_G} {ad : Nat → Nat} {cA : Nat → ClassId} (C : Cx p s m args meth c cX8_readMore RX8 2 A dsM D ad cA EM) (hr : meth.sig.returnType = none) (μ : Mem) : T p l e (rmD 4) s m args below meth c 2 A dsM D ad cA enV (fX8_readMore_J111 μ) 111 [] [] μ := by
  unfold fX8_readMore_J111
  exact tt_vret rfl C hr dX8_readMore_111

def fX8_readMore (x1 : Int32) (μ : Mem) : Option (Mem) := if (2 : Int32) < x1 then (if x1 = (3 : Int32) then (bv (fX8_readOrder μ) fun m8 => fX8_readMore_J111 m8) else (if x1 = (4 : Int32) then (bi (fX8_number (0 : Int32) (60 : Int32) μ) fun v6 m5 => gr (30 : Int32) 32 <| lb (wr m5 5 (30 : Int32).toNatClampNeg (v6 - (10 : Int32))) fun m7 => fX8_readMore_J111 m7) else (if x1 = (5 : Int32) then (bi (fX8_number (0 : Int32) (60 : Int32) μ) fun v3 m2 => gr (31 : Int32) 32 <| lb (wr m2 5 (31 : Int32).toNatClampNeg v3) fun m4 => fX8_readMore_J111 m4) else (bv (fX8_readRow (x1 - (6 : Int32)) μ) fun m1 => fX8_readMore_J111 m1)))) else (gr (μ 0 10) 6 <| lb (wr μ 7 (μ 0 10).toNatClampNeg x1) fun m9 => bi (fX8_number (1 : Int32) (9 : Int32) m9) fun v11 m10 => gr (m9 0 10) 6 <| lb (wr m10 6 (m9 0 10).toNatClampNeg v11) fun m12 => lb (wr m12 0 10 ((m12 0 10) + (1 : Int32))) fun m13 => fX8_readMore_J111 m13)
set_option maxHeartbeats 4000000 in
set_option maxRecDepth 100000 in
theorem wX8_readMore {p : Program} {l : Launch} {e : Env} {s : State} {m : MethodId} {args : Array Value} {below : List Frame} {meth : Method} {c : Code} {A : Nat → Prop} {D : va_G} {ad : Nat → Nat} {cA : Nat → ClassId} (C : Cx p s m args meth c cX8_readMore RX8 2 A dsM D ad cA EM) (hr : meth.sig.returnType = none) (x1 : Int32) (μ : Mem) : T p l e (rmD 4) s m args below meth c 2 A dsM D ad cA enV (fX8_readMore x1 μ) 0 [(0, .ref (ad 0)), (1, .int x1)] [] μ := by
  unfold fX8_readMore
  refine tt_iload_n C 1 dX8_readMore_0 rfl rfl ?_
  refine tt_iconst (v := (2 : Int32)) C dX8_readMore_1 (by decide) ?_
  refine tt_if (fun h1 => ?_) (fun h1 => ?_)
  · refine tt_icmp_gtT (tgt := 44) C h1 dX8_readMore_2 (by decide) ?_
    refine tt_iload_n C 1 dX8_readMore_44 rfl rfl ?_
    refine tt_iconst (v := (3 : Int32)) C dX8_readMore_45 (by decide) ?_
    refine tt_if (fun h2 => ?_) (fun h2 => ?_)
    · refine tt_icmp_neF C 56 h2 dX8_readMore_46 (by decide) ?_
      refine tt_aload_n C 0 dX8_readMore_49 rfl rfl ?_
      refine tt_bv (fun m8 h10 => ?_)
      refine tt_callV (st := []) (As := []) C (kX8_readOrder C.2.2.2.2.2.2.2.1 h10) mi_X8_readOrder ml_RX8_137 mv_X8_readOrder ms_X8_readOrder (q := (RX8, TX8, 45)) dM_0 rfl rfl (by decide) (by decide) (Nat.le_of_ble_eq_true rfl) dX8_readMore_50 ?_
      refine tt_goto (tgt := 111) C dX8_readMore_53 (by decide) ?_
      refine tt_sub [] (L2 := []) rfl ?_
      exact wX8_readMore_J111 C hr m8
    · refine tt_icmp_neT (tgt := 56) C h2 dX8_readMore_46 (by decide) ?_
      refine tt_iload_n C 1 dX8_readMore_56 rfl rfl ?_
      refine tt_iconst (v := (4 : Int32)) C dX8_readMore_57 (by decide) ?_
      refine tt_if (fun h3 => ?_) (fun h3 => ?_)
      · refine tt_icmp_neF C 81 h3 dX8_readMore_58 (by decide) ?_
        refine tt_aload_n C 0 dX8_readMore_61 rfl rfl ?_
        refine tt_getR C (j := 6) (r0 := 5) dM_0 rfl fl_RX8_22 dX8_readMore_62 ?_
        refine tt_bipush (v := (30 : Int32)) C dX8_readMore_65 (by decide) ?_
        refine tt_aload_n C 0 dX8_readMore_67 rfl rfl ?_
        refine tt_iconst (v := (0 : Int32)) C dX8_readMore_68 (by decide) ?_
        refine tt_bipush (v := (60 : Int32)) C dX8_readMore_69 (by decide) ?_
        refine tt_bi (fun v6 m5 h8 => ?_)
        refine tt_callV (st := [.int (30 : Int32), .ref (ad 5)]) (As := [.int (0 : Int32), .int (60 : Int32)]) C (kX8_number C.2.2.2.2.2.2.2.1 h8) mi_X8_number ml_RX8_122 mv_X8_number ms_X8_number (q := (RX8, TX8, 45)) dM_0 rfl rfl (by decide) (by decide) (Nat.le_of_ble_eq_true rfl) dX8_readMore_71 ?_
        refine tt_bipush (v := (10 : Int32)) C dX8_readMore_74 (by decide) ?_
        refine tt_isub C dX8_readMore_76 ?_
        refine tt_gr (fun h9 => ?_)
        refine tt_iast C dM_5 h9 dX8_readMore_77 ?_
        refine tt_lbm (fun m7 => ?_)
        refine tt_goto (tgt := 111) C dX8_readMore_78 (by decide) ?_
        refine tt_sub [] (L2 := []) rfl ?_
        exact wX8_readMore_J111 C hr m7
      · refine tt_icmp_neT (tgt := 81) C h3 dX8_readMore_58 (by decide) ?_
        refine tt_iload_n C 1 dX8_readMore_81 rfl rfl ?_
        refine tt_iconst (v := (5 : Int32)) C dX8_readMore_82 (by decide) ?_
        refine tt_if (fun h4 => ?_) (fun h4 => ?_)
        · refine tt_icmp_neF C 103 h4 dX8_readMore_83 (by decide) ?_
          refine tt_aload_n C 0 dX8_readMore_86 rfl rfl ?_
          refine tt_getR C (j := 6) (r0 := 5) dM_0 rfl fl_RX8_22 dX8_readMore_87 ?_
          refine tt_bipush (v := (31 : Int32)) C dX8_readMore_90 (by decide) ?_
          refine tt_aload_n C 0 dX8_readMore_92 rfl rfl ?_
          refine tt_iconst (v := (0 : Int32)) C dX8_readMore_93 (by decide) ?_
          refine tt_bipush (v := (60 : Int32)) C dX8_readMore_94 (by decide) ?_
          refine tt_bi (fun v3 m2 h6 => ?_)
          refine tt_callV (st := [.int (31 : Int32), .ref (ad 5)]) (As := [.int (0 : Int32), .int (60 : Int32)]) C (kX8_number C.2.2.2.2.2.2.2.1 h6) mi_X8_number ml_RX8_122 mv_X8_number ms_X8_number (q := (RX8, TX8, 45)) dM_0 rfl rfl (by decide) (by decide) (Nat.le_of_ble_eq_true rfl) dX8_readMore_96 ?_
          refine tt_gr (fun h7 => ?_)
          refine tt_iast C dM_5 h7 dX8_readMore_99 ?_
          refine tt_lbm (fun m4 => ?_)
          refine tt_goto (tgt := 111) C dX8_readMore_100 (by decide) ?_
          refine tt_sub [] (L2 := []) rfl ?_
          exact wX8_readMore_J111 C hr m4
        · refine tt_icmp_neT (tgt := 103) C h4 dX8_readMore_83 (by decide) ?_
          refine tt_aload_n C 0 dX8_readMore_103 rfl rfl ?_
          refine tt_iload_n C 1 dX8_readMore_104 rfl rfl ?_
          refine tt_bipush (v := (6 : Int32)) C dX8_readMore_105 (by decide) ?_
          refine tt_isub C dX8_readMore_107 ?_
          refine tt_bv (fun m1 h5 => ?_)
          refine tt_callV (st := []) (As := [.int (x1 - (6 : Int32))]) C (kX8_readRow C.2.2.2.2.2.2.2.1 h5) mi_X8_readRow ml_RX8_140 mv_X8_readRow ms_X8_readRow (q := (RX8, TX8, 45)) dM_0 rfl rfl (by decide) (by decide) (Nat.le_of_ble_eq_true rfl) dX8_readMore_108 ?_
          refine tt_sub [] (L2 := []) rfl ?_
          exact wX8_readMore_J111 C hr m1
  · refine tt_icmp_gtF C 44 h1 dX8_readMore_2 (by decide) ?_
    refine tt_aload_n C 0 dX8_readMore_5 rfl rfl ?_
    refine tt_getR C (j := 8) (r0 := 7) dM_0 rfl fl_RX8_28 dX8_readMore_6 ?_
    refine tt_aload_n C 0 dX8_readMore_9 rfl rfl ?_
    refine tt_getI C (j := 10) dM_0 rfl fl_RX8_134 dX8_readMore_10 ?_
    refine tt_iload_n C 1 dX8_readMore_13 rfl rfl ?_
    refine tt_gr (fun h11 => ?_)
    refine tt_iast C dM_7 h11 dX8_readMore_14 ?_
    refine tt_lbm (fun m9 => ?_)
    refine tt_aload_n C 0 dX8_readMore_15 rfl rfl ?_
    refine tt_getR C (j := 7) (r0 := 6) dM_0 rfl fl_RX8_25 dX8_readMore_16 ?_
    refine tt_aload_n C 0 dX8_readMore_19 rfl rfl ?_
    refine tt_getI C (j := 10) dM_0 rfl fl_RX8_134 dX8_readMore_20 ?_
    refine tt_aload_n C 0 dX8_readMore_23 rfl rfl ?_
    refine tt_iconst (v := (1 : Int32)) C dX8_readMore_24 (by decide) ?_
    refine tt_bipush (v := (9 : Int32)) C dX8_readMore_25 (by decide) ?_
    refine tt_bi (fun v11 m10 h12 => ?_)
    refine tt_callV (st := [.int (m9 0 10), .ref (ad 6)]) (As := [.int (1 : Int32), .int (9 : Int32)]) C (kX8_number C.2.2.2.2.2.2.2.1 h12) mi_X8_number ml_RX8_122 mv_X8_number ms_X8_number (q := (RX8, TX8, 45)) dM_0 rfl rfl (by decide) (by decide) (Nat.le_of_ble_eq_true rfl) dX8_readMore_27 ?_
    refine tt_gr (fun h13 => ?_)
    refine tt_iast C dM_6 h13 dX8_readMore_30 ?_
    refine tt_lbm (fun m12 => ?_)
    refine tt_aload_n C 0 dX8_readMore_31 rfl rfl ?_
    refine tt_dup C dX8_readMore_32 rfl ?_
    refine tt_getI C (j := 10) dM_0 rfl fl_RX8_134 dX8_readMore_33 ?_
    refine tt_iconst (v := (1 : Int32)) C dX8_readMore_36 (by decide) ?_
    refine tt_iadd C dX8_readMore_37 ?_
    refine tt_putI C (j := 10) dM_0 rfl fl_RX8_134 fw_8_10 dX8_readMore_38 ?_
    refine tt_lbm (fun m13 => ?_)
    refine tt_goto (tgt := 111) C dX8_readMore_41 (by decide) ?_
    refine tt_sub [] (L2 := []) rfl ?_
    exact wX8_readMore_J111 C hr m13
theorem kX8_readMore {l : Launch} {A : Nat → Prop} {D : va_G} {ad : Nat → Nat} {cA : Nat → ClassId} (hPk : Pk A dsM ad cA EM) {x1 : Int32} {μ : Mem} {ν : Mem} (h : fX8_readMore x1 μ = some ν) : Ct l A dsM D ad cA EM yX8_readMore cX8_readMore 2 none 4 [.ref (ad 0), .int x1] μ (enV ν) :=
  ct_of (by decide) (Nat.le_of_ble_eq_true rfl) hPk rfl (fun p e s m args below meth c C hr => wX8_readMore C hr x1 μ) h

/-! BasketRoundModel.readLine()V -/
def fX8_readLine_J126 (μ : Mem) : Option (Mem) := bv (fX8_step μ) fun m1 => some m1
set_option maxHeartbeats 4000000 in
set_option maxRecDepth 100000 in
theorem wX8_readLine_J126 {p : Program} {l : Launch} {e : Env} {s : State} {m : MethodId} {args : Array Value} {below : List Frame} {meth : Method} {c : Code} {A : Nat → Prop} {D : va_G} {ad : Nat → Nat} {cA : Nat → ClassId} (C : Cx p s m args meth c cX8_readLine RX8 2 A dsM D ad cA EM) (hr : meth.sig.returnType = none) (μ : Mem) : T p l e (rmD 5) s m args below meth c 2 A dsM D ad cA enV (fX8_readLine_J126 μ) 126 [(0, .ref (ad 0))] [] μ := by
  unfold fX8_readLine_J126
  refine tt_aload_n C 0 dX8_readLine_126 rfl rfl ?_
  refine tt_bv (fun m1 h1 => ?_)
  refine tt_callV (st := []) (As := []) C (kX8_step C.2.2.2.2.2.2.2.1 h1) mi_X8_step ml_RX8_112 mv_X8_step ms_X8_step (q := (RX8, TX8, 45)) dM_0 rfl rfl (by decide) (by decide) (Nat.le_of_ble_eq_true rfl) dX8_readLine_127 ?_
  exact tt_vret rfl C hr dX8_readLine_130

def fX8_readLine_J77 (x1 : Int32) (μ : Mem) : Option (Mem) := lb (wr μ 0 12 ((μ 0 12) ||| ((1 : Int32) <<< (x1 &&& 31)))) fun m1 => bv (fX8_step m1) fun m2 => if (m2 0 20) ≤ (0 : Int32) then (bv (fX8_readMore x1 m2) fun m3 => if (m3 0 20) = (0 : Int32) then (if (m3 0 24) = (3 : Int32) then (fX8_readLine_J126 m3) else (bv (fX8_fails (2 : Int32) m3) fun m4 => fX8_readLine_J126 m4)) else (fX8_readLine_J126 m3)) else (some m2)
set_option maxHeartbeats 4000000 in
set_option maxRecDepth 100000 in
theorem wX8_readLine_J77 {p : Program} {l : Launch} {e : Env} {s : State} {m : MethodId} {args : Array Value} {below : List Frame} {meth : Method} {c : Code} {A : Nat → Prop} {D : va_G} {ad : Nat → Nat} {cA : Nat → ClassId} (C : Cx p s m args meth c cX8_readLine RX8 2 A dsM D ad cA EM) (hr : meth.sig.returnType = none) (x1 : Int32) (μ : Mem) : T p l e (rmD 5) s m args below meth c 2 A dsM D ad cA enV (fX8_readLine_J77 x1 μ) 77 [(0, .ref (ad 0)), (1, .int x1)] [] μ := by
  unfold fX8_readLine_J77
  refine tt_aload_n C 0 dX8_readLine_77 rfl rfl ?_
  refine tt_dup C dX8_readLine_78 rfl ?_
  refine tt_getI C (j := 12) dM_0 rfl fl_RX8_145 dX8_readLine_79 ?_
  refine tt_iconst (v := (1 : Int32)) C dX8_readLine_82 (by decide) ?_
  refine tt_iload_n C 1 dX8_readLine_83 rfl rfl ?_
  refine tt_ishl C dX8_readLine_84 ?_
  refine tt_ior C dX8_readLine_85 ?_
  refine tt_putI C (j := 12) dM_0 rfl fl_RX8_145 fw_8_12 dX8_readLine_86 ?_
  refine tt_lbm (fun m1 => ?_)
  refine tt_aload_n C 0 dX8_readLine_89 rfl rfl ?_
  refine tt_bv (fun m2 h1 => ?_)
  refine tt_callV (st := []) (As := []) C (kX8_step C.2.2.2.2.2.2.2.1 h1) mi_X8_step ml_RX8_112 mv_X8_step ms_X8_step (q := (RX8, TX8, 45)) dM_0 rfl rfl (by decide) (by decide) (Nat.le_of_ble_eq_true rfl) dX8_readLine_90 ?_
  refine tt_aload_n C 0 dX8_readLine_93 rfl rfl ?_
  refine tt_getI C (j := 20) dM_0 rfl fl_RX8_78 dX8_readLine_94 ?_
  refine tt_if (fun h2 => ?_) (fun h2 => ?_)
  · refine tt_if_leT (tgt := 101) C h2 dX8_readLine_97 (by decide) ?_
    refine tt_aload_n C 0 dX8_readLine_101 rfl rfl ?_
    refine tt_iload_n C 1 dX8_readLine_102 rfl rfl ?_
    refine tt_bv (fun m3 h3 => ?_)
    refine tt_callV (st := []) (As := [.int x1]) C (kX8_readMore C.2.2.2.2.2.2.2.1 h3) mi_X8_readMore ml_RX8_148 mv_X8_readMore ms_X8_readMore (q := (RX8, TX8, 45)) dM_0 rfl rfl (by decide) (by decide) (Nat.le_of_ble_eq_true rfl) dX8_readLine_103 ?_
    refine tt_aload_n C 0 dX8_readLine_106 rfl rfl ?_
    refine tt_getI C (j := 20) dM_0 rfl fl_RX8_78 dX8_readLine_107 ?_
    refine tt_if (fun h4 => ?_) (fun h4 => ?_)
    · refine tt_if_neF C 126 h4 dX8_readLine_110 (by decide) ?_
      refine tt_aload_n C 0 dX8_readLine_113 rfl rfl ?_
      refine tt_getI C (j := 24) dM_0 rfl fl_RX8_87 dX8_readLine_114 ?_
      refine tt_iconst (v := (3 : Int32)) C dX8_readLine_117 (by decide) ?_
      refine tt_if (fun h5 => ?_) (fun h5 => ?_)
      · refine tt_icmp_eqT (tgt := 126) C h5 dX8_readLine_118 (by decide) ?_
        refine tt_sub [0] (L2 := [(0, .ref (ad 0))]) rfl ?_
        exact wX8_readLine_J126 C hr m3
      · refine tt_icmp_eqF C 126 h5 dX8_readLine_118 (by decide) ?_
        refine tt_aload_n C 0 dX8_readLine_121 rfl rfl ?_
        refine tt_iconst (v := (2 : Int32)) C dX8_readLine_122 (by decide) ?_
        refine tt_bv (fun m4 h6 => ?_)
        refine tt_callV (st := []) (As := [.int (2 : Int32)]) C (kX8_fails C.2.2.2.2.2.2.2.1 h6) mi_X8_fails ml_RX8_108 mv_X8_fails ms_X8_fails (q := (RX8, TX8, 45)) dM_0 rfl rfl (by decide) (by decide) (Nat.le_of_ble_eq_true rfl) dX8_readLine_123 ?_
        refine tt_sub [0] (L2 := [(0, .ref (ad 0))]) rfl ?_
        exact wX8_readLine_J126 C hr m4
    · refine tt_if_neT (tgt := 126) C h4 dX8_readLine_110 (by decide) ?_
      refine tt_sub [0] (L2 := [(0, .ref (ad 0))]) rfl ?_
      exact wX8_readLine_J126 C hr m3
  · refine tt_if_leF C 101 h2 dX8_readLine_97 (by decide) ?_
    exact tt_vret rfl C hr dX8_readLine_100

def fX8_readLine_J55 (x1 : Int32) (μ : Mem) : Option (Mem) := if x1 < (4 : Int32) then (fX8_readLine_J77 x1 μ) else (if (((μ 0 12) >>> (x1 &&& 31)) &&& (1 : Int32)) = (1 : Int32) then (bv (fX8_fails (4 : Int32) μ) fun m1 => fX8_readLine_J77 x1 m1) else (fX8_readLine_J77 x1 μ))
set_option maxHeartbeats 4000000 in
set_option maxRecDepth 100000 in
theorem wX8_readLine_J55 {p : Program} {l : Launch} {e : Env} {s : State} {m : MethodId} {args : Array Value} {below : List Frame} {meth : Method} {c : Code} {A : Nat → Prop} {D : va_G} {ad : Nat → Nat} {cA : Nat → ClassId} (C : Cx p s m args meth c cX8_readLine RX8 2 A dsM D ad cA EM) (hr : meth.sig.returnType = none) (x1 : Int32) (μ : Mem) : T p l e (rmD 5) s m args below meth c 2 A dsM D ad cA enV (fX8_readLine_J55 x1 μ) 55 [(0, .ref (ad 0)), (1, .int x1)] [] μ := by
  unfold fX8_readLine_J55
  refine tt_iload_n C 1 dX8_readLine_55 rfl rfl ?_
  refine tt_iconst (v := (4 : Int32)) C dX8_readLine_56 (by decide) ?_
  refine tt_if (fun h1 => ?_) (fun h1 => ?_)
  · refine tt_icmp_ltT (tgt := 77) C h1 dX8_readLine_57 (by decide) ?_
    refine tt_sub [0, 1] (L2 := [(0, .ref (ad 0)), (1, .int x1)]) rfl ?_
    exact wX8_readLine_J77 C hr x1 μ
  · refine tt_icmp_ltF C 77 h1 dX8_readLine_57 (by decide) ?_
    refine tt_aload_n C 0 dX8_readLine_60 rfl rfl ?_
    refine tt_getI C (j := 12) dM_0 rfl fl_RX8_145 dX8_readLine_61 ?_
    refine tt_iload_n C 1 dX8_readLine_64 rfl rfl ?_
    refine tt_ishr C dX8_readLine_65 ?_
    refine tt_iconst (v := (1 : Int32)) C dX8_readLine_66 (by decide) ?_
    refine tt_iand C dX8_readLine_67 ?_
    refine tt_iconst (v := (1 : Int32)) C dX8_readLine_68 (by decide) ?_
    refine tt_if (fun h2 => ?_) (fun h2 => ?_)
    · refine tt_icmp_neF C 77 h2 dX8_readLine_69 (by decide) ?_
      refine tt_aload_n C 0 dX8_readLine_72 rfl rfl ?_
      refine tt_iconst (v := (4 : Int32)) C dX8_readLine_73 (by decide) ?_
      refine tt_bv (fun m1 h3 => ?_)
      refine tt_callV (st := []) (As := [.int (4 : Int32)]) C (kX8_fails C.2.2.2.2.2.2.2.1 h3) mi_X8_fails ml_RX8_108 mv_X8_fails ms_X8_fails (q := (RX8, TX8, 45)) dM_0 rfl rfl (by decide) (by decide) (Nat.le_of_ble_eq_true rfl) dX8_readLine_74 ?_
      refine tt_sub [0, 1] (L2 := [(0, .ref (ad 0)), (1, .int x1)]) rfl ?_
      exact wX8_readLine_J77 C hr x1 m1
    · refine tt_icmp_neT (tgt := 77) C h2 dX8_readLine_69 (by decide) ?_
      refine tt_sub [0, 1] (L2 := [(0, .ref (ad 0)), (1, .int x1)]) rfl ?_
      exact wX8_readLine_J77 C hr x1 μ

def fX8_readLine_J50 (x1 : Int32) (μ : Mem) : Option (Mem) := bv (fX8_fails (5 : Int32) μ) fun m1 => fX8_readLine_J55 x1 m1
set_option maxHeartbeats 4000000 in
set_option maxRecDepth 100000 in
theorem wX8_readLine_J50 {p : Program} {l : Launch} {e : Env} {s : State} {m : MethodId} {args : Array Value} {below : List Frame} {meth : Method} {c : Code} {A : Nat → Prop} {D : va_G} {ad : Nat → Nat} {cA : Nat → ClassId} (C : Cx p s m args meth c cX8_readLine RX8 2 A dsM D ad cA EM) (hr : meth.sig.returnType = none) (x1 : Int32) (μ : Mem) : T p l e (rmD 5) s m args below meth c 2 A dsM D ad cA enV (fX8_readLine_J50 x1 μ) 50 [(0, .ref (ad 0)), (1, .int x1)] [] μ := by
  unfold fX8_readLine_J50
  refine tt_aload_n C 0 dX8_readLine_50 rfl rfl ?_
  refine tt_iconst (v := (5 : Int32)) C dX8_readLine_51 (by decide) ?_
  refine tt_bv (fun m1 h1 => ?_)
  refine tt_callV (st := []) (As := [.int (5 : Int32)]) C (kX8_fails C.2.2.2.2.2.2.2.1 h1) mi_X8_fails ml_RX8_108 mv_X8_fails ms_X8_fails (q := (RX8, TX8, 45)) dM_0 rfl rfl (by decide) (by decide) (Nat.le_of_ble_eq_true rfl) dX8_readLine_52 ?_
  refine tt_sub [0, 1] (L2 := [(0, .ref (ad 0)), (1, .int x1)]) rfl ?_
  exact wX8_readLine_J55 C hr x1 m1

def fX8_readLine_J37 (x1 : Int32) (μ : Mem) : Option (Mem) := if x1 = (3 : Int32) then (if (μ 0 11) = (5 : Int32) then (fX8_readLine_J50 x1 μ) else (fX8_readLine_J55 x1 μ)) else (fX8_readLine_J55 x1 μ)
set_option maxHeartbeats 4000000 in
set_option maxRecDepth 100000 in
theorem wX8_readLine_J37 {p : Program} {l : Launch} {e : Env} {s : State} {m : MethodId} {args : Array Value} {below : List Frame} {meth : Method} {c : Code} {A : Nat → Prop} {D : va_G} {ad : Nat → Nat} {cA : Nat → ClassId} (C : Cx p s m args meth c cX8_readLine RX8 2 A dsM D ad cA EM) (hr : meth.sig.returnType = none) (x1 : Int32) (μ : Mem) : T p l e (rmD 5) s m args below meth c 2 A dsM D ad cA enV (fX8_readLine_J37 x1 μ) 37 [(0, .ref (ad 0)), (1, .int x1)] [] μ := by
  unfold fX8_readLine_J37
  refine tt_iload_n C 1 dX8_readLine_37 rfl rfl ?_
  refine tt_iconst (v := (3 : Int32)) C dX8_readLine_38 (by decide) ?_
  refine tt_if (fun h1 => ?_) (fun h1 => ?_)
  · refine tt_icmp_neF C 55 h1 dX8_readLine_39 (by decide) ?_
    refine tt_aload_n C 0 dX8_readLine_42 rfl rfl ?_
    refine tt_getI C (j := 11) dM_0 rfl fl_RX8_119 dX8_readLine_43 ?_
    refine tt_iconst (v := (5 : Int32)) C dX8_readLine_46 (by decide) ?_
    refine tt_if (fun h2 => ?_) (fun h2 => ?_)
    · refine tt_icmp_neF C 55 h2 dX8_readLine_47 (by decide) ?_
      refine tt_sub [0, 1] (L2 := [(0, .ref (ad 0)), (1, .int x1)]) rfl ?_
      exact wX8_readLine_J50 C hr x1 μ
    · refine tt_icmp_neT (tgt := 55) C h2 dX8_readLine_47 (by decide) ?_
      refine tt_sub [0, 1] (L2 := [(0, .ref (ad 0)), (1, .int x1)]) rfl ?_
      exact wX8_readLine_J55 C hr x1 μ
  · refine tt_icmp_neT (tgt := 55) C h1 dX8_readLine_39 (by decide) ?_
    refine tt_sub [0, 1] (L2 := [(0, .ref (ad 0)), (1, .int x1)]) rfl ?_
    exact wX8_readLine_J55 C hr x1 μ

def fX8_readLine (μ : Mem) : Option (Mem) := bi (fX8_nameHere μ) fun v2 m1 => bi (fX8_in v2.toInt64 (0 : Int64) (7 : Int64) m1) fun v4 m3 => if v4 = (0 : Int32) then (bv (fX8_fails (2 : Int32) m3) fun m5 => some m5) else (if (2 : Int32) < v2 then (fX8_readLine_J37 v2 m3) else (if (m3 0 10) = (6 : Int32) then (fX8_readLine_J50 v2 m3) else (fX8_readLine_J37 v2 m3)))
set_option maxHeartbeats 4000000 in
set_option maxRecDepth 100000 in
theorem wX8_readLine {p : Program} {l : Launch} {e : Env} {s : State} {m : MethodId} {args : Array Value} {below : List Frame} {meth : Method} {c : Code} {A : Nat → Prop} {D : va_G} {ad : Nat → Nat} {cA : Nat → ClassId} (C : Cx p s m args meth c cX8_readLine RX8 2 A dsM D ad cA EM) (hr : meth.sig.returnType = none) (μ : Mem) : T p l e (rmD 5) s m args below meth c 2 A dsM D ad cA enV (fX8_readLine μ) 0 [(0, .ref (ad 0))] [] μ := by
  unfold fX8_readLine
  refine tt_aload_n C 0 dX8_readLine_0 rfl rfl ?_
  refine tt_bi (fun v2 m1 h1 => ?_)
  refine tt_callV (st := []) (As := []) C (kX8_nameHere C.2.2.2.2.2.2.2.1 h1) mi_X8_nameHere ml_RX8_115 mv_X8_nameHere ms_X8_nameHere (q := (RX8, TX8, 45)) dM_0 rfl rfl (by decide) (by decide) (Nat.le_of_ble_eq_true rfl) dX8_readLine_1 ?_
  refine tt_istore_n (L2 := [(1, .int v2), (0, .ref (ad 0))]) C dX8_readLine_4 rfl (by decide) rfl ?_
  refine tt_iload_n C 0 dX8_readLine_5 rfl rfl ?_
  refine tt_i2l C dX8_readLine_6 ?_
  refine tt_lconst (v := (0 : Int64)) C dX8_readLine_7 (by decide) ?_
  refine tt_ldc2 (v := (7 : Int64)) C kL_RX8_143 dX8_readLine_8 ?_
  refine tt_bi (fun v4 m3 h2 => ?_)
  refine tt_callS (st := []) (As := [.long v2.toInt64, .long (0 : Int64), .long (7 : Int64)]) C (kX8_in C.2.2.2.2.2.2.2.1 h2) mi_X8_in ml_RX8_70 mt_X8_in rfl (by decide) (by decide) (Nat.le_of_ble_eq_true rfl) dX8_readLine_11 ?_
  refine tt_if (fun h3 => ?_) (fun h3 => ?_)
  · refine tt_if_neF C 23 h3 dX8_readLine_14 (by decide) ?_
    refine tt_aload_n C 1 dX8_readLine_17 rfl rfl ?_
    refine tt_iconst (v := (2 : Int32)) C dX8_readLine_18 (by decide) ?_
    refine tt_bv (fun m5 h6 => ?_)
    refine tt_callV (st := []) (As := [.int (2 : Int32)]) C (kX8_fails C.2.2.2.2.2.2.2.1 h6) mi_X8_fails ml_RX8_108 mv_X8_fails ms_X8_fails (q := (RX8, TX8, 45)) dM_0 rfl rfl (by decide) (by decide) (Nat.le_of_ble_eq_true rfl) dX8_readLine_19 ?_
    exact tt_vret rfl C hr dX8_readLine_22
  · refine tt_if_neT (tgt := 23) C h3 dX8_readLine_14 (by decide) ?_
    refine tt_iload_n C 0 dX8_readLine_23 rfl rfl ?_
    refine tt_iconst (v := (2 : Int32)) C dX8_readLine_24 (by decide) ?_
    refine tt_if (fun h4 => ?_) (fun h4 => ?_)
    · refine tt_icmp_gtT (tgt := 37) C h4 dX8_readLine_25 (by decide) ?_
      refine tt_sub [1, 0] (L2 := [(0, .ref (ad 0)), (1, .int v2)]) rfl ?_
      exact wX8_readLine_J37 C hr v2 m3
    · refine tt_icmp_gtF C 37 h4 dX8_readLine_25 (by decide) ?_
      refine tt_aload_n C 1 dX8_readLine_28 rfl rfl ?_
      refine tt_getI C (j := 10) dM_0 rfl fl_RX8_134 dX8_readLine_29 ?_
      refine tt_bipush (v := (6 : Int32)) C dX8_readLine_32 (by decide) ?_
      refine tt_if (fun h5 => ?_) (fun h5 => ?_)
      · refine tt_icmp_eqT (tgt := 50) C h5 dX8_readLine_34 (by decide) ?_
        refine tt_sub [1, 0] (L2 := [(0, .ref (ad 0)), (1, .int v2)]) rfl ?_
        exact wX8_readLine_J50 C hr v2 m3
      · refine tt_icmp_eqF C 50 h5 dX8_readLine_34 (by decide) ?_
        refine tt_sub [1, 0] (L2 := [(0, .ref (ad 0)), (1, .int v2)]) rfl ?_
        exact wX8_readLine_J37 C hr v2 m3
theorem kX8_readLine {l : Launch} {A : Nat → Prop} {D : va_G} {ad : Nat → Nat} {cA : Nat → ClassId} (hPk : Pk A dsM ad cA EM) {μ : Mem} {ν : Mem} (h : fX8_readLine μ = some ν) : Ct l A dsM D ad cA EM yX8_readLine cX8_readLine 2 none 5 [.ref (ad 0)] μ (enV ν) :=
  ct_of (by decide) (Nat.le_of_ble_eq_true rfl) hPk rfl (fun p e s m args below meth c C hr => wX8_readLine C hr μ) h

/-! BasketRoundModel.rule(I)I -/
def fX8_rule (x1 : Int32) (μ : Mem) : Option (Int32 × Mem) := if x1 = (0 : Int32) then (some ((μ 0 3), μ)) else (if x1 = (1 : Int32) then (some ((μ 0 5), μ)) else (if x1 = (2 : Int32) then (bi (fX8_push μ) fun v2 m1 => some (v2, m1)) else (if x1 = (3 : Int32) then (gr (31 : Int32) 160 <| some ((μ 1 (31 : Int32).toNatClampNeg), μ)) else (if x1 = (4 : Int32) then (bi (fX8_codeOf (20 : Int32) μ) fun v4 m3 => some (v4, m3)) else (if x1 = (5 : Int32) then (bi (fX8_codeOf (25 : Int32) μ) fun v6 m5 => some (v6, m5)) else (if x1 = (6 : Int32) then (bi (fX8_weightOf (((1 : Int32) <<< ((μ 0 5) &&& 31)) - (1 : Int32)) μ) fun v8 m7 => some (v8, m7)) else (some ((-1 : Int32), μ))))))))
set_option maxHeartbeats 4000000 in
set_option maxRecDepth 100000 in
theorem wX8_rule {p : Program} {l : Launch} {e : Env} {s : State} {m : MethodId} {args : Array Value} {below : List Frame} {meth : Method} {c : Code} {A : Nat → Prop} {D : va_G} {ad : Nat → Nat} {cA : Nat → ClassId} (C : Cx p s m args meth c cX8_rule RX8 2 A dsM D ad cA EM) (hr : meth.sig.returnType = some .int) (x1 : Int32) (μ : Mem) : T p l e (rmD 2) s m args below meth c 2 A dsM D ad cA enI (fX8_rule x1 μ) 0 [(0, .ref (ad 0)), (1, .int x1)] [] μ := by
  unfold fX8_rule
  refine tt_iload_n C 1 dX8_rule_0 rfl rfl ?_
  refine tt_if (fun h1 => ?_) (fun h1 => ?_)
  · refine tt_tabIn (y1 := (0 : Int32)) (a := 0) (off := 43) (tgt := 44) C h1 (by decide) (by decide) (by decide) dX8_rule_1 (by decide) (by decide) ?_
    refine tt_aload_n C 0 dX8_rule_44 rfl rfl ?_
    refine tt_getI C (j := 3) dM_0 rfl fl_RX8_164 dX8_rule_45 ?_
    exact tt_iret rfl C hr dX8_rule_48
  · skip
    refine tt_if (fun h2 => ?_) (fun h2 => ?_)
    · refine tt_tabIn (y1 := (1 : Int32)) (a := 1) (off := 48) (tgt := 49) C h2 (by decide) (by decide) (by decide) dX8_rule_1 (by decide) (by decide) ?_
      refine tt_aload_n C 0 dX8_rule_49 rfl rfl ?_
      refine tt_getI C (j := 5) dM_0 rfl fl_RX8_167 dX8_rule_50 ?_
      exact tt_iret rfl C hr dX8_rule_53
    · skip
      refine tt_if (fun h3 => ?_) (fun h3 => ?_)
      · refine tt_tabIn (y1 := (2 : Int32)) (a := 2) (off := 53) (tgt := 54) C h3 (by decide) (by decide) (by decide) dX8_rule_1 (by decide) (by decide) ?_
        refine tt_aload_n C 0 dX8_rule_54 rfl rfl ?_
        refine tt_bi (fun v2 m1 h4 => ?_)
        refine tt_callV (st := []) (As := []) C (kX8_push C.2.2.2.2.2.2.2.1 h4) mi_X8_push ml_RX8_176 mv_X8_push ms_X8_push (q := (RX8, TX8, 45)) dM_0 rfl rfl (by decide) (by decide) (Nat.le_of_ble_eq_true rfl) dX8_rule_55 ?_
        exact tt_iret rfl C hr dX8_rule_58
      · skip
        refine tt_if (fun h5 => ?_) (fun h5 => ?_)
        · refine tt_tabIn (y1 := (3 : Int32)) (a := 3) (off := 58) (tgt := 59) C h5 (by decide) (by decide) (by decide) dX8_rule_1 (by decide) (by decide) ?_
          refine tt_aload_n C 0 dX8_rule_59 rfl rfl ?_
          refine tt_getR C (j := 0) (r0 := 1) dM_0 rfl fl_RX8_7 dX8_rule_60 ?_
          refine tt_bipush (v := (31 : Int32)) C dX8_rule_63 (by decide) ?_
          refine tt_gr (fun h6 => ?_)
          refine tt_iald C dM_1 h6 dX8_rule_65 ?_
          exact tt_iret rfl C hr dX8_rule_66
        · skip
          refine tt_if (fun h7 => ?_) (fun h7 => ?_)
          · refine tt_tabIn (y1 := (4 : Int32)) (a := 4) (off := 66) (tgt := 67) C h7 (by decide) (by decide) (by decide) dX8_rule_1 (by decide) (by decide) ?_
            refine tt_aload_n C 0 dX8_rule_67 rfl rfl ?_
            refine tt_bipush (v := (20 : Int32)) C dX8_rule_68 (by decide) ?_
            refine tt_bi (fun v4 m3 h8 => ?_)
            refine tt_callV (st := []) (As := [.int (20 : Int32)]) C (kX8_codeOf C.2.2.2.2.2.2.2.1 h8) mi_X8_codeOf ml_RX8_179 mv_X8_codeOf ms_X8_codeOf (q := (RX8, TX8, 45)) dM_0 rfl rfl (by decide) (by decide) (Nat.le_of_ble_eq_true rfl) dX8_rule_70 ?_
            exact tt_iret rfl C hr dX8_rule_73
          · skip
            refine tt_if (fun h9 => ?_) (fun h9 => ?_)
            · refine tt_tabIn (y1 := (5 : Int32)) (a := 5) (off := 73) (tgt := 74) C h9 (by decide) (by decide) (by decide) dX8_rule_1 (by decide) (by decide) ?_
              refine tt_aload_n C 0 dX8_rule_74 rfl rfl ?_
              refine tt_bipush (v := (25 : Int32)) C dX8_rule_75 (by decide) ?_
              refine tt_bi (fun v6 m5 h10 => ?_)
              refine tt_callV (st := []) (As := [.int (25 : Int32)]) C (kX8_codeOf C.2.2.2.2.2.2.2.1 h10) mi_X8_codeOf ml_RX8_179 mv_X8_codeOf ms_X8_codeOf (q := (RX8, TX8, 45)) dM_0 rfl rfl (by decide) (by decide) (Nat.le_of_ble_eq_true rfl) dX8_rule_77 ?_
              exact tt_iret rfl C hr dX8_rule_80
            · skip
              refine tt_if (fun h11 => ?_) (fun h11 => ?_)
              · refine tt_tabIn (y1 := (6 : Int32)) (a := 6) (off := 80) (tgt := 81) C h11 (by decide) (by decide) (by decide) dX8_rule_1 (by decide) (by decide) ?_
                refine tt_aload_n C 0 dX8_rule_81 rfl rfl ?_
                refine tt_iconst (v := (1 : Int32)) C dX8_rule_82 (by decide) ?_
                refine tt_aload_n C 0 dX8_rule_83 rfl rfl ?_
                refine tt_getI C (j := 5) dM_0 rfl fl_RX8_167 dX8_rule_84 ?_
                refine tt_ishl C dX8_rule_87 ?_
                refine tt_iconst (v := (1 : Int32)) C dX8_rule_88 (by decide) ?_
                refine tt_isub C dX8_rule_89 ?_
                refine tt_bi (fun v8 m7 h12 => ?_)
                refine tt_callV (st := []) (As := [.int (((1 : Int32) <<< ((μ 0 5) &&& 31)) - (1 : Int32))]) C (kX8_weightOf C.2.2.2.2.2.2.2.1 h12) mi_X8_weightOf ml_RX8_182 mv_X8_weightOf ms_X8_weightOf (q := (RX8, TX8, 45)) dM_0 rfl rfl (by decide) (by decide) (Nat.le_of_ble_eq_true rfl) dX8_rule_90 ?_
                exact tt_iret rfl C hr dX8_rule_93
              · skip
                have nh1 := lv_neT h1 (show (0 : Int32).toInt = 0 by decide)
                have nh2 := lv_neT h2 (show (1 : Int32).toInt = 1 by decide)
                have nh3 := lv_neT h3 (show (2 : Int32).toInt = 2 by decide)
                have nh5 := lv_neT h5 (show (3 : Int32).toInt = 3 by decide)
                have nh7 := lv_neT h7 (show (4 : Int32).toInt = 4 by decide)
                have nh9 := lv_neT h9 (show (5 : Int32).toInt = 5 by decide)
                have nh11 := lv_neT h11 (show (6 : Int32).toInt = 6 by decide)
                refine tt_tabOut (tgt := 94) C (by omega) dX8_rule_1 (by decide) ?_
                refine tt_iconst (v := (-1 : Int32)) C dX8_rule_94 (by decide) ?_
                exact tt_iret rfl C hr dX8_rule_95
theorem kX8_rule {l : Launch} {A : Nat → Prop} {D : va_G} {ad : Nat → Nat} {cA : Nat → ClassId} (hPk : Pk A dsM ad cA EM) {x1 : Int32} {μ : Mem} {v : Int32} {ν : Mem} (h : fX8_rule x1 μ = some (v, ν)) : Ct l A dsM D ad cA EM yX8_rule cX8_rule 2 (some .int) 2 [.ref (ad 0), .int x1] μ (enI (v, ν)) :=
  ct_of (by decide) (Nat.le_of_ble_eq_true rfl) hPk rfl (fun p e s m args below meth c C hr => wX8_rule C hr x1 μ) h

/-! BasketRoundModel.see(II)I -/
def fX8_see_J20 (μ : Mem) : Option (Int32 × Mem) := some ((-1 : Int32), μ)
set_option maxHeartbeats 4000000 in
set_option maxRecDepth 100000 in
theorem wX8_see_J20 {p : Program} {l : Launch} {e : Env} {s : State} {m : MethodId} {args : Array Value} {below : List Frame} {meth : Method} {c : Code} {A : Nat → Prop} {D : va_G} {ad : Nat → Nat} {cA : Nat → ClassId} (C : Cx p s m args meth c cX8_see RX8 3 A dsM D ad cA EM) (hr : meth.sig.returnType = some .int) (μ : Mem) : T p l e (rmD 2) s m args below meth c 3 A dsM D ad cA enI (fX8_see_J20 μ) 20 [] [] μ := by
  unfold fX8_see_J20
  refine tt_iconst (v := (-1 : Int32)) C dX8_see_20 (by decide) ?_
  exact tt_iret rfl C hr dX8_see_21

def fX8_see (x1 : Int32) (x2 : Int32) (μ : Mem) : Option (Int32 × Mem) := bi (fX8_isOrder x1 μ) fun v2 m1 => if v2 = (0 : Int32) then (fX8_see_J20 m1) else (bi (fX8_in x2.toInt64 (0 : Int64) (199 : Int64) m1) fun v4 m3 => if v4 = (0 : Int32) then (fX8_see_J20 m3) else (if (m3 0 39) = (6 : Int32) then (some ((-3 : Int32), m3)) else (gr ((2 : Int32) * (m3 0 39)) 12 <| lb (wr m3 15 ((2 : Int32) * (m3 0 39)).toNatClampNeg x1) fun m5 => gr (((2 : Int32) * (m5 0 39)) + (1 : Int32)) 12 <| lb (wr m5 15 (((2 : Int32) * (m5 0 39)) + (1 : Int32)).toNatClampNeg x2) fun m6 => lb (wr m6 0 39 ((m6 0 39) + (1 : Int32))) fun m7 => some ((m7 0 39), m7))))
set_option maxHeartbeats 4000000 in
set_option maxRecDepth 100000 in
theorem wX8_see {p : Program} {l : Launch} {e : Env} {s : State} {m : MethodId} {args : Array Value} {below : List Frame} {meth : Method} {c : Code} {A : Nat → Prop} {D : va_G} {ad : Nat → Nat} {cA : Nat → ClassId} (C : Cx p s m args meth c cX8_see RX8 3 A dsM D ad cA EM) (hr : meth.sig.returnType = some .int) (x1 : Int32) (x2 : Int32) (μ : Mem) : T p l e (rmD 2) s m args below meth c 3 A dsM D ad cA enI (fX8_see x1 x2 μ) 0 [(0, .ref (ad 0)), (1, .int x1), (2, .int x2)] [] μ := by
  unfold fX8_see
  refine tt_aload_n C 0 dX8_see_0 rfl rfl ?_
  refine tt_iload_n C 1 dX8_see_1 rfl rfl ?_
  refine tt_bi (fun v2 m1 h1 => ?_)
  refine tt_callV (st := []) (As := [.int x1]) C (kX8_isOrder C.2.2.2.2.2.2.2.1 h1) mi_X8_isOrder ml_RX8_185 mv_X8_isOrder ms_X8_isOrder (q := (RX8, TX8, 45)) dM_0 rfl rfl (by decide) (by decide) (Nat.le_of_ble_eq_true rfl) dX8_see_2 ?_
  refine tt_if (fun h2 => ?_) (fun h2 => ?_)
  · refine tt_if_eqT (tgt := 20) C h2 dX8_see_5 (by decide) ?_
    refine tt_sub [] (L2 := []) rfl ?_
    exact wX8_see_J20 C hr m1
  · refine tt_if_eqF C 20 h2 dX8_see_5 (by decide) ?_
    refine tt_iload_n C 2 dX8_see_8 rfl rfl ?_
    refine tt_i2l C dX8_see_9 ?_
    refine tt_lconst (v := (0 : Int64)) C dX8_see_10 (by decide) ?_
    refine tt_ldc2 (v := (199 : Int64)) C kL_RX8_294 dX8_see_11 ?_
    refine tt_bi (fun v4 m3 h3 => ?_)
    refine tt_callS (st := []) (As := [.long x2.toInt64, .long (0 : Int64), .long (199 : Int64)]) C (kX8_in C.2.2.2.2.2.2.2.1 h3) mi_X8_in ml_RX8_70 mt_X8_in rfl (by decide) (by decide) (Nat.le_of_ble_eq_true rfl) dX8_see_14 ?_
    refine tt_if (fun h4 => ?_) (fun h4 => ?_)
    · refine tt_if_neF C 22 h4 dX8_see_17 (by decide) ?_
      refine tt_sub [] (L2 := []) rfl ?_
      exact wX8_see_J20 C hr m3
    · refine tt_if_neT (tgt := 22) C h4 dX8_see_17 (by decide) ?_
      refine tt_aload_n C 0 dX8_see_22 rfl rfl ?_
      refine tt_getI C (j := 39) dM_0 rfl fl_RX8_170 dX8_see_23 ?_
      refine tt_bipush (v := (6 : Int32)) C dX8_see_26 (by decide) ?_
      refine tt_if (fun h5 => ?_) (fun h5 => ?_)
      · refine tt_icmp_neF C 34 h5 dX8_see_28 (by decide) ?_
        refine tt_bipush (v := (-3 : Int32)) C dX8_see_31 (by decide) ?_
        exact tt_iret rfl C hr dX8_see_33
      · refine tt_icmp_neT (tgt := 34) C h5 dX8_see_28 (by decide) ?_
        refine tt_aload_n C 0 dX8_see_34 rfl rfl ?_
        refine tt_getR C (j := 38) (r0 := 15) dM_0 rfl fl_RX8_52 dX8_see_35 ?_
        refine tt_iconst (v := (2 : Int32)) C dX8_see_38 (by decide) ?_
        refine tt_aload_n C 0 dX8_see_39 rfl rfl ?_
        refine tt_getI C (j := 39) dM_0 rfl fl_RX8_170 dX8_see_40 ?_
        refine tt_imul C dX8_see_43 ?_
        refine tt_iload_n C 1 dX8_see_44 rfl rfl ?_
        refine tt_gr (fun h6 => ?_)
        refine tt_iast C dM_15 h6 dX8_see_45 ?_
        refine tt_lbm (fun m5 => ?_)
        refine tt_aload_n C 0 dX8_see_46 rfl rfl ?_
        refine tt_getR C (j := 38) (r0 := 15) dM_0 rfl fl_RX8_52 dX8_see_47 ?_
        refine tt_iconst (v := (2 : Int32)) C dX8_see_50 (by decide) ?_
        refine tt_aload_n C 0 dX8_see_51 rfl rfl ?_
        refine tt_getI C (j := 39) dM_0 rfl fl_RX8_170 dX8_see_52 ?_
        refine tt_imul C dX8_see_55 ?_
        refine tt_iconst (v := (1 : Int32)) C dX8_see_56 (by decide) ?_
        refine tt_iadd C dX8_see_57 ?_
        refine tt_iload_n C 2 dX8_see_58 rfl rfl ?_
        refine tt_gr (fun h7 => ?_)
        refine tt_iast C dM_15 h7 dX8_see_59 ?_
        refine tt_lbm (fun m6 => ?_)
        refine tt_aload_n C 0 dX8_see_60 rfl rfl ?_
        refine tt_dup C dX8_see_61 rfl ?_
        refine tt_getI C (j := 39) dM_0 rfl fl_RX8_170 dX8_see_62 ?_
        refine tt_iconst (v := (1 : Int32)) C dX8_see_65 (by decide) ?_
        refine tt_iadd C dX8_see_66 ?_
        refine tt_putI C (j := 39) dM_0 rfl fl_RX8_170 fw_8_39 dX8_see_67 ?_
        refine tt_lbm (fun m7 => ?_)
        refine tt_aload_n C 0 dX8_see_70 rfl rfl ?_
        refine tt_getI C (j := 39) dM_0 rfl fl_RX8_170 dX8_see_71 ?_
        exact tt_iret rfl C hr dX8_see_74
theorem kX8_see {l : Launch} {A : Nat → Prop} {D : va_G} {ad : Nat → Nat} {cA : Nat → ClassId} (hPk : Pk A dsM ad cA EM) {x1 : Int32} {x2 : Int32} {μ : Mem} {v : Int32} {ν : Mem} (h : fX8_see x1 x2 μ = some (v, ν)) : Ct l A dsM D ad cA EM yX8_see cX8_see 3 (some .int) 2 [.ref (ad 0), .int x1, .int x2] μ (enI (v, ν)) :=
  ct_of (by decide) (Nat.le_of_ble_eq_true rfl) hPk rfl (fun p e s m args below meth c C hr => wX8_see C hr x1 x2 μ) h

/-! BasketRoundModel.set(II)I -/
def fX8_set_J55 (z0 : Int32) (μ : Mem) : Option (Int32 × Mem) := some (z0, μ)
set_option maxHeartbeats 4000000 in
set_option maxRecDepth 100000 in
theorem wX8_set_J55 {p : Program} {l : Launch} {e : Env} {s : State} {m : MethodId} {args : Array Value} {below : List Frame} {meth : Method} {c : Code} {A : Nat → Prop} {D : va_G} {ad : Nat → Nat} {cA : Nat → ClassId} (C : Cx p s m args meth c cX8_set RX8 3 A dsM D ad cA EM) (hr : meth.sig.returnType = some .int) (z0 : Int32) (μ : Mem) : T p l e (rmD 1) s m args below meth c 3 A dsM D ad cA enI (fX8_set_J55 z0 μ) 55 [] [.int z0] μ := by
  unfold fX8_set_J55
  exact tt_iret rfl C hr dX8_set_55

def fX8_set_J48 (x2 : Int32) (z1 : Int32) (μ : Mem) : Option (Int32 × Mem) := bi (fX8_puts z1 (31 : Int32) x2 (0 : Int32) μ) fun v2 m1 => fX8_set_J55 v2 m1
set_option maxHeartbeats 4000000 in
set_option maxRecDepth 100000 in
theorem wX8_set_J48 {p : Program} {l : Launch} {e : Env} {s : State} {m : MethodId} {args : Array Value} {below : List Frame} {meth : Method} {c : Code} {A : Nat → Prop} {D : va_G} {ad : Nat → Nat} {cA : Nat → ClassId} (C : Cx p s m args meth c cX8_set RX8 3 A dsM D ad cA EM) (hr : meth.sig.returnType = some .int) (x2 : Int32) (z1 : Int32) (μ : Mem) : T p l e (rmD 1) s m args below meth c 3 A dsM D ad cA enI (fX8_set_J48 x2 z1 μ) 48 [(2, .int x2)] [.int z1, .ref (ad 0)] μ := by
  unfold fX8_set_J48
  refine tt_bipush (v := (31 : Int32)) C dX8_set_48 (by decide) ?_
  refine tt_iload_n C 0 dX8_set_50 rfl rfl ?_
  refine tt_iconst (v := (0 : Int32)) C dX8_set_51 (by decide) ?_
  refine tt_bi (fun v2 m1 h1 => ?_)
  refine tt_callV (st := []) (As := [.int z1, .int (31 : Int32), .int x2, .int (0 : Int32)]) C (kX8_puts C.2.2.2.2.2.2.2.1 h1) mi_X8_puts ml_RX8_194 mv_X8_puts ms_X8_puts (q := (RX8, TX8, 45)) dM_0 rfl rfl (by decide) (by decide) (Nat.le_of_ble_eq_true rfl) dX8_set_52 ?_
  refine tt_sub [] (L2 := []) rfl ?_
  exact wX8_set_J55 C hr v2 m1

def fX8_set_J47 (x2 : Int32) (μ : Mem) : Option (Int32 × Mem) := fX8_set_J48 x2 (0 : Int32) μ
set_option maxHeartbeats 4000000 in
set_option maxRecDepth 100000 in
theorem wX8_set_J47 {p : Program} {l : Launch} {e : Env} {s : State} {m : MethodId} {args : Array Value} {below : List Frame} {meth : Method} {c : Code} {A : Nat → Prop} {D : va_G} {ad : Nat → Nat} {cA : Nat → ClassId} (C : Cx p s m args meth c cX8_set RX8 3 A dsM D ad cA EM) (hr : meth.sig.returnType = some .int) (x2 : Int32) (μ : Mem) : T p l e (rmD 1) s m args below meth c 3 A dsM D ad cA enI (fX8_set_J47 x2 μ) 47 [(2, .int x2)] [.ref (ad 0)] μ := by
  unfold fX8_set_J47
  refine tt_iconst (v := (0 : Int32)) C dX8_set_47 (by decide) ?_
  refine tt_sub [0] (L2 := [(2, .int x2)]) rfl ?_
  exact wX8_set_J48 C hr x2 (0 : Int32) μ

def fX8_set (x1 : Int32) (x2 : Int32) (μ : Mem) : Option (Int32 × Mem) := if x1 = (0 : Int32) then (bi (fX8_in x2.toInt64 (0 : Int64) (60 : Int64) μ) fun v4 m3 => bi (fX8_puts v4 (30 : Int32) x2 (10 : Int32) m3) fun v6 m5 => fX8_set_J55 v6 m5) else (if x1 = (1 : Int32) then (bi (fX8_in x2.toInt64 (0 : Int64) (60 : Int64) μ) fun v2 m1 => if v2 = (0 : Int32) then (fX8_set_J47 x2 m1) else (fX8_set_J48 x2 (1 : Int32) m1)) else (fX8_set_J47 x2 μ))
set_option maxHeartbeats 4000000 in
set_option maxRecDepth 100000 in
theorem wX8_set {p : Program} {l : Launch} {e : Env} {s : State} {m : MethodId} {args : Array Value} {below : List Frame} {meth : Method} {c : Code} {A : Nat → Prop} {D : va_G} {ad : Nat → Nat} {cA : Nat → ClassId} (C : Cx p s m args meth c cX8_set RX8 3 A dsM D ad cA EM) (hr : meth.sig.returnType = some .int) (x1 : Int32) (x2 : Int32) (μ : Mem) : T p l e (rmD 1) s m args below meth c 3 A dsM D ad cA enI (fX8_set x1 x2 μ) 0 [(0, .ref (ad 0)), (1, .int x1), (2, .int x2)] [] μ := by
  unfold fX8_set
  refine tt_iload_n C 1 dX8_set_0 rfl rfl ?_
  refine tt_if (fun h1 => ?_) (fun h1 => ?_)
  · refine tt_if_neF C 25 h1 dX8_set_1 (by decide) ?_
    refine tt_aload_n C 0 dX8_set_4 rfl rfl ?_
    refine tt_iload_n C 2 dX8_set_5 rfl rfl ?_
    refine tt_i2l C dX8_set_6 ?_
    refine tt_lconst (v := (0 : Int64)) C dX8_set_7 (by decide) ?_
    refine tt_ldc2 (v := (60 : Int64)) C kL_RX8_192 dX8_set_8 ?_
    refine tt_bi (fun v4 m3 h5 => ?_)
    refine tt_callS (st := [.ref (ad 0)]) (As := [.long x2.toInt64, .long (0 : Int64), .long (60 : Int64)]) C (kX8_in C.2.2.2.2.2.2.2.1 h5) mi_X8_in ml_RX8_70 mt_X8_in rfl (by decide) (by decide) (Nat.le_of_ble_eq_true rfl) dX8_set_11 ?_
    refine tt_bipush (v := (30 : Int32)) C dX8_set_14 (by decide) ?_
    refine tt_iload_n C 2 dX8_set_16 rfl rfl ?_
    refine tt_bipush (v := (10 : Int32)) C dX8_set_17 (by decide) ?_
    refine tt_bi (fun v6 m5 h6 => ?_)
    refine tt_callV (st := []) (As := [.int v4, .int (30 : Int32), .int x2, .int (10 : Int32)]) C (kX8_puts C.2.2.2.2.2.2.2.1 h6) mi_X8_puts ml_RX8_194 mv_X8_puts ms_X8_puts (q := (RX8, TX8, 45)) dM_0 rfl rfl (by decide) (by decide) (Nat.le_of_ble_eq_true rfl) dX8_set_19 ?_
    refine tt_goto (tgt := 55) C dX8_set_22 (by decide) ?_
    refine tt_sub [] (L2 := []) rfl ?_
    exact wX8_set_J55 C hr v6 m5
  · refine tt_if_neT (tgt := 25) C h1 dX8_set_1 (by decide) ?_
    refine tt_aload_n C 0 dX8_set_25 rfl rfl ?_
    refine tt_iload_n C 1 dX8_set_26 rfl rfl ?_
    refine tt_iconst (v := (1 : Int32)) C dX8_set_27 (by decide) ?_
    refine tt_if (fun h2 => ?_) (fun h2 => ?_)
    · refine tt_icmp_neF C 47 h2 dX8_set_28 (by decide) ?_
      refine tt_iload_n C 2 dX8_set_31 rfl rfl ?_
      refine tt_i2l C dX8_set_32 ?_
      refine tt_lconst (v := (0 : Int64)) C dX8_set_33 (by decide) ?_
      refine tt_ldc2 (v := (60 : Int64)) C kL_RX8_192 dX8_set_34 ?_
      refine tt_bi (fun v2 m1 h3 => ?_)
      refine tt_callS (st := [.ref (ad 0)]) (As := [.long x2.toInt64, .long (0 : Int64), .long (60 : Int64)]) C (kX8_in C.2.2.2.2.2.2.2.1 h3) mi_X8_in ml_RX8_70 mt_X8_in rfl (by decide) (by decide) (Nat.le_of_ble_eq_true rfl) dX8_set_37 ?_
      refine tt_if (fun h4 => ?_) (fun h4 => ?_)
      · refine tt_if_eqT (tgt := 47) C h4 dX8_set_40 (by decide) ?_
        refine tt_sub [2] (L2 := [(2, .int x2)]) rfl ?_
        exact wX8_set_J47 C hr x2 m1
      · refine tt_if_eqF C 47 h4 dX8_set_40 (by decide) ?_
        refine tt_iconst (v := (1 : Int32)) C dX8_set_43 (by decide) ?_
        refine tt_goto (tgt := 48) C dX8_set_44 (by decide) ?_
        refine tt_sub [2] (L2 := [(2, .int x2)]) rfl ?_
        exact wX8_set_J48 C hr x2 (1 : Int32) m1
    · refine tt_icmp_neT (tgt := 47) C h2 dX8_set_28 (by decide) ?_
      refine tt_sub [2] (L2 := [(2, .int x2)]) rfl ?_
      exact wX8_set_J47 C hr x2 μ
theorem kX8_set {l : Launch} {A : Nat → Prop} {D : va_G} {ad : Nat → Nat} {cA : Nat → ClassId} (hPk : Pk A dsM ad cA EM) {x1 : Int32} {x2 : Int32} {μ : Mem} {v : Int32} {ν : Mem} (h : fX8_set x1 x2 μ = some (v, ν)) : Ct l A dsM D ad cA EM yX8_set cX8_set 3 (some .int) 1 [.ref (ad 0), .int x1, .int x2] μ (enI (v, ν)) :=
  ct_of (by decide) (Nat.le_of_ble_eq_true rfl) hPk rfl (fun p e s m args below meth c C hr => wX8_set C hr x1 x2 μ) h

/-! BasketRoundModel.sheet(III)I -/
def fX8_sheet_L56 : Nat → Int32 → Int32 → Mem → Option (Int32 × Mem)
  | 0, _, _, _ => none
  | fu + 1, x1, x4, μ => if (40 : Int32) ≤ x4 then (some ((1 : Int32), μ)) else (gr (((40 : Int32) * x1) + x4) 160 <| lb (wr μ 19 (((40 : Int32) * x1) + x4).toNatClampNeg (0 : Int32)) fun m1 => lb (x4 + (1 : Int32)) fun (y2 : Int32) => fX8_sheet_L56 fu x1 y2 m1)
set_option maxHeartbeats 4000000 in
set_option maxRecDepth 100000 in
theorem wX8_sheet_L56 {p : Program} {l : Launch} {e : Env} {s : State} {m : MethodId} {args : Array Value} {below : List Frame} {meth : Method} {c : Code} {A : Nat → Prop} {D : va_G} {ad : Nat → Nat} {cA : Nat → ClassId} (C : Cx p s m args meth c cX8_sheet RX8 5 A dsM D ad cA EM) (hr : meth.sig.returnType = some .int) : ∀ (fu : Nat) (x1 : Int32) (x4 : Int32) (μ : Mem), T p l e (rmD 1) s m args below meth c 5 A dsM D ad cA enI (fX8_sheet_L56 fu x1 x4 μ) 56 [(0, .ref (ad 0)), (1, .int x1), (4, .int x4)] [] μ
  | 0, _, _, _ => tt_none
  | fu + 1, x1, x4, μ => by
    have ih := fun (x1 : Int32) (x4 : Int32) (μ : Mem) => wX8_sheet_L56 (l := l) (e := e) (below := below) C hr fu x1 x4 μ
    show T p l e (rmD 1) s m args below meth c 5 A dsM D ad cA enI (if (40 : Int32) ≤ x4 then (some ((1 : Int32), μ)) else (gr (((40 : Int32) * x1) + x4) 160 <| lb (wr μ 19 (((40 : Int32) * x1) + x4).toNatClampNeg (0 : Int32)) fun m1 => lb (x4 + (1 : Int32)) fun (y2 : Int32) => fX8_sheet_L56 fu x1 y2 m1)) 56 [(0, .ref (ad 0)), (1, .int x1), (4, .int x4)] [] μ
    refine tt_iload C 2 dX8_sheet_56 rfl ?_
    refine tt_bipush (v := (40 : Int32)) C dX8_sheet_58 (by decide) ?_
    refine tt_if (fun h1 => ?_) (fun h1 => ?_)
    · refine tt_icmp_geT (tgt := 82) C h1 dX8_sheet_60 (by decide) ?_
      refine tt_iconst (v := (1 : Int32)) C dX8_sheet_82 (by decide) ?_
      exact tt_iret rfl C hr dX8_sheet_83
    · refine tt_icmp_geF C 82 h1 dX8_sheet_60 (by decide) ?_
      refine tt_aload_n C 0 dX8_sheet_63 rfl rfl ?_
      refine tt_getR C (j := 43) (r0 := 19) dM_0 rfl fl_RX8_65 dX8_sheet_64 ?_
      refine tt_bipush (v := (40 : Int32)) C dX8_sheet_67 (by decide) ?_
      refine tt_iload_n C 1 dX8_sheet_69 rfl rfl ?_
      refine tt_imul C dX8_sheet_70 ?_
      refine tt_iload C 2 dX8_sheet_71 rfl ?_
      refine tt_iadd C dX8_sheet_73 ?_
      refine tt_iconst (v := (0 : Int32)) C dX8_sheet_74 (by decide) ?_
      refine tt_gr (fun h2 => ?_)
      refine tt_iast C dM_19 h2 dX8_sheet_75 ?_
      refine tt_lbm (fun m1 => ?_)
      refine tt_iincB (d := (1 : Int32)) C 2 (fun y2 => [(4, .int y2), (0, .ref (ad 0)), (1, .int x1)]) dX8_sheet_76 rfl (by decide) (by decide) (fun _ => rfl) (fun y2 => ?_)
      refine tt_goto (tgt := 56) C dX8_sheet_79 (by decide) ?_
      refine tt_sub [1, 2, 0] (L2 := [(0, .ref (ad 0)), (1, .int x1), (4, .int y2)]) rfl ?_
      exact ih x1 y2 m1

def fX8_sheet_J30 (μ : Mem) : Option (Int32 × Mem) := some ((-1 : Int32), μ)
set_option maxHeartbeats 4000000 in
set_option maxRecDepth 100000 in
theorem wX8_sheet_J30 {p : Program} {l : Launch} {e : Env} {s : State} {m : MethodId} {args : Array Value} {below : List Frame} {meth : Method} {c : Code} {A : Nat → Prop} {D : va_G} {ad : Nat → Nat} {cA : Nat → ClassId} (C : Cx p s m args meth c cX8_sheet RX8 5 A dsM D ad cA EM) (hr : meth.sig.returnType = some .int) (μ : Mem) : T p l e (rmD 1) s m args below meth c 5 A dsM D ad cA enI (fX8_sheet_J30 μ) 30 [] [] μ := by
  unfold fX8_sheet_J30
  refine tt_iconst (v := (-1 : Int32)) C dX8_sheet_30 (by decide) ?_
  exact tt_iret rfl C hr dX8_sheet_31

def fX8_sheet (x1 : Int32) (x2 : Int32) (x3 : Int32) (μ : Mem) : Option (Int32 × Mem) := bi (fX8_in x1.toInt64 (0 : Int64) (3 : Int64) μ) fun v2 m1 => if v2 = (0 : Int32) then (fX8_sheet_J30 m1) else (bi (fX8_in x2.toInt64 (0 : Int64) (2 : Int64) m1) fun v4 m3 => if v4 = (0 : Int32) then (fX8_sheet_J30 m3) else (if x3 ≤ (40 : Int32) then (if (0 : Int32) ≤ x3 then (gr x1 4 <| lb (wr m3 17 x1.toNatClampNeg x2) fun m5 => gr x1 4 <| lb (wr m5 18 x1.toNatClampNeg x3) fun m6 => lb (0 : Int32) fun (y7 : Int32) => fX8_sheet_L56 FU x1 y7 m6) else (some ((-14 : Int32), m3))) else (fX8_sheet_J30 m3)))
set_option maxHeartbeats 4000000 in
set_option maxRecDepth 100000 in
theorem wX8_sheet {p : Program} {l : Launch} {e : Env} {s : State} {m : MethodId} {args : Array Value} {below : List Frame} {meth : Method} {c : Code} {A : Nat → Prop} {D : va_G} {ad : Nat → Nat} {cA : Nat → ClassId} (C : Cx p s m args meth c cX8_sheet RX8 5 A dsM D ad cA EM) (hr : meth.sig.returnType = some .int) (x1 : Int32) (x2 : Int32) (x3 : Int32) (μ : Mem) : T p l e (rmD 1) s m args below meth c 5 A dsM D ad cA enI (fX8_sheet x1 x2 x3 μ) 0 [(0, .ref (ad 0)), (1, .int x1), (2, .int x2), (3, .int x3)] [] μ := by
  unfold fX8_sheet
  refine tt_iload_n C 1 dX8_sheet_0 rfl rfl ?_
  refine tt_i2l C dX8_sheet_1 ?_
  refine tt_lconst (v := (0 : Int64)) C dX8_sheet_2 (by decide) ?_
  refine tt_ldc2 (v := (3 : Int64)) C kL_RX8_275 dX8_sheet_3 ?_
  refine tt_bi (fun v2 m1 h1 => ?_)
  refine tt_callS (st := []) (As := [.long x1.toInt64, .long (0 : Int64), .long (3 : Int64)]) C (kX8_in C.2.2.2.2.2.2.2.1 h1) mi_X8_in ml_RX8_70 mt_X8_in rfl (by decide) (by decide) (Nat.le_of_ble_eq_true rfl) dX8_sheet_6 ?_
  refine tt_if (fun h2 => ?_) (fun h2 => ?_)
  · refine tt_if_eqT (tgt := 30) C h2 dX8_sheet_9 (by decide) ?_
    refine tt_sub [] (L2 := []) rfl ?_
    exact wX8_sheet_J30 C hr m1
  · refine tt_if_eqF C 30 h2 dX8_sheet_9 (by decide) ?_
    refine tt_iload_n C 2 dX8_sheet_12 rfl rfl ?_
    refine tt_i2l C dX8_sheet_13 ?_
    refine tt_lconst (v := (0 : Int64)) C dX8_sheet_14 (by decide) ?_
    refine tt_ldc2 (v := (2 : Int64)) C kL_RX8_251 dX8_sheet_15 ?_
    refine tt_bi (fun v4 m3 h3 => ?_)
    refine tt_callS (st := []) (As := [.long x2.toInt64, .long (0 : Int64), .long (2 : Int64)]) C (kX8_in C.2.2.2.2.2.2.2.1 h3) mi_X8_in ml_RX8_70 mt_X8_in rfl (by decide) (by decide) (Nat.le_of_ble_eq_true rfl) dX8_sheet_18 ?_
    refine tt_if (fun h4 => ?_) (fun h4 => ?_)
    · refine tt_if_eqT (tgt := 30) C h4 dX8_sheet_21 (by decide) ?_
      refine tt_sub [] (L2 := []) rfl ?_
      exact wX8_sheet_J30 C hr m3
    · refine tt_if_eqF C 30 h4 dX8_sheet_21 (by decide) ?_
      refine tt_iload_n C 3 dX8_sheet_24 rfl rfl ?_
      refine tt_bipush (v := (40 : Int32)) C dX8_sheet_25 (by decide) ?_
      refine tt_if (fun h5 => ?_) (fun h5 => ?_)
      · refine tt_icmp_leT (tgt := 32) C h5 dX8_sheet_27 (by decide) ?_
        refine tt_iload_n C 3 dX8_sheet_32 rfl rfl ?_
        refine tt_if (fun h6 => ?_) (fun h6 => ?_)
        · refine tt_if_geT (tgt := 39) C h6 dX8_sheet_33 (by decide) ?_
          refine tt_aload_n C 0 dX8_sheet_39 rfl rfl ?_
          refine tt_getR C (j := 41) (r0 := 17) dM_0 rfl fl_RX8_59 dX8_sheet_40 ?_
          refine tt_iload_n C 1 dX8_sheet_43 rfl rfl ?_
          refine tt_iload_n C 2 dX8_sheet_44 rfl rfl ?_
          refine tt_gr (fun h7 => ?_)
          refine tt_iast C dM_17 h7 dX8_sheet_45 ?_
          refine tt_lbm (fun m5 => ?_)
          refine tt_aload_n C 0 dX8_sheet_46 rfl rfl ?_
          refine tt_getR C (j := 42) (r0 := 18) dM_0 rfl fl_RX8_62 dX8_sheet_47 ?_
          refine tt_iload_n C 1 dX8_sheet_50 rfl rfl ?_
          refine tt_iload_n C 3 dX8_sheet_51 rfl rfl ?_
          refine tt_gr (fun h8 => ?_)
          refine tt_iast C dM_18 h8 dX8_sheet_52 ?_
          refine tt_lbm (fun m6 => ?_)
          refine tt_iconst (v := (0 : Int32)) C dX8_sheet_53 (by decide) ?_
          refine tt_lbi (fun y7 => ?_)
          refine tt_istore (L2 := [(4, .int y7), (0, .ref (ad 0)), (1, .int x1), (2, .int x2), (3, .int x3)]) C dX8_sheet_54 (by decide) rfl ?_
          refine tt_sub [1, 2, 0] (L2 := [(0, .ref (ad 0)), (1, .int x1), (4, .int y7)]) rfl ?_
          exact wX8_sheet_L56 C hr FU x1 y7 m6
        · refine tt_if_geF C 39 h6 dX8_sheet_33 (by decide) ?_
          refine tt_bipush (v := (-14 : Int32)) C dX8_sheet_36 (by decide) ?_
          exact tt_iret rfl C hr dX8_sheet_38
      · refine tt_icmp_leF C 32 h5 dX8_sheet_27 (by decide) ?_
        refine tt_sub [] (L2 := []) rfl ?_
        exact wX8_sheet_J30 C hr m3
theorem kX8_sheet {l : Launch} {A : Nat → Prop} {D : va_G} {ad : Nat → Nat} {cA : Nat → ClassId} (hPk : Pk A dsM ad cA EM) {x1 : Int32} {x2 : Int32} {x3 : Int32} {μ : Mem} {v : Int32} {ν : Mem} (h : fX8_sheet x1 x2 x3 μ = some (v, ν)) : Ct l A dsM D ad cA EM yX8_sheet cX8_sheet 5 (some .int) 1 [.ref (ad 0), .int x1, .int x2, .int x3] μ (enI (v, ν)) :=
  ct_of (by decide) (Nat.le_of_ble_eq_true rfl) hPk rfl (fun p e s m args below meth c C hr => wX8_sheet C hr x1 x2 x3 μ) h

/-! BasketRoundModel.soonest(I)I -/
def fX8_soonest_J107 (z0 : Int32) (μ : Mem) : Option (Int32 × Mem) := some (z0, μ)
set_option maxHeartbeats 4000000 in
set_option maxRecDepth 100000 in
theorem wX8_soonest_J107 {p : Program} {l : Launch} {e : Env} {s : State} {m : MethodId} {args : Array Value} {below : List Frame} {meth : Method} {c : Code} {A : Nat → Prop} {D : va_G} {ad : Nat → Nat} {cA : Nat → ClassId} (C : Cx p s m args meth c cX8_soonest RX8 7 A dsM D ad cA EM) (hr : meth.sig.returnType = some .int) (z0 : Int32) (μ : Mem) : T p l e (rmD 4) s m args below meth c 7 A dsM D ad cA enI (fX8_soonest_J107 z0 μ) 107 [] [.int z0] μ := by
  unfold fX8_soonest_J107
  exact tt_iret rfl C hr dX8_soonest_107

def fX8_soonest_J83 (k29 : Int32 → Int32 → Int32 → Int32 → Int32 → Mem → Option (Int32 × Mem)) (x1 : Int32) (x2 : Int32) (x3 : Int32) (x4 : Int32) (x5 : Int32) (μ : Mem) : Option (Int32 × Mem) := lb (x5 + (1 : Int32)) fun (y1 : Int32) => k29 x1 x2 x3 x4 y1 μ
set_option maxHeartbeats 4000000 in
set_option maxRecDepth 100000 in
theorem wX8_soonest_J83 {p : Program} {l : Launch} {e : Env} {s : State} {m : MethodId} {args : Array Value} {below : List Frame} {meth : Method} {c : Code} {A : Nat → Prop} {D : va_G} {ad : Nat → Nat} {cA : Nat → ClassId} (C : Cx p s m args meth c cX8_soonest RX8 7 A dsM D ad cA EM) (hr : meth.sig.returnType = some .int) (k29 : Int32 → Int32 → Int32 → Int32 → Int32 → Mem → Option (Int32 × Mem)) (hk29 : ∀ (x1 : Int32) (x2 : Int32) (x3 : Int32) (x4 : Int32) (x5 : Int32) (μ : Mem), T p l e (rmD 4) s m args below meth c 7 A dsM D ad cA enI (k29 x1 x2 x3 x4 x5 μ) 29 [(0, .ref (ad 0)), (1, .int x1), (2, .int x2), (3, .int x3), (4, .int x4), (5, .int x5)] [] μ) (x1 : Int32) (x2 : Int32) (x3 : Int32) (x4 : Int32) (x5 : Int32) (μ : Mem) : T p l e (rmD 4) s m args below meth c 7 A dsM D ad cA enI (fX8_soonest_J83 k29 x1 x2 x3 x4 x5 μ) 83 [(0, .ref (ad 0)), (1, .int x1), (2, .int x2), (3, .int x3), (4, .int x4), (5, .int x5)] [] μ := by
  unfold fX8_soonest_J83
  refine tt_iincB (d := (1 : Int32)) C 5 (fun y1 => [(5, .int y1), (0, .ref (ad 0)), (1, .int x1), (2, .int x2), (3, .int x3), (4, .int x4)]) dX8_soonest_83 rfl (by decide) (by decide) (fun _ => rfl) (fun y1 => ?_)
  refine tt_goto (tgt := 29) C dX8_soonest_86 (by decide) ?_
  refine tt_sub [1, 2, 3, 4, 5, 0] (L2 := [(0, .ref (ad 0)), (1, .int x1), (2, .int x2), (3, .int x3), (4, .int x4), (5, .int y1)]) rfl ?_
  exact hk29 x1 x2 x3 x4 y1 μ

def fX8_soonest_J82 (k29 : Int32 → Int32 → Int32 → Int32 → Int32 → Mem → Option (Int32 × Mem)) (x1 : Int32) (x2 : Int32) (x4 : Int32) (x5 : Int32) (z0 : Int32) (μ : Mem) : Option (Int32 × Mem) := fX8_soonest_J83 k29 x1 x2 z0 x4 x5 μ
set_option maxHeartbeats 4000000 in
set_option maxRecDepth 100000 in
theorem wX8_soonest_J82 {p : Program} {l : Launch} {e : Env} {s : State} {m : MethodId} {args : Array Value} {below : List Frame} {meth : Method} {c : Code} {A : Nat → Prop} {D : va_G} {ad : Nat → Nat} {cA : Nat → ClassId} (C : Cx p s m args meth c cX8_soonest RX8 7 A dsM D ad cA EM) (hr : meth.sig.returnType = some .int) (k29 : Int32 → Int32 → Int32 → Int32 → Int32 → Mem → Option (Int32 × Mem)) (hk29 : ∀ (x1 : Int32) (x2 : Int32) (x3 : Int32) (x4 : Int32) (x5 : Int32) (μ : Mem), T p l e (rmD 4) s m args below meth c 7 A dsM D ad cA enI (k29 x1 x2 x3 x4 x5 μ) 29 [(0, .ref (ad 0)), (1, .int x1), (2, .int x2), (3, .int x3), (4, .int x4), (5, .int x5)] [] μ) (x1 : Int32) (x2 : Int32) (x4 : Int32) (x5 : Int32) (z0 : Int32) (μ : Mem) : T p l e (rmD 4) s m args below meth c 7 A dsM D ad cA enI (fX8_soonest_J82 k29 x1 x2 x4 x5 z0 μ) 82 [(0, .ref (ad 0)), (1, .int x1), (2, .int x2), (4, .int x4), (5, .int x5)] [.int z0] μ := by
  unfold fX8_soonest_J82
  refine tt_istore_n (L2 := [(3, .int z0), (0, .ref (ad 0)), (1, .int x1), (2, .int x2), (4, .int x4), (5, .int x5)]) C dX8_soonest_82 rfl (by decide) rfl ?_
  refine tt_sub [1, 2, 3, 0, 4, 5] (L2 := [(0, .ref (ad 0)), (1, .int x1), (2, .int x2), (3, .int z0), (4, .int x4), (5, .int x5)]) rfl ?_
  exact wX8_soonest_J83 C hr k29 hk29 x1 x2 z0 x4 x5 μ

def fX8_soonest_J68 (k29 : Int32 → Int32 → Int32 → Int32 → Int32 → Mem → Option (Int32 × Mem)) (x1 : Int32) (x2 : Int32) (x3 : Int32) (x5 : Int32) (x6 : Int32) (z0 : Int32) (μ : Mem) : Option (Int32 × Mem) := if x3 ≤ x6 then (fX8_soonest_J82 k29 x1 x2 z0 x5 x3 μ) else (fX8_soonest_J82 k29 x1 x2 z0 x5 x6 μ)
set_option maxHeartbeats 4000000 in
set_option maxRecDepth 100000 in
theorem wX8_soonest_J68 {p : Program} {l : Launch} {e : Env} {s : State} {m : MethodId} {args : Array Value} {below : List Frame} {meth : Method} {c : Code} {A : Nat → Prop} {D : va_G} {ad : Nat → Nat} {cA : Nat → ClassId} (C : Cx p s m args meth c cX8_soonest RX8 7 A dsM D ad cA EM) (hr : meth.sig.returnType = some .int) (k29 : Int32 → Int32 → Int32 → Int32 → Int32 → Mem → Option (Int32 × Mem)) (hk29 : ∀ (x1 : Int32) (x2 : Int32) (x3 : Int32) (x4 : Int32) (x5 : Int32) (μ : Mem), T p l e (rmD 4) s m args below meth c 7 A dsM D ad cA enI (k29 x1 x2 x3 x4 x5 μ) 29 [(0, .ref (ad 0)), (1, .int x1), (2, .int x2), (3, .int x3), (4, .int x4), (5, .int x5)] [] μ) (x1 : Int32) (x2 : Int32) (x3 : Int32) (x5 : Int32) (x6 : Int32) (z0 : Int32) (μ : Mem) : T p l e (rmD 4) s m args below meth c 7 A dsM D ad cA enI (fX8_soonest_J68 k29 x1 x2 x3 x5 x6 z0 μ) 68 [(0, .ref (ad 0)), (1, .int x1), (2, .int x2), (3, .int x3), (5, .int x5), (6, .int x6)] [.int z0] μ := by
  unfold fX8_soonest_J68
  refine tt_istore (L2 := [(4, .int z0), (0, .ref (ad 0)), (1, .int x1), (2, .int x2), (3, .int x3), (5, .int x5), (6, .int x6)]) C dX8_soonest_68 (by decide) rfl ?_
  refine tt_iload C 6 dX8_soonest_70 rfl ?_
  refine tt_iload_n C 4 dX8_soonest_72 rfl rfl ?_
  refine tt_if (fun h1 => ?_) (fun h1 => ?_)
  · refine tt_icmp_geT (tgt := 81) C h1 dX8_soonest_73 (by decide) ?_
    refine tt_iload_n C 4 dX8_soonest_81 rfl rfl ?_
    refine tt_sub [1, 2, 3, 0, 5] (L2 := [(0, .ref (ad 0)), (1, .int x1), (2, .int x2), (4, .int z0), (5, .int x5)]) rfl ?_
    exact wX8_soonest_J82 C hr k29 hk29 x1 x2 z0 x5 x3 μ
  · refine tt_icmp_geF C 81 h1 dX8_soonest_73 (by decide) ?_
    refine tt_iload C 6 dX8_soonest_76 rfl ?_
    refine tt_goto (tgt := 82) C dX8_soonest_78 (by decide) ?_
    refine tt_sub [1, 2, 3, 0, 5] (L2 := [(0, .ref (ad 0)), (1, .int x1), (2, .int x2), (4, .int z0), (5, .int x5)]) rfl ?_
    exact wX8_soonest_J82 C hr k29 hk29 x1 x2 z0 x5 x6 μ

def fX8_soonest_L29 : Nat → Int32 → Int32 → Int32 → Int32 → Int32 → Mem → Option (Int32 × Mem)
  | 0, _, _, _, _, _, _ => none
  | fu + 1, x1, x2, x3, x4, x5, μ => bi (fX8_codes μ) fun v2 m1 => if v2 ≤ x5 then (bi (fX8_laysCode (25 : Int32) x2 m1) fun v4 m3 => if x1 = (0 : Int32) then (fX8_soonest_J107 x3 m3) else (fX8_soonest_J107 x4 m3)) else (bi (fX8_laysCode (25 : Int32) x5 m1) fun v6 m5 => if v6 = (0 : Int32) then (fX8_soonest_J83 (fun x1 x2 x3 x4 x5 μ => fX8_soonest_L29 fu x1 x2 x3 x4 x5 μ) x1 x2 x3 x4 x5 m5) else (bi (fX8_wholeRound m5) fun v8 m7 => if x3 ≤ v8 then (fX8_soonest_J68 (fun x1 x2 x3 x4 x5 μ => fX8_soonest_L29 fu x1 x2 x3 x4 x5 μ) x1 x2 x3 x5 v8 x4 m7) else (fX8_soonest_J68 (fun x1 x2 x3 x4 x5 μ => fX8_soonest_L29 fu x1 x2 x3 x4 x5 μ) x1 x2 x3 x5 v8 x5 m7)))
set_option maxHeartbeats 4000000 in
set_option maxRecDepth 100000 in
theorem wX8_soonest_L29 {p : Program} {l : Launch} {e : Env} {s : State} {m : MethodId} {args : Array Value} {below : List Frame} {meth : Method} {c : Code} {A : Nat → Prop} {D : va_G} {ad : Nat → Nat} {cA : Nat → ClassId} (C : Cx p s m args meth c cX8_soonest RX8 7 A dsM D ad cA EM) (hr : meth.sig.returnType = some .int) : ∀ (fu : Nat) (x1 : Int32) (x2 : Int32) (x3 : Int32) (x4 : Int32) (x5 : Int32) (μ : Mem), T p l e (rmD 4) s m args below meth c 7 A dsM D ad cA enI (fX8_soonest_L29 fu x1 x2 x3 x4 x5 μ) 29 [(0, .ref (ad 0)), (1, .int x1), (2, .int x2), (3, .int x3), (4, .int x4), (5, .int x5)] [] μ
  | 0, _, _, _, _, _, _ => tt_none
  | fu + 1, x1, x2, x3, x4, x5, μ => by
    have ih := fun (x1 : Int32) (x2 : Int32) (x3 : Int32) (x4 : Int32) (x5 : Int32) (μ : Mem) => wX8_soonest_L29 (l := l) (e := e) (below := below) C hr fu x1 x2 x3 x4 x5 μ
    show T p l e (rmD 4) s m args below meth c 7 A dsM D ad cA enI (bi (fX8_codes μ) fun v2 m1 => if v2 ≤ x5 then (bi (fX8_laysCode (25 : Int32) x2 m1) fun v4 m3 => if x1 = (0 : Int32) then (fX8_soonest_J107 x3 m3) else (fX8_soonest_J107 x4 m3)) else (bi (fX8_laysCode (25 : Int32) x5 m1) fun v6 m5 => if v6 = (0 : Int32) then (fX8_soonest_J83 (fun x1 x2 x3 x4 x5 μ => fX8_soonest_L29 fu x1 x2 x3 x4 x5 μ) x1 x2 x3 x4 x5 m5) else (bi (fX8_wholeRound m5) fun v8 m7 => if x3 ≤ v8 then (fX8_soonest_J68 (fun x1 x2 x3 x4 x5 μ => fX8_soonest_L29 fu x1 x2 x3 x4 x5 μ) x1 x2 x3 x5 v8 x4 m7) else (fX8_soonest_J68 (fun x1 x2 x3 x4 x5 μ => fX8_soonest_L29 fu x1 x2 x3 x4 x5 μ) x1 x2 x3 x5 v8 x5 m7)))) 29 [(0, .ref (ad 0)), (1, .int x1), (2, .int x2), (3, .int x3), (4, .int x4), (5, .int x5)] [] μ
    refine tt_iload C 5 dX8_soonest_29 rfl ?_
    refine tt_aload_n C 0 dX8_soonest_31 rfl rfl ?_
    refine tt_bi (fun v2 m1 h1 => ?_)
    refine tt_callV (st := [.int x5]) (As := []) C (kX8_codes C.2.2.2.2.2.2.2.1 h1) mi_X8_codes ml_RX8_265 mv_X8_codes ms_X8_codes (q := (RX8, TX8, 45)) dM_0 rfl rfl (by decide) (by decide) (Nat.le_of_ble_eq_true rfl) dX8_soonest_32 ?_
    refine tt_if (fun h2 => ?_) (fun h2 => ?_)
    · refine tt_icmp_geT (tgt := 89) C h2 dX8_soonest_35 (by decide) ?_
      refine tt_aload_n C 0 dX8_soonest_89 rfl rfl ?_
      refine tt_bipush (v := (25 : Int32)) C dX8_soonest_90 (by decide) ?_
      refine tt_iload_n C 2 dX8_soonest_92 rfl rfl ?_
      refine tt_bi (fun v4 m3 h3 => ?_)
      refine tt_callV (st := []) (As := [.int (25 : Int32), .int x2]) C (kX8_laysCode C.2.2.2.2.2.2.2.1 h3) mi_X8_laysCode ml_RX8_268 mv_X8_laysCode ms_X8_laysCode (q := (RX8, TX8, 45)) dM_0 rfl rfl (by decide) (by decide) (Nat.le_of_ble_eq_true rfl) dX8_soonest_93 ?_
      refine tt_pop C dX8_soonest_96 rfl ?_
      refine tt_iload_n C 1 dX8_soonest_97 rfl rfl ?_
      refine tt_if (fun h4 => ?_) (fun h4 => ?_)
      · refine tt_if_neF C 105 h4 dX8_soonest_98 (by decide) ?_
        refine tt_iload_n C 3 dX8_soonest_101 rfl rfl ?_
        refine tt_goto (tgt := 107) C dX8_soonest_102 (by decide) ?_
        refine tt_sub [] (L2 := []) rfl ?_
        exact wX8_soonest_J107 C hr x3 m3
      · refine tt_if_neT (tgt := 105) C h4 dX8_soonest_98 (by decide) ?_
        refine tt_iload C 4 dX8_soonest_105 rfl ?_
        refine tt_sub [] (L2 := []) rfl ?_
        exact wX8_soonest_J107 C hr x4 m3
    · refine tt_icmp_geF C 89 h2 dX8_soonest_35 (by decide) ?_
      refine tt_aload_n C 0 dX8_soonest_38 rfl rfl ?_
      refine tt_bipush (v := (25 : Int32)) C dX8_soonest_39 (by decide) ?_
      refine tt_iload C 5 dX8_soonest_41 rfl ?_
      refine tt_bi (fun v6 m5 h5 => ?_)
      refine tt_callV (st := []) (As := [.int (25 : Int32), .int x5]) C (kX8_laysCode C.2.2.2.2.2.2.2.1 h5) mi_X8_laysCode ml_RX8_268 mv_X8_laysCode ms_X8_laysCode (q := (RX8, TX8, 45)) dM_0 rfl rfl (by decide) (by decide) (Nat.le_of_ble_eq_true rfl) dX8_soonest_43 ?_
      refine tt_if (fun h6 => ?_) (fun h6 => ?_)
      · refine tt_if_eqT (tgt := 83) C h6 dX8_soonest_46 (by decide) ?_
        refine tt_sub [0, 1, 2, 3, 4, 5] (L2 := [(0, .ref (ad 0)), (1, .int x1), (2, .int x2), (3, .int x3), (4, .int x4), (5, .int x5)]) rfl ?_
        exact wX8_soonest_J83 C hr (fun x1 x2 x3 x4 x5 μ => fX8_soonest_L29 fu x1 x2 x3 x4 x5 μ) (fun x1 x2 x3 x4 x5 μ => ih x1 x2 x3 x4 x5 μ) x1 x2 x3 x4 x5 m5
      · refine tt_if_eqF C 83 h6 dX8_soonest_46 (by decide) ?_
        refine tt_aload_n C 0 dX8_soonest_49 rfl rfl ?_
        refine tt_bi (fun v8 m7 h7 => ?_)
        refine tt_callV (st := []) (As := []) C (kX8_wholeRound C.2.2.2.2.2.2.2.1 h7) mi_X8_wholeRound ml_RX8_245 mv_X8_wholeRound ms_X8_wholeRound (q := (RX8, TX8, 45)) dM_0 rfl rfl (by decide) (by decide) (Nat.le_of_ble_eq_true rfl) dX8_soonest_50 ?_
        refine tt_istore (L2 := [(6, .int v8), (0, .ref (ad 0)), (1, .int x1), (2, .int x2), (3, .int x3), (4, .int x4), (5, .int x5)]) C dX8_soonest_53 (by decide) rfl ?_
        refine tt_iload C 0 dX8_soonest_55 rfl ?_
        refine tt_iload_n C 4 dX8_soonest_57 rfl rfl ?_
        refine tt_if (fun h8 => ?_) (fun h8 => ?_)
        · refine tt_icmp_geT (tgt := 66) C h8 dX8_soonest_58 (by decide) ?_
          refine tt_iload C 5 dX8_soonest_66 rfl ?_
          refine tt_sub [1, 2, 3, 4, 6, 0] (L2 := [(0, .ref (ad 0)), (1, .int x1), (2, .int x2), (3, .int x3), (5, .int x5), (6, .int v8)]) rfl ?_
          exact wX8_soonest_J68 C hr (fun x1 x2 x3 x4 x5 μ => fX8_soonest_L29 fu x1 x2 x3 x4 x5 μ) (fun x1 x2 x3 x4 x5 μ => ih x1 x2 x3 x4 x5 μ) x1 x2 x3 x5 v8 x4 m7
        · refine tt_icmp_geF C 66 h8 dX8_soonest_58 (by decide) ?_
          refine tt_iload C 6 dX8_soonest_61 rfl ?_
          refine tt_goto (tgt := 68) C dX8_soonest_63 (by decide) ?_
          refine tt_sub [1, 2, 3, 4, 6, 0] (L2 := [(0, .ref (ad 0)), (1, .int x1), (2, .int x2), (3, .int x3), (5, .int x5), (6, .int v8)]) rfl ?_
          exact wX8_soonest_J68 C hr (fun x1 x2 x3 x4 x5 μ => fX8_soonest_L29 fu x1 x2 x3 x4 x5 μ) (fun x1 x2 x3 x4 x5 μ => ih x1 x2 x3 x4 x5 μ) x1 x2 x3 x5 v8 x5 m7

def fX8_soonest (x1 : Int32) (μ : Mem) : Option (Int32 × Mem) := bi (fX8_in x1.toInt64 (0 : Int64) (1 : Int64) μ) fun v2 m1 => if v2 = (0 : Int32) then (some ((-1 : Int32), m1)) else (bi (fX8_codeOf (25 : Int32) m1) fun v4 m3 => lb (1000000 : Int32) fun (y5 : Int32) => lb (0 : Int32) fun (y6 : Int32) => lb (0 : Int32) fun (y7 : Int32) => fX8_soonest_L29 FU x1 v4 y5 y6 y7 m3)
set_option maxHeartbeats 4000000 in
set_option maxRecDepth 100000 in
theorem wX8_soonest {p : Program} {l : Launch} {e : Env} {s : State} {m : MethodId} {args : Array Value} {below : List Frame} {meth : Method} {c : Code} {A : Nat → Prop} {D : va_G} {ad : Nat → Nat} {cA : Nat → ClassId} (C : Cx p s m args meth c cX8_soonest RX8 7 A dsM D ad cA EM) (hr : meth.sig.returnType = some .int) (x1 : Int32) (μ : Mem) : T p l e (rmD 4) s m args below meth c 7 A dsM D ad cA enI (fX8_soonest x1 μ) 0 [(0, .ref (ad 0)), (1, .int x1)] [] μ := by
  unfold fX8_soonest
  refine tt_iload_n C 1 dX8_soonest_0 rfl rfl ?_
  refine tt_i2l C dX8_soonest_1 ?_
  refine tt_lconst (v := (0 : Int64)) C dX8_soonest_2 (by decide) ?_
  refine tt_lconst (v := (1 : Int64)) C dX8_soonest_3 (by decide) ?_
  refine tt_bi (fun v2 m1 h1 => ?_)
  refine tt_callS (st := []) (As := [.long x1.toInt64, .long (0 : Int64), .long (1 : Int64)]) C (kX8_in C.2.2.2.2.2.2.2.1 h1) mi_X8_in ml_RX8_70 mt_X8_in rfl (by decide) (by decide) (Nat.le_of_ble_eq_true rfl) dX8_soonest_4 ?_
  refine tt_if (fun h2 => ?_) (fun h2 => ?_)
  · refine tt_if_neF C 12 h2 dX8_soonest_7 (by decide) ?_
    refine tt_iconst (v := (-1 : Int32)) C dX8_soonest_10 (by decide) ?_
    exact tt_iret rfl C hr dX8_soonest_11
  · refine tt_if_neT (tgt := 12) C h2 dX8_soonest_7 (by decide) ?_
    refine tt_aload_n C 0 dX8_soonest_12 rfl rfl ?_
    refine tt_bipush (v := (25 : Int32)) C dX8_soonest_13 (by decide) ?_
    refine tt_bi (fun v4 m3 h3 => ?_)
    refine tt_callV (st := []) (As := [.int (25 : Int32)]) C (kX8_codeOf C.2.2.2.2.2.2.2.1 h3) mi_X8_codeOf ml_RX8_179 mv_X8_codeOf ms_X8_codeOf (q := (RX8, TX8, 45)) dM_0 rfl rfl (by decide) (by decide) (Nat.le_of_ble_eq_true rfl) dX8_soonest_15 ?_
    refine tt_istore_n (L2 := [(2, .int v4), (0, .ref (ad 0)), (1, .int x1)]) C dX8_soonest_18 rfl (by decide) rfl ?_
    refine tt_ldcw (v := (1000000 : Int32)) C kC_RX8_277 dX8_soonest_19 ?_
    refine tt_lbi (fun y5 => ?_)
    refine tt_istore_n (L2 := [(3, .int y5), (2, .int v4), (0, .ref (ad 0)), (1, .int x1)]) C dX8_soonest_22 rfl (by decide) rfl ?_
    refine tt_iconst (v := (0 : Int32)) C dX8_soonest_23 (by decide) ?_
    refine tt_lbi (fun y6 => ?_)
    refine tt_istore (L2 := [(4, .int y6), (3, .int y5), (2, .int v4), (0, .ref (ad 0)), (1, .int x1)]) C dX8_soonest_24 (by decide) rfl ?_
    refine tt_iconst (v := (0 : Int32)) C dX8_soonest_26 (by decide) ?_
    refine tt_lbi (fun y7 => ?_)
    refine tt_istore (L2 := [(5, .int y7), (4, .int y6), (3, .int y5), (2, .int v4), (0, .ref (ad 0)), (1, .int x1)]) C dX8_soonest_27 (by decide) rfl ?_
    refine tt_sub [4, 5, 3, 2, 1, 0] (L2 := [(0, .ref (ad 0)), (1, .int x1), (2, .int v4), (3, .int y5), (4, .int y6), (5, .int y7)]) rfl ?_
    exact wX8_soonest_L29 C hr FU x1 v4 y5 y6 y7 m3
theorem kX8_soonest {l : Launch} {A : Nat → Prop} {D : va_G} {ad : Nat → Nat} {cA : Nat → ClassId} (hPk : Pk A dsM ad cA EM) {x1 : Int32} {μ : Mem} {v : Int32} {ν : Mem} (h : fX8_soonest x1 μ = some (v, ν)) : Ct l A dsM D ad cA EM yX8_soonest cX8_soonest 7 (some .int) 4 [.ref (ad 0), .int x1] μ (enI (v, ν)) :=
  ct_of (by decide) (Nat.le_of_ble_eq_true rfl) hPk rfl (fun p e s m args below meth c C hr => wX8_soonest C hr x1 μ) h

/-! BasketRoundModel.spent(I)I -/
def fX8_spent_J46 (z0 : Int32) (μ : Mem) : Option (Int32 × Mem) := some (z0, μ)
set_option maxHeartbeats 4000000 in
set_option maxRecDepth 100000 in
theorem wX8_spent_J46 {p : Program} {l : Launch} {e : Env} {s : State} {m : MethodId} {args : Array Value} {below : List Frame} {meth : Method} {c : Code} {A : Nat → Prop} {D : va_G} {ad : Nat → Nat} {cA : Nat → ClassId} (C : Cx p s m args meth c cX8_spent RX8 2 A dsM D ad cA EM) (hr : meth.sig.returnType = some .int) (z0 : Int32) (μ : Mem) : T p l e (rmD 4) s m args below meth c 2 A dsM D ad cA enI (fX8_spent_J46 z0 μ) 46 [] [.int z0] μ := by
  unfold fX8_spent_J46
  exact tt_iret rfl C hr dX8_spent_46

def fX8_spent (x1 : Int32) (μ : Mem) : Option (Int32 × Mem) := bi (fX8_in x1.toInt64 (0 : Int64) (2 : Int64) μ) fun v2 m1 => if v2 = (0 : Int32) then (some ((-1 : Int32), m1)) else (bi (fX8_wholeRound m1) fun v4 m3 => if x1 = (0 : Int32) then (fX8_spent_J46 (m3 0 29) m3) else (if x1 = (1 : Int32) then (fX8_spent_J46 (m3 0 30) m3) else (fX8_spent_J46 (m3 0 31) m3)))
set_option maxHeartbeats 4000000 in
set_option maxRecDepth 100000 in
theorem wX8_spent {p : Program} {l : Launch} {e : Env} {s : State} {m : MethodId} {args : Array Value} {below : List Frame} {meth : Method} {c : Code} {A : Nat → Prop} {D : va_G} {ad : Nat → Nat} {cA : Nat → ClassId} (C : Cx p s m args meth c cX8_spent RX8 2 A dsM D ad cA EM) (hr : meth.sig.returnType = some .int) (x1 : Int32) (μ : Mem) : T p l e (rmD 4) s m args below meth c 2 A dsM D ad cA enI (fX8_spent x1 μ) 0 [(0, .ref (ad 0)), (1, .int x1)] [] μ := by
  unfold fX8_spent
  refine tt_iload_n C 1 dX8_spent_0 rfl rfl ?_
  refine tt_i2l C dX8_spent_1 ?_
  refine tt_lconst (v := (0 : Int64)) C dX8_spent_2 (by decide) ?_
  refine tt_ldc2 (v := (2 : Int64)) C kL_RX8_251 dX8_spent_3 ?_
  refine tt_bi (fun v2 m1 h1 => ?_)
  refine tt_callS (st := []) (As := [.long x1.toInt64, .long (0 : Int64), .long (2 : Int64)]) C (kX8_in C.2.2.2.2.2.2.2.1 h1) mi_X8_in ml_RX8_70 mt_X8_in rfl (by decide) (by decide) (Nat.le_of_ble_eq_true rfl) dX8_spent_6 ?_
  refine tt_if (fun h2 => ?_) (fun h2 => ?_)
  · refine tt_if_neF C 14 h2 dX8_spent_9 (by decide) ?_
    refine tt_iconst (v := (-1 : Int32)) C dX8_spent_12 (by decide) ?_
    exact tt_iret rfl C hr dX8_spent_13
  · refine tt_if_neT (tgt := 14) C h2 dX8_spent_9 (by decide) ?_
    refine tt_aload_n C 0 dX8_spent_14 rfl rfl ?_
    refine tt_bi (fun v4 m3 h3 => ?_)
    refine tt_callV (st := []) (As := []) C (kX8_wholeRound C.2.2.2.2.2.2.2.1 h3) mi_X8_wholeRound ml_RX8_245 mv_X8_wholeRound ms_X8_wholeRound (q := (RX8, TX8, 45)) dM_0 rfl rfl (by decide) (by decide) (Nat.le_of_ble_eq_true rfl) dX8_spent_15 ?_
    refine tt_pop C dX8_spent_18 rfl ?_
    refine tt_iload_n C 1 dX8_spent_19 rfl rfl ?_
    refine tt_if (fun h4 => ?_) (fun h4 => ?_)
    · refine tt_if_neF C 30 h4 dX8_spent_20 (by decide) ?_
      refine tt_aload_n C 0 dX8_spent_23 rfl rfl ?_
      refine tt_getI C (j := 29) dM_0 rfl fl_RX8_212 dX8_spent_24 ?_
      refine tt_goto (tgt := 46) C dX8_spent_27 (by decide) ?_
      refine tt_sub [] (L2 := []) rfl ?_
      exact wX8_spent_J46 C hr (m3 0 29) m3
    · refine tt_if_neT (tgt := 30) C h4 dX8_spent_20 (by decide) ?_
      refine tt_iload_n C 1 dX8_spent_30 rfl rfl ?_
      refine tt_iconst (v := (1 : Int32)) C dX8_spent_31 (by decide) ?_
      refine tt_if (fun h5 => ?_) (fun h5 => ?_)
      · refine tt_icmp_neF C 42 h5 dX8_spent_32 (by decide) ?_
        refine tt_aload_n C 0 dX8_spent_35 rfl rfl ?_
        refine tt_getI C (j := 30) dM_0 rfl fl_RX8_215 dX8_spent_36 ?_
        refine tt_goto (tgt := 46) C dX8_spent_39 (by decide) ?_
        refine tt_sub [] (L2 := []) rfl ?_
        exact wX8_spent_J46 C hr (m3 0 30) m3
      · refine tt_icmp_neT (tgt := 42) C h5 dX8_spent_32 (by decide) ?_
        refine tt_aload_n C 0 dX8_spent_42 rfl rfl ?_
        refine tt_getI C (j := 31) dM_0 rfl fl_RX8_218 dX8_spent_43 ?_
        refine tt_sub [] (L2 := []) rfl ?_
        exact wX8_spent_J46 C hr (m3 0 31) m3
theorem kX8_spent {l : Launch} {A : Nat → Prop} {D : va_G} {ad : Nat → Nat} {cA : Nat → ClassId} (hPk : Pk A dsM ad cA EM) {x1 : Int32} {μ : Mem} {v : Int32} {ν : Mem} (h : fX8_spent x1 μ = some (v, ν)) : Ct l A dsM D ad cA EM yX8_spent cX8_spent 2 (some .int) 4 [.ref (ad 0), .int x1] μ (enI (v, ν)) :=
  ct_of (by decide) (Nat.le_of_ble_eq_true rfl) hPk rfl (fun p e s m args below meth c C hr => wX8_spent C hr x1 μ) h

/-! BasketRoundModel.twice(I)I -/
def fX8_twice (x1 : Int32) (μ : Mem) : Option (Int32 × Mem) := bv (fX8_clears μ) fun m1 => gr (31 : Int32) 160 <| bi (fX8_goes x1 (m1 1 (31 : Int32).toNatClampNeg) m1) fun v3 m2 => bi (fX8_every m2) fun v5 m4 => bi (fX8_goes (v5 &&& (x1 ^^^ (-1 : Int32))) v3 m4) fun v7 m6 => some (v7, m6)
set_option maxHeartbeats 4000000 in
set_option maxRecDepth 100000 in
theorem wX8_twice {p : Program} {l : Launch} {e : Env} {s : State} {m : MethodId} {args : Array Value} {below : List Frame} {meth : Method} {c : Code} {A : Nat → Prop} {D : va_G} {ad : Nat → Nat} {cA : Nat → ClassId} (C : Cx p s m args meth c cX8_twice RX8 3 A dsM D ad cA EM) (hr : meth.sig.returnType = some .int) (x1 : Int32) (μ : Mem) : T p l e (rmD 3) s m args below meth c 3 A dsM D ad cA enI (fX8_twice x1 μ) 0 [(0, .ref (ad 0)), (1, .int x1)] [] μ := by
  unfold fX8_twice
  refine tt_aload_n C 0 dX8_twice_0 rfl rfl ?_
  refine tt_bv (fun m1 h1 => ?_)
  refine tt_callV (st := []) (As := []) C (kX8_clears C.2.2.2.2.2.2.2.1 h1) mi_X8_clears ml_RX8_236 mv_X8_clears ms_X8_clears (q := (RX8, TX8, 45)) dM_0 rfl rfl (by decide) (by decide) (Nat.le_of_ble_eq_true rfl) dX8_twice_1 ?_
  refine tt_aload_n C 0 dX8_twice_4 rfl rfl ?_
  refine tt_iload_n C 1 dX8_twice_5 rfl rfl ?_
  refine tt_aload_n C 0 dX8_twice_6 rfl rfl ?_
  refine tt_getR C (j := 0) (r0 := 1) dM_0 rfl fl_RX8_7 dX8_twice_7 ?_
  refine tt_bipush (v := (31 : Int32)) C dX8_twice_10 (by decide) ?_
  refine tt_gr (fun h2 => ?_)
  refine tt_iald C dM_1 h2 dX8_twice_12 ?_
  refine tt_bi (fun v3 m2 h3 => ?_)
  refine tt_callV (st := []) (As := [.int x1, .int (m1 1 (31 : Int32).toNatClampNeg)]) C (kX8_goes C.2.2.2.2.2.2.2.1 h3) mi_X8_goes ml_RX8_242 mv_X8_goes ms_X8_goes (q := (RX8, TX8, 45)) dM_0 rfl rfl (by decide) (by decide) (Nat.le_of_ble_eq_true rfl) dX8_twice_13 ?_
  refine tt_istore_n (L2 := [(2, .int v3), (0, .ref (ad 0)), (1, .int x1)]) C dX8_twice_16 rfl (by decide) rfl ?_
  refine tt_aload_n C 1 dX8_twice_17 rfl rfl ?_
  refine tt_aload_n C 1 dX8_twice_18 rfl rfl ?_
  refine tt_bi (fun v5 m4 h4 => ?_)
  refine tt_callV (st := [.ref (ad 0)]) (As := []) C (kX8_every C.2.2.2.2.2.2.2.1 h4) mi_X8_every ml_RX8_239 mv_X8_every ms_X8_every (q := (RX8, TX8, 45)) dM_0 rfl rfl (by decide) (by decide) (Nat.le_of_ble_eq_true rfl) dX8_twice_19 ?_
  refine tt_iload_n C 2 dX8_twice_22 rfl rfl ?_
  refine tt_iconst (v := (-1 : Int32)) C dX8_twice_23 (by decide) ?_
  refine tt_ixor C dX8_twice_24 ?_
  refine tt_iand C dX8_twice_25 ?_
  refine tt_iload_n C 0 dX8_twice_26 rfl rfl ?_
  refine tt_bi (fun v7 m6 h5 => ?_)
  refine tt_callV (st := []) (As := [.int (v5 &&& (x1 ^^^ (-1 : Int32))), .int v3]) C (kX8_goes C.2.2.2.2.2.2.2.1 h5) mi_X8_goes ml_RX8_242 mv_X8_goes ms_X8_goes (q := (RX8, TX8, 45)) dM_0 rfl rfl (by decide) (by decide) (Nat.le_of_ble_eq_true rfl) dX8_twice_27 ?_
  exact tt_iret rfl C hr dX8_twice_30
theorem kX8_twice {l : Launch} {A : Nat → Prop} {D : va_G} {ad : Nat → Nat} {cA : Nat → ClassId} (hPk : Pk A dsM ad cA EM) {x1 : Int32} {μ : Mem} {v : Int32} {ν : Mem} (h : fX8_twice x1 μ = some (v, ν)) : Ct l A dsM D ad cA EM yX8_twice cX8_twice 3 (some .int) 3 [.ref (ad 0), .int x1] μ (enI (v, ν)) :=
  ct_of (by decide) (Nat.le_of_ble_eq_true rfl) hPk rfl (fun p e s m args below meth c C hr => wX8_twice C hr x1 μ) h

