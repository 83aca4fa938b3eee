/-! BasketRound.fits(I)I -/
def fX7_fits_J128 (k41 : Int32 → Int32 → Int32 → Int32 → Int32 → Int32 → Int32 → Mem → Option (Int32 × Mem)) (x1 : Int32) (x2 : Int32) (x3 : Int32) (x4 : Int32) (x5 : Int32) (x6 : Int32) (x7 : Int32) (μ : Mem) : Option (Int32 × Mem) := bv (fX7_toNextArrangement 25 x2 μ) fun m1 => lb (x7 + (1 : Int32)) fun (y2 : Int32) => k41 x1 x2 x3 x4 x5 x6 y2 m1
set_option maxHeartbeats 4000000 in
set_option maxRecDepth 100000 in
theorem wX7_fits_J128 {p : Program} {l : Launch} {e : Env} {s : State} {m : MethodId} {args : Array Value} {below : List Frame} {meth : Method} {c : Code} {A : Nat → Prop} {D : va_G} {ad : Nat → Nat} {cA : Nat → ClassId} (C : Cx p s m args meth c cX7_fits RX7 8 A dsX D ad cA (EX A ad)) (hr : meth.sig.returnType = some .int) (k41 : Int32 → Int32 → Int32 → Int32 → Int32 → Int32 → Int32 → Mem → Option (Int32 × Mem)) (hk41 : ∀ (x1 : Int32) (x2 : Int32) (x3 : Int32) (x4 : Int32) (x5 : Int32) (x6 : Int32) (x7 : Int32) (μ : Mem), T p l e (rmD 3) s m args below meth c 8 A dsX D ad cA enI (k41 x1 x2 x3 x4 x5 x6 x7 μ) 41 [(0, .ref (ad 0)), (1, .int x1), (2, .int x2), (3, .int x3), (4, .int x4), (5, .int x5), (6, .int x6), (7, .int x7)] [] μ) (x1 : Int32) (x2 : Int32) (x3 : Int32) (x4 : Int32) (x5 : Int32) (x6 : Int32) (x7 : Int32) (μ : Mem) : T p l e (rmD 3) s m args below meth c 8 A dsX D ad cA enI (fX7_fits_J128 k41 x1 x2 x3 x4 x5 x6 x7 μ) 128 [(0, .ref (ad 0)), (1, .int x1), (2, .int x2), (3, .int x3), (4, .int x4), (5, .int x5), (6, .int x6), (7, .int x7)] [] μ := by
  unfold fX7_fits_J128
  refine tt_aload_n C 0 dX7_fits_128 rfl rfl ?_
  refine tt_getR C (j := 3) (r0 := 24) dX_0 rfl fl_RX7_37 dX7_fits_129 ?_
  refine tt_getR C (j := 1) (r0 := 25) dX_24 rfl fl_RX7_227 dX7_fits_132 ?_
  refine tt_iload_n C 2 dX7_fits_135 rfl rfl ?_
  refine tt_bv (fun m1 h1 => ?_)
  refine tt_callS (st := []) (As := [.ref (ad 25), .int x2]) C (kX7_toNextArrangement C.2.2.2.2.2.2.2.1 25 dX_25 h1) mi_X7_toNextArrangement ml_RX7_230 mt_X7_toNextArrangement rfl (by decide) (by decide) (Nat.le_of_ble_eq_true rfl) dX7_fits_136 ?_
  refine tt_iincB (d := (1 : Int32)) C 7 (fun y2 => [(7, .int y2), (0, .ref (ad 0)), (1, .int x1), (2, .int x2), (3, .int x3), (4, .int x4), (5, .int x5), (6, .int x6)]) dX7_fits_139 rfl (by decide) (by decide) (fun _ => rfl) (fun y2 => ?_)
  refine tt_goto (tgt := 41) C dX7_fits_142 (by decide) ?_
  refine tt_sub [1, 2, 3, 4, 5, 6, 7, 0] (L2 := [(0, .ref (ad 0)), (1, .int x1), (2, .int x2), (3, .int x3), (4, .int x4), (5, .int x5), (6, .int x6), (7, .int y2)]) rfl ?_
  exact hk41 x1 x2 x3 x4 x5 x6 y2 m1

def fX7_fits_J122 (k41 : Int32 → Int32 → Int32 → Int32 → Int32 → Int32 → Int32 → Mem → Option (Int32 × Mem)) (x1 : Int32) (x2 : Int32) (x3 : Int32) (x4 : Int32) (x5 : Int32) (x7 : Int32) (z0 : Int32) (z1 : Int32) (μ : Mem) : Option (Int32 × Mem) := lb (z0 ||| z1) fun (y1 : Int32) => lb (x4 + (1 : Int32)) fun (y2 : Int32) => fX7_fits_J128 k41 x1 x2 x3 y2 x5 y1 x7 μ
set_option maxHeartbeats 4000000 in
set_option maxRecDepth 100000 in
theorem wX7_fits_J122 {p : Program} {l : Launch} {e : Env} {s : State} {m : MethodId} {args : Array Value} {below : List Frame} {meth : Method} {c : Code} {A : Nat → Prop} {D : va_G} {ad : Nat → Nat} {cA : Nat → ClassId} (C : Cx p s m args meth c cX7_fits RX7 8 A dsX D ad cA (EX A ad)) (hr : meth.sig.returnType = some .int) (k41 : Int32 → Int32 → Int32 → Int32 → Int32 → Int32 → Int32 → Mem → Option (Int32 × Mem)) (hk41 : ∀ (x1 : Int32) (x2 : Int32) (x3 : Int32) (x4 : Int32) (x5 : Int32) (x6 : Int32) (x7 : Int32) (μ : Mem), T p l e (rmD 3) s m args below meth c 8 A dsX D ad cA enI (k41 x1 x2 x3 x4 x5 x6 x7 μ) 41 [(0, .ref (ad 0)), (1, .int x1), (2, .int x2), (3, .int x3), (4, .int x4), (5, .int x5), (6, .int x6), (7, .int x7)] [] μ) (x1 : Int32) (x2 : Int32) (x3 : Int32) (x4 : Int32) (x5 : Int32) (x7 : Int32) (z0 : Int32) (z1 : Int32) (μ : Mem) : T p l e (rmD 3) s m args below meth c 8 A dsX D ad cA enI (fX7_fits_J122 k41 x1 x2 x3 x4 x5 x7 z0 z1 μ) 122 [(0, .ref (ad 0)), (1, .int x1), (2, .int x2), (3, .int x3), (4, .int x4), (5, .int x5), (7, .int x7)] [.int z1, .int z0] μ := by
  unfold fX7_fits_J122
  refine tt_ior C dX7_fits_122 ?_
  refine tt_lbi (fun y1 => ?_)
  refine tt_istore (L2 := [(6, .int y1), (0, .ref (ad 0)), (1, .int x1), (2, .int x2), (3, .int x3), (4, .int x4), (5, .int x5), (7, .int x7)]) C dX7_fits_123 (by decide) rfl ?_
  refine tt_iincB (d := (1 : Int32)) C 5 (fun y2 => [(4, .int y2), (6, .int y1), (0, .ref (ad 0)), (1, .int x1), (2, .int x2), (3, .int x3), (5, .int x5), (7, .int x7)]) dX7_fits_125 rfl (by decide) (by decide) (fun _ => rfl) (fun y2 => ?_)
  refine tt_sub [2, 3, 4, 5, 0, 6, 1, 7] (L2 := [(0, .ref (ad 0)), (1, .int x1), (2, .int x2), (3, .int x3), (4, .int y2), (5, .int x5), (6, .int y1), (7, .int x7)]) rfl ?_
  exact wX7_fits_J128 C hr k41 hk41 x1 x2 x3 y2 x5 y1 x7 μ

def fX7_fits_J99 (k41 : Int32 → Int32 → Int32 → Int32 → Int32 → Int32 → Int32 → Mem → Option (Int32 × Mem)) (x1 : Int32) (x2 : Int32) (x3 : Int32) (x4 : Int32) (x6 : Int32) (x7 : Int32) (z0 : Int32) (μ : Mem) : Option (Int32 × Mem) := if x2 = (0 : Int32) then (fX7_fits_J122 k41 x1 x2 x3 x4 z0 x7 x6 (0 : Int32) μ) else (gr (0 : Int32) 5 <| fX7_fits_J122 k41 x1 x2 x3 x4 z0 x7 x6 ((1 : Int32) <<< ((μ 25 (0 : Int32).toNatClampNeg) &&& 31)) μ)
set_option maxHeartbeats 4000000 in
set_option maxRecDepth 100000 in
theorem wX7_fits_J99 {p : Program} {l : Launch} {e : Env} {s : State} {m : MethodId} {args : Array Value} {below : List Frame} {meth : Method} {c : Code} {A : Nat → Prop} {D : va_G} {ad : Nat → Nat} {cA : Nat → ClassId} (C : Cx p s m args meth c cX7_fits RX7 8 A dsX D ad cA (EX A ad)) (hr : meth.sig.returnType = some .int) (k41 : Int32 → Int32 → Int32 → Int32 → Int32 → Int32 → Int32 → Mem → Option (Int32 × Mem)) (hk41 : ∀ (x1 : Int32) (x2 : Int32) (x3 : Int32) (x4 : Int32) (x5 : Int32) (x6 : Int32) (x7 : Int32) (μ : Mem), T p l e (rmD 3) s m args below meth c 8 A dsX D ad cA enI (k41 x1 x2 x3 x4 x5 x6 x7 μ) 41 [(0, .ref (ad 0)), (1, .int x1), (2, .int x2), (3, .int x3), (4, .int x4), (5, .int x5), (6, .int x6), (7, .int x7)] [] μ) (x1 : Int32) (x2 : Int32) (x3 : Int32) (x4 : Int32) (x6 : Int32) (x7 : Int32) (z0 : Int32) (μ : Mem) : T p l e (rmD 3) s m args below meth c 8 A dsX D ad cA enI (fX7_fits_J99 k41 x1 x2 x3 x4 x6 x7 z0 μ) 99 [(0, .ref (ad 0)), (1, .int x1), (2, .int x2), (3, .int x3), (4, .int x4), (6, .int x6), (7, .int x7)] [.int z0] μ := by
  unfold fX7_fits_J99
  refine tt_istore (L2 := [(5, .int z0), (0, .ref (ad 0)), (1, .int x1), (2, .int x2), (3, .int x3), (4, .int x4), (6, .int x6), (7, .int x7)]) C dX7_fits_99 (by decide) rfl ?_
  refine tt_iload C 6 dX7_fits_101 rfl ?_
  refine tt_iload_n C 3 dX7_fits_103 rfl rfl ?_
  refine tt_if (fun h1 => ?_) (fun h1 => ?_)
  · refine tt_if_neF C 111 h1 dX7_fits_104 (by decide) ?_
    refine tt_iconst (v := (0 : Int32)) C dX7_fits_107 (by decide) ?_
    refine tt_goto (tgt := 122) C dX7_fits_108 (by decide) ?_
    refine tt_sub [1, 2, 3, 4, 5, 0, 7] (L2 := [(0, .ref (ad 0)), (1, .int x1), (2, .int x2), (3, .int x3), (4, .int x4), (5, .int z0), (7, .int x7)]) rfl ?_
    exact wX7_fits_J122 C hr k41 hk41 x1 x2 x3 x4 z0 x7 x6 (0 : Int32) μ
  · refine tt_if_neT (tgt := 111) C h1 dX7_fits_104 (by decide) ?_
    refine tt_iconst (v := (1 : Int32)) C dX7_fits_111 (by decide) ?_
    refine tt_aload_n C 1 dX7_fits_112 rfl rfl ?_
    refine tt_getR C (j := 3) (r0 := 24) dX_0 rfl fl_RX7_37 dX7_fits_113 ?_
    refine tt_getR C (j := 1) (r0 := 25) dX_24 rfl fl_RX7_227 dX7_fits_116 ?_
    refine tt_iconst (v := (0 : Int32)) C dX7_fits_119 (by decide) ?_
    refine tt_gr (fun h2 => ?_)
    refine tt_iald C dX_25 h2 dX7_fits_120 ?_
    refine tt_ishl C dX7_fits_121 ?_
    refine tt_sub [1, 2, 3, 4, 5, 0, 7] (L2 := [(0, .ref (ad 0)), (1, .int x1), (2, .int x2), (3, .int x3), (4, .int x4), (5, .int z0), (7, .int x7)]) rfl ?_
    exact wX7_fits_J122 C hr k41 hk41 x1 x2 x3 x4 z0 x7 x6 ((1 : Int32) <<< ((μ 25 (0 : Int32).toNatClampNeg) &&& 31)) μ

def fX7_fits_L41 : Nat → Int32 → Int32 → Int32 → Int32 → Int32 → Int32 → Int32 → Mem → Option (Int32 × Mem)
  | 0, _, _, _, _, _, _, _, _ => none
  | fu + 1, x1, x2, x3, x4, x5, x6, x7, μ => if x3 ≤ x7 then (if x1 = (0 : Int32) then (some (x4, μ)) else (if x1 = (1 : Int32) then (some (x5, μ)) else (some (x6, μ)))) else (bv (fX6_ride μ) fun m1 => bv (fX6_finish m1) fun m2 => bi (fX2_agreesWith 29 m2) fun v4 m3 => if v4 = (0 : Int32) then (fX7_fits_J128 (fun x1 x2 x3 x4 x5 x6 x7 μ => fX7_fits_L41 fu x1 x2 x3 x4 x5 x6 x7 μ) x1 x2 x3 x4 x5 x6 x7 m3) else (if x4 = (0 : Int32) then (bi (fX7_numberOf 25 x2 m3) fun v6 m5 => fX7_fits_J99 (fun x1 x2 x3 x4 x5 x6 x7 μ => fX7_fits_L41 fu x1 x2 x3 x4 x5 x6 x7 μ) x1 x2 x3 x4 x6 x7 v6 m5) else (fX7_fits_J99 (fun x1 x2 x3 x4 x5 x6 x7 μ => fX7_fits_L41 fu x1 x2 x3 x4 x5 x6 x7 μ) x1 x2 x3 x4 x6 x7 x5 m3)))
set_option maxHeartbeats 4000000 in
set_option maxRecDepth 100000 in
theorem wX7_fits_L41 {p : Program} {l : Launch} {e : Env} {s : State} {m : MethodId} {args : Array Value} {below : List Frame} {meth : Method} {c : Code} {A : Nat → Prop} {D : va_G} {ad : Nat → Nat} {cA : Nat → ClassId} (C : Cx p s m args meth c cX7_fits RX7 8 A dsX D ad cA (EX A ad)) (hr : meth.sig.returnType = some .int) : ∀ (fu : Nat) (x1 : Int32) (x2 : Int32) (x3 : Int32) (x4 : Int32) (x5 : Int32) (x6 : Int32) (x7 : Int32) (μ : Mem), T p l e (rmD 3) s m args below meth c 8 A dsX D ad cA enI (fX7_fits_L41 fu x1 x2 x3 x4 x5 x6 x7 μ) 41 [(0, .ref (ad 0)), (1, .int x1), (2, .int x2), (3, .int x3), (4, .int x4), (5, .int x5), (6, .int x6), (7, .int x7)] [] μ
  | 0, _, _, _, _, _, _, _, _ => tt_none
  | fu + 1, x1, x2, x3, x4, x5, x6, x7, μ => by
    have ih := fun (x1 : Int32) (x2 : Int32) (x3 : Int32) (x4 : Int32) (x5 : Int32) (x6 : Int32) (x7 : Int32) (μ : Mem) => wX7_fits_L41 (l := l) (e := e) (below := below) C hr fu x1 x2 x3 x4 x5 x6 x7 μ
    show T p l e (rmD 3) s m args below meth c 8 A dsX D ad cA enI (if x3 ≤ x7 then (if x1 = (0 : Int32) then (some (x4, μ)) else (if x1 = (1 : Int32) then (some (x5, μ)) else (some (x6, μ)))) else (bv (fX6_ride μ) fun m1 => bv (fX6_finish m1) fun m2 => bi (fX2_agreesWith 29 m2) fun v4 m3 => if v4 = (0 : Int32) then (fX7_fits_J128 (fun x1 x2 x3 x4 x5 x6 x7 μ => fX7_fits_L41 fu x1 x2 x3 x4 x5 x6 x7 μ) x1 x2 x3 x4 x5 x6 x7 m3) else (if x4 = (0 : Int32) then (bi (fX7_numberOf 25 x2 m3) fun v6 m5 => fX7_fits_J99 (fun x1 x2 x3 x4 x5 x6 x7 μ => fX7_fits_L41 fu x1 x2 x3 x4 x5 x6 x7 μ) x1 x2 x3 x4 x6 x7 v6 m5) else (fX7_fits_J99 (fun x1 x2 x3 x4 x5 x6 x7 μ => fX7_fits_L41 fu x1 x2 x3 x4 x5 x6 x7 μ) x1 x2 x3 x4 x6 x7 x5 m3)))) 41 [(0, .ref (ad 0)), (1, .int x1), (2, .int x2), (3, .int x3), (4, .int x4), (5, .int x5), (6, .int x6), (7, .int x7)] [] μ
    refine tt_iload C 7 dX7_fits_41 rfl ?_
    refine tt_iload_n C 3 dX7_fits_43 rfl rfl ?_
    refine tt_if (fun h1 => ?_) (fun h1 => ?_)
    · refine tt_icmp_geT (tgt := 145) C h1 dX7_fits_44 (by decide) ?_
      refine tt_iload_n C 1 dX7_fits_145 rfl rfl ?_
      refine tt_if (fun h2 => ?_) (fun h2 => ?_)
      · refine tt_look (off := 26) (tgt := 172) C dX7_fits_146 (by decide) (by rw [h2]; decide) (by decide) ?_
        refine tt_iload C 4 dX7_fits_172 rfl ?_
        exact tt_iret rfl C hr dX7_fits_174
      · skip
        refine tt_if (fun h3 => ?_) (fun h3 => ?_)
        · refine tt_look (off := 29) (tgt := 175) C dX7_fits_146 (by decide) (by rw [h3]; decide) (by decide) ?_
          refine tt_iload C 5 dX7_fits_175 rfl ?_
          exact tt_iret rfl C hr dX7_fits_177
        · skip
          refine tt_look (off := 32) (tgt := 178) C dX7_fits_146 (by decide) (by show Op.lookupswitch.offset [(0, 26), (1, 29)] 32 _ = _; rw [lv_osw h2 (show (0 : Int32).toInt = 0 by decide), lv_osw h3 (show (1 : Int32).toInt = 1 by decide)]; rfl) (by decide) ?_
          refine tt_iload C 6 dX7_fits_178 rfl ?_
          exact tt_iret rfl C hr dX7_fits_180
    · refine tt_icmp_geF C 145 h1 dX7_fits_44 (by decide) ?_
      refine tt_aload_n C 0 dX7_fits_47 rfl rfl ?_
      refine tt_getR C (j := 3) (r0 := 24) dX_0 rfl fl_RX7_37 dX7_fits_48 ?_
      refine tt_bv (fun m1 h4 => ?_)
      refine tt_callV (st := []) (As := []) C (kX6_ride C.2.2.2.2.2.2.2.1 h4) mi_X6_ride ml_RX7_212 mv_X6_ride ms_X6_ride (q := (RX6, TX6, 17)) dX_24 rfl rfl (by decide) (by decide) (Nat.le_of_ble_eq_true rfl) dX7_fits_51 ?_
      refine tt_aload_n C 0 dX7_fits_54 rfl rfl ?_
      refine tt_getR C (j := 3) (r0 := 24) dX_0 rfl fl_RX7_37 dX7_fits_55 ?_
      refine tt_bv (fun m2 h5 => ?_)
      refine tt_callV (st := []) (As := []) C (kX6_finish C.2.2.2.2.2.2.2.1 h5) mi_X6_finish ml_RX7_224 mv_X6_finish ms_X6_finish (q := (RX6, TX6, 17)) dX_24 rfl rfl (by decide) (by decide) (Nat.le_of_ble_eq_true rfl) dX7_fits_58 ?_
      refine tt_aload_n C 0 dX7_fits_61 rfl rfl ?_
      refine tt_getR C (j := 5) (r0 := 31) dX_0 rfl fl_RX7_51 dX7_fits_62 ?_
      refine tt_aload_n C 0 dX7_fits_65 rfl rfl ?_
      refine tt_getR C (j := 3) (r0 := 24) dX_0 rfl fl_RX7_37 dX7_fits_66 ?_
      refine tt_getR C (j := 5) (r0 := 29) dX_24 rfl fl_RX7_165 dX7_fits_69 ?_
      refine tt_bi (fun v4 m3 h6 => ?_)
      refine tt_callV (st := []) (As := [.ref (ad 29)]) C (kX2_agreesWith C.2.2.2.2.2.2.2.1 29 dX_29 h6) mi_X2_agreesWith ml_RX7_278 mv_X2_agreesWith ms_X2_agreesWith (q := (RX2, TX2, 3)) dX_31 rfl rfl (by decide) (by decide) (Nat.le_of_ble_eq_true rfl) dX7_fits_72 ?_
      refine tt_if (fun h7 => ?_) (fun h7 => ?_)
      · refine tt_if_eqT (tgt := 128) C h7 dX7_fits_75 (by decide) ?_
        refine tt_sub [0, 1, 2, 3, 4, 5, 6, 7] (L2 := [(0, .ref (ad 0)), (1, .int x1), (2, .int x2), (3, .int x3), (4, .int x4), (5, .int x5), (6, .int x6), (7, .int x7)]) rfl ?_
        exact wX7_fits_J128 C hr (fun x1 x2 x3 x4 x5 x6 x7 μ => fX7_fits_L41 fu x1 x2 x3 x4 x5 x6 x7 μ) (fun x1 x2 x3 x4 x5 x6 x7 μ => ih x1 x2 x3 x4 x5 x6 x7 μ) x1 x2 x3 x4 x5 x6 x7 m3
      · refine tt_if_eqF C 128 h7 dX7_fits_75 (by decide) ?_
        refine tt_iload C 4 dX7_fits_78 rfl ?_
        refine tt_if (fun h8 => ?_) (fun h8 => ?_)
        · refine tt_if_neF C 97 h8 dX7_fits_80 (by decide) ?_
          refine tt_aload_n C 0 dX7_fits_83 rfl rfl ?_
          refine tt_getR C (j := 3) (r0 := 24) dX_0 rfl fl_RX7_37 dX7_fits_84 ?_
          refine tt_getR C (j := 1) (r0 := 25) dX_24 rfl fl_RX7_227 dX7_fits_87 ?_
          refine tt_iload_n C 2 dX7_fits_90 rfl rfl ?_
          refine tt_bi (fun v6 m5 h9 => ?_)
          refine tt_callS (st := []) (As := [.ref (ad 25), .int x2]) C (kX7_numberOf C.2.2.2.2.2.2.2.1 25 dX_25 h9) mi_X7_numberOf ml_RX7_122 mt_X7_numberOf rfl (by decide) (by decide) (Nat.le_of_ble_eq_true rfl) dX7_fits_91 ?_
          refine tt_goto (tgt := 99) C dX7_fits_94 (by decide) ?_
          refine tt_sub [0, 1, 2, 3, 4, 6, 7] (L2 := [(0, .ref (ad 0)), (1, .int x1), (2, .int x2), (3, .int x3), (4, .int x4), (6, .int x6), (7, .int x7)]) rfl ?_
          exact wX7_fits_J99 C hr (fun x1 x2 x3 x4 x5 x6 x7 μ => fX7_fits_L41 fu x1 x2 x3 x4 x5 x6 x7 μ) (fun x1 x2 x3 x4 x5 x6 x7 μ => ih x1 x2 x3 x4 x5 x6 x7 μ) x1 x2 x3 x4 x6 x7 v6 m5
        · refine tt_if_neT (tgt := 97) C h8 dX7_fits_80 (by decide) ?_
          refine tt_iload C 5 dX7_fits_97 rfl ?_
          refine tt_sub [0, 1, 2, 3, 4, 6, 7] (L2 := [(0, .ref (ad 0)), (1, .int x1), (2, .int x2), (3, .int x3), (4, .int x4), (6, .int x6), (7, .int x7)]) rfl ?_
          exact wX7_fits_J99 C hr (fun x1 x2 x3 x4 x5 x6 x7 μ => fX7_fits_L41 fu x1 x2 x3 x4 x5 x6 x7 μ) (fun x1 x2 x3 x4 x5 x6 x7 μ => ih x1 x2 x3 x4 x5 x6 x7 μ) x1 x2 x3 x4 x6 x7 x5 m3

def fX7_fits (x1 : Int32) (μ : Mem) : Option (Int32 × Mem) := bi (fX7_within x1 (0 : Int32) (2 : Int32) μ) fun v2 m1 => if v2 = (0 : Int32) then (some ((-1 : Int32), m1)) else (lb (m1 3 5) fun (y3 : Int32) => bi (fX7_arrangements y3 m1) fun v5 m4 => lb (0 : Int32) fun (y6 : Int32) => lb (-4 : Int32) fun (y7 : Int32) => lb (0 : Int32) fun (y8 : Int32) => bv (fX7_takeRoundsFromFirst m4) fun m9 => lb (0 : Int32) fun (y10 : Int32) => fX7_fits_L41 FU x1 y3 v5 y6 y7 y8 y10 m9)
set_option maxHeartbeats 4000000 in
set_option maxRecDepth 100000 in
theorem wX7_fits {p : Program} {l : Launch} {e : Env} {s : State} {m : MethodId} {args : Array Value} {below : List Frame} {meth : Method} {c : Code} {A : Nat → Prop} {D : va_G} {ad : Nat → Nat} {cA : Nat → ClassId} (C : Cx p s m args meth c cX7_fits RX7 8 A dsX D ad cA (EX A ad)) (hr : meth.sig.returnType = some .int) (x1 : Int32) (μ : Mem) : T p l e (rmD 3) s m args below meth c 8 A dsX D ad cA enI (fX7_fits x1 μ) 0 [(0, .ref (ad 0)), (1, .int x1)] [] μ := by
  unfold fX7_fits
  refine tt_iload_n C 1 dX7_fits_0 rfl rfl ?_
  refine tt_iconst (v := (0 : Int32)) C dX7_fits_1 (by decide) ?_
  refine tt_iconst (v := (2 : Int32)) C dX7_fits_2 (by decide) ?_
  refine tt_bi (fun v2 m1 h1 => ?_)
  refine tt_callS (st := []) (As := [.int x1, .int (0 : Int32), .int (2 : Int32)]) C (kX7_within C.2.2.2.2.2.2.2.1 h1) mi_X7_within ml_RX7_70 mt_X7_within rfl (by decide) (by decide) (Nat.le_of_ble_eq_true rfl) dX7_fits_3 ?_
  refine tt_if (fun h2 => ?_) (fun h2 => ?_)
  · refine tt_if_neF C 11 h2 dX7_fits_6 (by decide) ?_
    refine tt_iconst (v := (-1 : Int32)) C dX7_fits_9 (by decide) ?_
    exact tt_iret rfl C hr dX7_fits_10
  · refine tt_if_neT (tgt := 11) C h2 dX7_fits_6 (by decide) ?_
    refine tt_aload_n C 0 dX7_fits_11 rfl rfl ?_
    refine tt_getR C (j := 1) (r0 := 3) dX_0 rfl fl_RX7_19 dX7_fits_12 ?_
    refine tt_getI C (j := 5) dX_3 rfl fl_RX7_109 dX7_fits_15 ?_
    refine tt_lbi (fun y3 => ?_)
    refine tt_istore_n (L2 := [(2, .int y3), (0, .ref (ad 0)), (1, .int x1)]) C dX7_fits_18 rfl (by decide) rfl ?_
    refine tt_iload_n C 0 dX7_fits_19 rfl rfl ?_
    refine tt_bi (fun v5 m4 h3 => ?_)
    refine tt_callS (st := []) (As := [.int y3]) C (kX7_arrangements C.2.2.2.2.2.2.2.1 h3) mi_X7_arrangements ml_RX7_218 mt_X7_arrangements rfl (by decide) (by decide) (Nat.le_of_ble_eq_true rfl) dX7_fits_20 ?_
    refine tt_istore_n (L2 := [(3, .int v5), (2, .int y3), (0, .ref (ad 0)), (1, .int x1)]) C dX7_fits_23 rfl (by decide) rfl ?_
    refine tt_iconst (v := (0 : Int32)) C dX7_fits_24 (by decide) ?_
    refine tt_lbi (fun y6 => ?_)
    refine tt_istore (L2 := [(4, .int y6), (3, .int v5), (2, .int y3), (0, .ref (ad 0)), (1, .int x1)]) C dX7_fits_25 (by decide) rfl ?_
    refine tt_bipush (v := (-4 : Int32)) C dX7_fits_27 (by decide) ?_
    refine tt_lbi (fun y7 => ?_)
    refine tt_istore (L2 := [(5, .int y7), (4, .int y6), (3, .int v5), (2, .int y3), (0, .ref (ad 0)), (1, .int x1)]) C dX7_fits_29 (by decide) rfl ?_
    refine tt_iconst (v := (0 : Int32)) C dX7_fits_31 (by decide) ?_
    refine tt_lbi (fun y8 => ?_)
    refine tt_istore (L2 := [(6, .int y8), (5, .int y7), (4, .int y6), (3, .int v5), (2, .int y3), (0, .ref (ad 0)), (1, .int x1)]) C dX7_fits_32 (by decide) rfl ?_
    refine tt_aload_n C 5 dX7_fits_34 rfl rfl ?_
    refine tt_bv (fun m9 h4 => ?_)
    refine tt_callV (st := []) (As := []) C (kX7_takeRoundsFromFirst C.2.2.2.2.2.2.2.1 h4) mi_X7_takeRoundsFromFirst ml_RX7_221 mv_X7_takeRoundsFromFirst ms_X7_takeRoundsFromFirst (q := (RX7, TX7, 11)) dX_0 rfl rfl (by decide) (by decide) (Nat.le_of_ble_eq_true rfl) dX7_fits_35 ?_
    refine tt_iconst (v := (0 : Int32)) C dX7_fits_38 (by decide) ?_
    refine tt_lbi (fun y10 => ?_)
    refine tt_istore (L2 := [(7, .int y10), (6, .int y8), (5, .int y7), (4, .int y6), (3, .int v5), (2, .int y3), (0, .ref (ad 0)), (1, .int x1)]) C dX7_fits_39 (by decide) rfl ?_
    refine tt_sub [6, 7, 5, 4, 3, 2, 1, 0] (L2 := [(0, .ref (ad 0)), (1, .int x1), (2, .int y3), (3, .int v5), (4, .int y6), (5, .int y7), (6, .int y8), (7, .int y10)]) rfl ?_
    exact wX7_fits_L41 C hr FU x1 y3 v5 y6 y7 y8 y10 m9
theorem kX7_fits {l : Launch} {A : Nat → Prop} {D : va_G} {ad : Nat → Nat} {cA : Nat → ClassId} (hPk : Pk A dsX ad cA (EX A ad)) {x1 : Int32} {μ : Mem} {v : Int32} {ν : Mem} (h : fX7_fits x1 μ = some (v, ν)) : Ct l A dsX D ad cA (EX A ad) yX7_fits cX7_fits 8 (some .int) 3 [.ref (ad 0), .int x1] μ (enI (v, ν)) :=
  ct_of (by decide) (Nat.le_of_ble_eq_true rfl) hPk rfl (fun p e s m args below meth c C hr => wX7_fits C hr x1 μ) h

/-! BasketRound.forget(I)I -/
def fX7_forget (x1 : Int32) (μ : Mem) : Option (Int32 × Mem) := bi (fX7_within x1 (0 : Int32) (μ 31 2) μ) fun v2 m1 => if v2 = (0 : Int32) then (some ((-1 : Int32), m1)) else (lb (m1 31 2) fun (y3 : Int32) => lb (wr m1 31 2 x1) fun m4 => some (y3, m4))
set_option maxHeartbeats 4000000 in
set_option maxRecDepth 100000 in
theorem wX7_forget {p : Program} {l : Launch} {e : Env} {s : State} {m : MethodId} {args : Array Value} {below : List Frame} {meth : Method} {c : Code} {A : Nat → Prop} {D : va_G} {ad : Nat → Nat} {cA : Nat → ClassId} (C : Cx p s m args meth c cX7_forget RX7 3 A dsX D ad cA (EX A ad)) (hr : meth.sig.returnType = some .int) (x1 : Int32) (μ : Mem) : T p l e (rmD 1) s m args below meth c 3 A dsX D ad cA enI (fX7_forget x1 μ) 0 [(0, .ref (ad 0)), (1, .int x1)] [] μ := by
  unfold fX7_forget
  refine tt_iload_n C 1 dX7_forget_0 rfl rfl ?_
  refine tt_iconst (v := (0 : Int32)) C dX7_forget_1 (by decide) ?_
  refine tt_aload_n C 0 dX7_forget_2 rfl rfl ?_
  refine tt_getR C (j := 5) (r0 := 31) dX_0 rfl fl_RX7_51 dX7_forget_3 ?_
  refine tt_getI C (j := 2) dX_31 rfl fl_RX7_100 dX7_forget_6 ?_
  refine tt_bi (fun v2 m1 h1 => ?_)
  refine tt_callS (st := []) (As := [.int x1, .int (0 : Int32), .int (μ 31 2)]) C (kX7_within C.2.2.2.2.2.2.2.1 h1) mi_X7_within ml_RX7_70 mt_X7_within rfl (by decide) (by decide) (Nat.le_of_ble_eq_true rfl) dX7_forget_9 ?_
  refine tt_if (fun h2 => ?_) (fun h2 => ?_)
  · refine tt_if_neF C 17 h2 dX7_forget_12 (by decide) ?_
    refine tt_iconst (v := (-1 : Int32)) C dX7_forget_15 (by decide) ?_
    exact tt_iret rfl C hr dX7_forget_16
  · refine tt_if_neT (tgt := 17) C h2 dX7_forget_12 (by decide) ?_
    refine tt_aload_n C 0 dX7_forget_17 rfl rfl ?_
    refine tt_getR C (j := 5) (r0 := 31) dX_0 rfl fl_RX7_51 dX7_forget_18 ?_
    refine tt_getI C (j := 2) dX_31 rfl fl_RX7_100 dX7_forget_21 ?_
    refine tt_lbi (fun y3 => ?_)
    refine tt_istore_n (L2 := [(2, .int y3), (0, .ref (ad 0)), (1, .int x1)]) C dX7_forget_24 rfl (by decide) rfl ?_
    refine tt_aload_n C 1 dX7_forget_25 rfl rfl ?_
    refine tt_getR C (j := 5) (r0 := 31) dX_0 rfl fl_RX7_51 dX7_forget_26 ?_
    refine tt_iload_n C 2 dX7_forget_29 rfl rfl ?_
    refine tt_putI C (j := 2) dX_31 rfl fl_RX7_100 fw_2_2 dX7_forget_30 ?_
    refine tt_lbm (fun m4 => ?_)
    refine tt_iload_n C 0 dX7_forget_33 rfl rfl ?_
    exact tt_iret rfl C hr dX7_forget_34
theorem kX7_forget {l : Launch} {A : Nat → Prop} {D : va_G} {ad : Nat → Nat} {cA : Nat → ClassId} (hPk : Pk A dsX ad cA (EX A ad)) {x1 : Int32} {μ : Mem} {v : Int32} {ν : Mem} (h : fX7_forget x1 μ = some (v, ν)) : Ct l A dsX D ad cA (EX A ad) yX7_forget cX7_forget 3 (some .int) 1 [.ref (ad 0), .int x1] μ (enI (v, ν)) :=
  ct_of (by decide) (Nat.le_of_ble_eq_true rfl) hPk rfl (fun p e s m args below meth c C hr => wX7_forget C hr x1 μ) h

/-! BasketRound.goTwice(I)I -/
def fX7_goTwice (x1 : Int32) (μ : Mem) : Option (Int32 × Mem) := bi (fX7_goSome x1 (μ 3 7) μ) fun v2 m1 => bi (fX7_allBits m1) fun v4 m3 => bi (fX7_goSome (v4 &&& (x1 ^^^ (-1 : Int32))) (m3 24 13) m3) fun v6 m5 => some ((v2 + v6), m5)
set_option maxHeartbeats 4000000 in
set_option maxRecDepth 100000 in
theorem wX7_goTwice {p : Program} {l : Launch} {e : Env} {s : State} {m : MethodId} {args : Array Value} {below : List Frame} {meth : Method} {c : Code} {A : Nat → Prop} {D : va_G} {ad : Nat → Nat} {cA : Nat → ClassId} (C : Cx p s m args meth c cX7_goTwice RX7 3 A dsX D ad cA (EX A ad)) (hr : meth.sig.returnType = some .int) (x1 : Int32) (μ : Mem) : T p l e (rmD 4) s m args below meth c 3 A dsX D ad cA enI (fX7_goTwice x1 μ) 0 [(0, .ref (ad 0)), (1, .int x1)] [] μ := by
  unfold fX7_goTwice
  refine tt_aload_n C 0 dX7_goTwice_0 rfl rfl ?_
  refine tt_iload_n C 1 dX7_goTwice_1 rfl rfl ?_
  refine tt_aload_n C 0 dX7_goTwice_2 rfl rfl ?_
  refine tt_getR C (j := 1) (r0 := 3) dX_0 rfl fl_RX7_19 dX7_goTwice_3 ?_
  refine tt_getI C (j := 7) dX_3 rfl fl_RX7_115 dX7_goTwice_6 ?_
  refine tt_bi (fun v2 m1 h1 => ?_)
  refine tt_callV (st := []) (As := [.int x1, .int (μ 3 7)]) C (kX7_goSome C.2.2.2.2.2.2.2.1 h1) mi_X7_goSome ml_RX7_252 mv_X7_goSome ms_X7_goSome (q := (RX7, TX7, 11)) dX_0 rfl rfl (by decide) (by decide) (Nat.le_of_ble_eq_true rfl) dX7_goTwice_9 ?_
  refine tt_istore_n (L2 := [(2, .int v2), (0, .ref (ad 0)), (1, .int x1)]) C dX7_goTwice_12 rfl (by decide) rfl ?_
  refine tt_iload_n C 0 dX7_goTwice_13 rfl rfl ?_
  refine tt_aload_n C 1 dX7_goTwice_14 rfl rfl ?_
  refine tt_aload_n C 1 dX7_goTwice_15 rfl rfl ?_
  refine tt_bi (fun v4 m3 h2 => ?_)
  refine tt_callV (st := [.ref (ad 0), .int v2]) (As := []) C (kX7_allBits C.2.2.2.2.2.2.2.1 h2) mi_X7_allBits ml_RX7_204 mv_X7_allBits ms_X7_allBits (q := (RX7, TX7, 11)) dX_0 rfl rfl (by decide) (by decide) (Nat.le_of_ble_eq_true rfl) dX7_goTwice_16 ?_
  refine tt_iload_n C 2 dX7_goTwice_19 rfl rfl ?_
  refine tt_iconst (v := (-1 : Int32)) C dX7_goTwice_20 (by decide) ?_
  refine tt_ixor C dX7_goTwice_21 ?_
  refine tt_iand C dX7_goTwice_22 ?_
  refine tt_aload_n C 1 dX7_goTwice_23 rfl rfl ?_
  refine tt_getR C (j := 3) (r0 := 24) dX_0 rfl fl_RX7_37 dX7_goTwice_24 ?_
  refine tt_getI C (j := 13) dX_24 rfl fl_RX7_168 dX7_goTwice_27 ?_
  refine tt_bi (fun v6 m5 h3 => ?_)
  refine tt_callV (st := [.int v2]) (As := [.int (v4 &&& (x1 ^^^ (-1 : Int32))), .int (m3 24 13)]) C (kX7_goSome C.2.2.2.2.2.2.2.1 h3) mi_X7_goSome ml_RX7_252 mv_X7_goSome ms_X7_goSome (q := (RX7, TX7, 11)) dX_0 rfl rfl (by decide) (by decide) (Nat.le_of_ble_eq_true rfl) dX7_goTwice_30 ?_
  refine tt_iadd C dX7_goTwice_33 ?_
  exact tt_iret rfl C hr dX7_goTwice_34
theorem kX7_goTwice {l : Launch} {A : Nat → Prop} {D : va_G} {ad : Nat → Nat} {cA : Nat → ClassId} (hPk : Pk A dsX ad cA (EX A ad)) {x1 : Int32} {μ : Mem} {v : Int32} {ν : Mem} (h : fX7_goTwice x1 μ = some (v, ν)) : Ct l A dsX D ad cA (EX A ad) yX7_goTwice cX7_goTwice 3 (some .int) 4 [.ref (ad 0), .int x1] μ (enI (v, ν)) :=
  ct_of (by decide) (Nat.le_of_ble_eq_true rfl) hPk rfl (fun p e s m args below meth c C hr => wX7_goTwice C hr x1 μ) h

/-! BasketRound.house(II)I -/
def fX7_house_J24 (μ : Mem) : Option (Int32 × Mem) := some ((-1 : Int32), μ)
set_option maxHeartbeats 4000000 in
set_option maxRecDepth 100000 in
theorem wX7_house_J24 {p : Program} {l : Launch} {e : Env} {s : State} {m : MethodId} {args : Array Value} {below : List Frame} {meth : Method} {c : Code} {A : Nat → Prop} {D : va_G} {ad : Nat → Nat} {cA : Nat → ClassId} (C : Cx p s m args meth c cX7_house RX7 3 A dsX D ad cA (EX A ad)) (hr : meth.sig.returnType = some .int) (μ : Mem) : T p l e (rmD 1) s m args below meth c 3 A dsX D ad cA enI (fX7_house_J24 μ) 24 [] [] μ := by
  unfold fX7_house_J24
  refine tt_iconst (v := (-1 : Int32)) C dX7_house_24 (by decide) ?_
  exact tt_iret rfl C hr dX7_house_25

def fX7_house (x1 : Int32) (x2 : Int32) (μ : Mem) : Option (Int32 × Mem) := bi (fX7_within x1 (1 : Int32) (μ 3 4) μ) fun v2 m1 => if v2 = (0 : Int32) then (fX7_house_J24 m1) else (bi (fX7_within x2 (0 : Int32) (1 : Int32) m1) fun v4 m3 => if v4 = (0 : Int32) then (fX7_house_J24 m3) else (bi (fX4_ofHouse 3 x1 x2 m3) fun v6 m5 => some (v6, m5)))
set_option maxHeartbeats 4000000 in
set_option maxRecDepth 100000 in
theorem wX7_house {p : Program} {l : Launch} {e : Env} {s : State} {m : MethodId} {args : Array Value} {below : List Frame} {meth : Method} {c : Code} {A : Nat → Prop} {D : va_G} {ad : Nat → Nat} {cA : Nat → ClassId} (C : Cx p s m args meth c cX7_house RX7 3 A dsX D ad cA (EX A ad)) (hr : meth.sig.returnType = some .int) (x1 : Int32) (x2 : Int32) (μ : Mem) : T p l e (rmD 1) s m args below meth c 3 A dsX D ad cA enI (fX7_house x1 x2 μ) 0 [(0, .ref (ad 0)), (1, .int x1), (2, .int x2)] [] μ := by
  unfold fX7_house
  refine tt_iload_n C 1 dX7_house_0 rfl rfl ?_
  refine tt_iconst (v := (1 : Int32)) C dX7_house_1 (by decide) ?_
  refine tt_aload_n C 0 dX7_house_2 rfl rfl ?_
  refine tt_getR C (j := 1) (r0 := 3) dX_0 rfl fl_RX7_19 dX7_house_3 ?_
  refine tt_getI C (j := 4) dX_3 rfl fl_RX7_106 dX7_house_6 ?_
  refine tt_bi (fun v2 m1 h1 => ?_)
  refine tt_callS (st := []) (As := [.int x1, .int (1 : Int32), .int (μ 3 4)]) C (kX7_within C.2.2.2.2.2.2.2.1 h1) mi_X7_within ml_RX7_70 mt_X7_within rfl (by decide) (by decide) (Nat.le_of_ble_eq_true rfl) dX7_house_9 ?_
  refine tt_if (fun h2 => ?_) (fun h2 => ?_)
  · refine tt_if_eqT (tgt := 24) C h2 dX7_house_12 (by decide) ?_
    refine tt_sub [] (L2 := []) rfl ?_
    exact wX7_house_J24 C hr m1
  · refine tt_if_eqF C 24 h2 dX7_house_12 (by decide) ?_
    refine tt_iload_n C 2 dX7_house_15 rfl rfl ?_
    refine tt_iconst (v := (0 : Int32)) C dX7_house_16 (by decide) ?_
    refine tt_iconst (v := (1 : Int32)) C dX7_house_17 (by decide) ?_
    refine tt_bi (fun v4 m3 h3 => ?_)
    refine tt_callS (st := []) (As := [.int x2, .int (0 : Int32), .int (1 : Int32)]) C (kX7_within C.2.2.2.2.2.2.2.1 h3) mi_X7_within ml_RX7_70 mt_X7_within rfl (by decide) (by decide) (Nat.le_of_ble_eq_true rfl) dX7_house_18 ?_
    refine tt_if (fun h4 => ?_) (fun h4 => ?_)
    · refine tt_if_neF C 26 h4 dX7_house_21 (by decide) ?_
      refine tt_sub [] (L2 := []) rfl ?_
      exact wX7_house_J24 C hr m3
    · refine tt_if_neT (tgt := 26) C h4 dX7_house_21 (by decide) ?_
      refine tt_aload_n C 0 dX7_house_26 rfl rfl ?_
      refine tt_getR C (j := 1) (r0 := 3) dX_0 rfl fl_RX7_19 dX7_house_27 ?_
      refine tt_iload_n C 1 dX7_house_30 rfl rfl ?_
      refine tt_iload_n C 2 dX7_house_31 rfl rfl ?_
      refine tt_bi (fun v6 m5 h5 => ?_)
      refine tt_callV (st := []) (As := [.int x1, .int x2]) C (kX4_ofHouse C.2.2.2.2.2.2.2.1 3 hSh_3 h5) mi_X4_ofHouse ml_RX7_133 mv_X4_ofHouse ms_X4_ofHouse (q := (RX4, TX4, 8)) dX_3 rfl rfl (by decide) (by decide) (Nat.le_of_ble_eq_true rfl) dX7_house_32 ?_
      exact tt_iret rfl C hr dX7_house_35
theorem kX7_house {l : Launch} {A : Nat → Prop} {D : va_G} {ad : Nat → Nat} {cA : Nat → ClassId} (hPk : Pk A dsX ad cA (EX A ad)) {x1 : Int32} {x2 : Int32} {μ : Mem} {v : Int32} {ν : Mem} (h : fX7_house x1 x2 μ = some (v, ν)) : Ct l A dsX D ad cA (EX A ad) yX7_house cX7_house 3 (some .int) 1 [.ref (ad 0), .int x1, .int x2] μ (enI (v, ν)) :=
  ct_of (by decide) (Nat.le_of_ble_eq_true rfl) hPk rfl (fun p e s m args below meth c C hr => wX7_house C hr x1 x2 μ) h

/-! BasketRound.keep(I)I -/
def fX7_keep_J25 (x1 : Int32) (z0 : Int32) (μ : Mem) : Option (Int32 × Mem) := gr x1 2 <| if x1.toNatClampNeg = 0 then (bv (fX4_become 8 3 μ) fun m1 => gr x1 2 <| lb (wr m1 35 x1.toNatClampNeg (vp_nar .boolean (1 : Int32))) fun m2 => some (z0, m2)) else (if x1.toNatClampNeg = 1 then (bv (fX4_become 13 3 μ) fun m3 => gr x1 2 <| lb (wr m3 35 x1.toNatClampNeg (vp_nar .boolean (1 : Int32))) fun m4 => some (z0, m4)) else (none))
set_option maxHeartbeats 4000000 in
set_option maxRecDepth 100000 in
theorem wX7_keep_J25 {p : Program} {l : Launch} {e : Env} {s : State} {m : MethodId} {args : Array Value} {below : List Frame} {meth : Method} {c : Code} {A : Nat → Prop} {D : va_G} {ad : Nat → Nat} {cA : Nat → ClassId} (C : Cx p s m args meth c cX7_keep RX7 3 A dsX D ad cA (EX A ad)) (hr : meth.sig.returnType = some .int) (x1 : Int32) (z0 : Int32) (μ : Mem) : T p l e (rmD 2) s m args below meth c 3 A dsX D ad cA enI (fX7_keep_J25 x1 z0 μ) 25 [(0, .ref (ad 0)), (1, .int x1)] [.int z0] μ := by
  unfold fX7_keep_J25
  refine tt_istore_n (L2 := [(2, .int z0), (0, .ref (ad 0)), (1, .int x1)]) C dX7_keep_25 rfl (by decide) rfl ?_
  refine tt_aload_n C 1 dX7_keep_26 rfl rfl ?_
  refine tt_getR C (j := 6) (r0 := 34) dX_0 rfl fl_RX7_55 dX7_keep_27 ?_
  refine tt_iload_n C 2 dX7_keep_30 rfl rfl ?_
  refine tt_gr (fun h1 => ?_)
  refine tt_if (fun h2 => ?_) (fun h2 => ?_)
  · refine tt_aald (r0 := 8) C dX_34 h1 (by rw [h2]; rfl) dX7_keep_31 ?_
    refine tt_aload_n C 1 dX7_keep_32 rfl rfl ?_
    refine tt_getR C (j := 1) (r0 := 3) dX_0 rfl fl_RX7_19 dX7_keep_33 ?_
    refine tt_bv (fun m1 h3 => ?_)
    refine tt_callV (st := []) (As := [.ref (ad 3)]) C (kX4_become C.2.2.2.2.2.2.2.1 8 3 hSh_8 hSh_3 h3) mi_X4_become ml_RX7_97 mv_X4_become ms_X4_become (q := (RX4, TX4, 8)) dX_8 rfl rfl (by decide) (by decide) (Nat.le_of_ble_eq_true rfl) dX7_keep_36 ?_
    refine tt_aload_n C 1 dX7_keep_39 rfl rfl ?_
    refine tt_getR C (j := 7) (r0 := 35) dX_0 rfl fl_RX7_59 dX7_keep_40 ?_
    refine tt_iload_n C 2 dX7_keep_43 rfl rfl ?_
    refine tt_iconst (v := (1 : Int32)) C dX7_keep_44 (by decide) ?_
    refine tt_gr (fun h4 => ?_)
    refine tt_zast C dX_35 h4 dX7_keep_45 ?_
    refine tt_lbm (fun m2 => ?_)
    refine tt_iload_n C 0 dX7_keep_46 rfl rfl ?_
    exact tt_iret rfl C hr dX7_keep_47
  · skip
    refine tt_if (fun h5 => ?_) (fun h5 => ?_)
    · refine tt_aald (r0 := 13) C dX_34 h1 (by rw [h5]; rfl) dX7_keep_31 ?_
      refine tt_aload_n C 1 dX7_keep_32 rfl rfl ?_
      refine tt_getR C (j := 1) (r0 := 3) dX_0 rfl fl_RX7_19 dX7_keep_33 ?_
      refine tt_bv (fun m3 h6 => ?_)
      refine tt_callV (st := []) (As := [.ref (ad 3)]) C (kX4_become C.2.2.2.2.2.2.2.1 13 3 hSh_13 hSh_3 h6) mi_X4_become ml_RX7_97 mv_X4_become ms_X4_become (q := (RX4, TX4, 8)) dX_13 rfl rfl (by decide) (by decide) (Nat.le_of_ble_eq_true rfl) dX7_keep_36 ?_
      refine tt_aload_n C 1 dX7_keep_39 rfl rfl ?_
      refine tt_getR C (j := 7) (r0 := 35) dX_0 rfl fl_RX7_59 dX7_keep_40 ?_
      refine tt_iload_n C 2 dX7_keep_43 rfl rfl ?_
      refine tt_iconst (v := (1 : Int32)) C dX7_keep_44 (by decide) ?_
      refine tt_gr (fun h7 => ?_)
      refine tt_zast C dX_35 h7 dX7_keep_45 ?_
      refine tt_lbm (fun m4 => ?_)
      refine tt_iload_n C 0 dX7_keep_46 rfl rfl ?_
      exact tt_iret rfl C hr dX7_keep_47
    · skip
      exact tt_none

def fX7_keep (x1 : Int32) (μ : Mem) : Option (Int32 × Mem) := bi (fX7_within x1 (0 : Int32) (1 : Int32) μ) fun v2 m1 => if v2 = (0 : Int32) then (some ((-1 : Int32), m1)) else (gr x1 2 <| if (m1 35 x1.toNatClampNeg) = (0 : Int32) then (fX7_keep_J25 x1 (0 : Int32) m1) else (fX7_keep_J25 x1 (1 : Int32) m1))
set_option maxHeartbeats 4000000 in
set_option maxRecDepth 100000 in
theorem wX7_keep {p : Program} {l : Launch} {e : Env} {s : State} {m : MethodId} {args : Array Value} {below : List Frame} {meth : Method} {c : Code} {A : Nat → Prop} {D : va_G} {ad : Nat → Nat} {cA : Nat → ClassId} (C : Cx p s m args meth c cX7_keep RX7 3 A dsX D ad cA (EX A ad)) (hr : meth.sig.returnType = some .int) (x1 : Int32) (μ : Mem) : T p l e (rmD 2) s m args below meth c 3 A dsX D ad cA enI (fX7_keep x1 μ) 0 [(0, .ref (ad 0)), (1, .int x1)] [] μ := by
  unfold fX7_keep
  refine tt_iload_n C 1 dX7_keep_0 rfl rfl ?_
  refine tt_iconst (v := (0 : Int32)) C dX7_keep_1 (by decide) ?_
  refine tt_iconst (v := (1 : Int32)) C dX7_keep_2 (by decide) ?_
  refine tt_bi (fun v2 m1 h1 => ?_)
  refine tt_callS (st := []) (As := [.int x1, .int (0 : Int32), .int (1 : Int32)]) C (kX7_within C.2.2.2.2.2.2.2.1 h1) mi_X7_within ml_RX7_70 mt_X7_within rfl (by decide) (by decide) (Nat.le_of_ble_eq_true rfl) dX7_keep_3 ?_
  refine tt_if (fun h2 => ?_) (fun h2 => ?_)
  · refine tt_if_neF C 11 h2 dX7_keep_6 (by decide) ?_
    refine tt_iconst (v := (-1 : Int32)) C dX7_keep_9 (by decide) ?_
    exact tt_iret rfl C hr dX7_keep_10
  · refine tt_if_neT (tgt := 11) C h2 dX7_keep_6 (by decide) ?_
    refine tt_aload_n C 0 dX7_keep_11 rfl rfl ?_
    refine tt_getR C (j := 7) (r0 := 35) dX_0 rfl fl_RX7_59 dX7_keep_12 ?_
    refine tt_iload_n C 1 dX7_keep_15 rfl rfl ?_
    refine tt_gr (fun h3 => ?_)
    refine tt_zald C dX_35 h3 dX7_keep_16 ?_
    refine tt_if (fun h4 => ?_) (fun h4 => ?_)
    · refine tt_if_eqT (tgt := 24) C h4 dX7_keep_17 (by decide) ?_
      refine tt_iconst (v := (0 : Int32)) C dX7_keep_24 (by decide) ?_
      refine tt_sub [0, 1] (L2 := [(0, .ref (ad 0)), (1, .int x1)]) rfl ?_
      exact wX7_keep_J25 C hr x1 (0 : Int32) m1
    · refine tt_if_eqF C 24 h4 dX7_keep_17 (by decide) ?_
      refine tt_iconst (v := (1 : Int32)) C dX7_keep_20 (by decide) ?_
      refine tt_goto (tgt := 25) C dX7_keep_21 (by decide) ?_
      refine tt_sub [0, 1] (L2 := [(0, .ref (ad 0)), (1, .int x1)]) rfl ?_
      exact wX7_keep_J25 C hr x1 (1 : Int32) m1
theorem kX7_keep {l : Launch} {A : Nat → Prop} {D : va_G} {ad : Nat → Nat} {cA : Nat → ClassId} (hPk : Pk A dsX ad cA (EX A ad)) {x1 : Int32} {μ : Mem} {v : Int32} {ν : Mem} (h : fX7_keep x1 μ = some (v, ν)) : Ct l A dsX D ad cA (EX A ad) yX7_keep cX7_keep 3 (some .int) 2 [.ref (ad 0), .int x1] μ (enI (v, ν)) :=
  ct_of (by decide) (Nat.le_of_ble_eq_true rfl) hPk rfl (fun p e s m args below meth c C hr => wX7_keep C hr x1 μ) h

/-! BasketRound.late()I -/
def fX7_late (μ : Mem) : Option (Int32 × Mem) := bv (fX7_goRound μ) fun m1 => some ((m1 24 15), m1)
set_option maxHeartbeats 4000000 in
set_option maxRecDepth 100000 in
theorem wX7_late {p : Program} {l : Launch} {e : Env} {s : State} {m : MethodId} {args : Array Value} {below : List Frame} {meth : Method} {c : Code} {A : Nat → Prop} {D : va_G} {ad : Nat → Nat} {cA : Nat → ClassId} (C : Cx p s m args meth c cX7_late RX7 1 A dsX D ad cA (EX A ad)) (hr : meth.sig.returnType = some .int) (μ : Mem) : T p l e (rmD 5) s m args below meth c 1 A dsX D ad cA enI (fX7_late μ) 0 [(0, .ref (ad 0))] [] μ := by
  unfold fX7_late
  refine tt_aload_n C 0 dX7_late_0 rfl rfl ?_
  refine tt_bv (fun m1 h1 => ?_)
  refine tt_callV (st := []) (As := []) C (kX7_goRound C.2.2.2.2.2.2.2.1 h1) mi_X7_goRound ml_RX7_162 mv_X7_goRound ms_X7_goRound (q := (RX7, TX7, 11)) dX_0 rfl rfl (by decide) (by decide) (Nat.le_of_ble_eq_true rfl) dX7_late_1 ?_
  refine tt_aload_n C 0 dX7_late_4 rfl rfl ?_
  refine tt_getR C (j := 3) (r0 := 24) dX_0 rfl fl_RX7_37 dX7_late_5 ?_
  refine tt_getI C (j := 15) dX_24 rfl fl_RX7_174 dX7_late_8 ?_
  exact tt_iret rfl C hr dX7_late_11
theorem kX7_late {l : Launch} {A : Nat → Prop} {D : va_G} {ad : Nat → Nat} {cA : Nat → ClassId} (hPk : Pk A dsX ad cA (EX A ad)) {μ : Mem} {v : Int32} {ν : Mem} (h : fX7_late μ = some (v, ν)) : Ct l A dsX D ad cA (EX A ad) yX7_late cX7_late 1 (some .int) 5 [.ref (ad 0)] μ (enI (v, ν)) :=
  ct_of (by decide) (Nat.le_of_ble_eq_true rfl) hPk rfl (fun p e s m args below meth c C hr => wX7_late C hr μ) h

/-! BasketRound.latest()I -/
def fX7_latest_L28 : Nat → Int32 → Mem → Option (Int32 × Mem)
  | 0, _, _ => none
  | fu + 1, x1, μ => if x1 < (0 : Int32) then (some ((-4 : Int32), μ)) else (lb (wr μ 24 8 x1) fun m1 => bv (fX6_ride m1) fun m2 => bv (fX6_finish m2) fun m3 => if (m3 24 15) = (0 : Int32) then (some (x1, m3)) else (lb (x1 + (-1 : Int32)) fun (y4 : Int32) => fX7_latest_L28 fu y4 m3))
set_option maxHeartbeats 4000000 in
set_option maxRecDepth 100000 in
theorem wX7_latest_L28 {p : Program} {l : Launch} {e : Env} {s : State} {m : MethodId} {args : Array Value} {below : List Frame} {meth : Method} {c : Code} {A : Nat → Prop} {D : va_G} {ad : Nat → Nat} {cA : Nat → ClassId} (C : Cx p s m args meth c cX7_latest RX7 2 A dsX D ad cA (EX A ad)) (hr : meth.sig.returnType = some .int) : ∀ (fu : Nat) (x1 : Int32) (μ : Mem), T p l e (rmD 3) s m args below meth c 2 A dsX D ad cA enI (fX7_latest_L28 fu x1 μ) 28 [(0, .ref (ad 0)), (1, .int x1)] [] μ
  | 0, _, _ => tt_none
  | fu + 1, x1, μ => by
    have ih := fun (x1 : Int32) (μ : Mem) => wX7_latest_L28 (l := l) (e := e) (below := below) C hr fu x1 μ
    show T p l e (rmD 3) s m args below meth c 2 A dsX D ad cA enI (if x1 < (0 : Int32) then (some ((-4 : Int32), μ)) else (lb (wr μ 24 8 x1) fun m1 => bv (fX6_ride m1) fun m2 => bv (fX6_finish m2) fun m3 => if (m3 24 15) = (0 : Int32) then (some (x1, m3)) else (lb (x1 + (-1 : Int32)) fun (y4 : Int32) => fX7_latest_L28 fu y4 m3))) 28 [(0, .ref (ad 0)), (1, .int x1)] [] μ
    refine tt_iload_n C 1 dX7_latest_28 rfl rfl ?_
    refine tt_if (fun h1 => ?_) (fun h1 => ?_)
    · refine tt_if_ltT (tgt := 72) C h1 dX7_latest_29 (by decide) ?_
      refine tt_bipush (v := (-4 : Int32)) C dX7_latest_72 (by decide) ?_
      exact tt_iret rfl C hr dX7_latest_74
    · refine tt_if_ltF C 72 h1 dX7_latest_29 (by decide) ?_
      refine tt_aload_n C 0 dX7_latest_32 rfl rfl ?_
      refine tt_getR C (j := 3) (r0 := 24) dX_0 rfl fl_RX7_37 dX7_latest_33 ?_
      refine tt_iload_n C 1 dX7_latest_36 rfl rfl ?_
      refine tt_putI C (j := 8) dX_24 rfl fl_RX7_248 fw_6_8 dX7_latest_37 ?_
      refine tt_lbm (fun m1 => ?_)
      refine tt_aload_n C 0 dX7_latest_40 rfl rfl ?_
      refine tt_getR C (j := 3) (r0 := 24) dX_0 rfl fl_RX7_37 dX7_latest_41 ?_
      refine tt_bv (fun m2 h2 => ?_)
      refine tt_callV (st := []) (As := []) C (kX6_ride C.2.2.2.2.2.2.2.1 h2) mi_X6_ride ml_RX7_212 mv_X6_ride ms_X6_ride (q := (RX6, TX6, 17)) dX_24 rfl rfl (by decide) (by decide) (Nat.le_of_ble_eq_true rfl) dX7_latest_44 ?_
      refine tt_aload_n C 0 dX7_latest_47 rfl rfl ?_
      refine tt_getR C (j := 3) (r0 := 24) dX_0 rfl fl_RX7_37 dX7_latest_48 ?_
      refine tt_bv (fun m3 h3 => ?_)
      refine tt_callV (st := []) (As := []) C (kX6_finish C.2.2.2.2.2.2.2.1 h3) mi_X6_finish ml_RX7_224 mv_X6_finish ms_X6_finish (q := (RX6, TX6, 17)) dX_24 rfl rfl (by decide) (by decide) (Nat.le_of_ble_eq_true rfl) dX7_latest_51 ?_
      refine tt_aload_n C 0 dX7_latest_54 rfl rfl ?_
      refine tt_getR C (j := 3) (r0 := 24) dX_0 rfl fl_RX7_37 dX7_latest_55 ?_
      refine tt_getI C (j := 15) dX_24 rfl fl_RX7_174 dX7_latest_58 ?_
      refine tt_if (fun h4 => ?_) (fun h4 => ?_)
      · refine tt_if_neF C 66 h4 dX7_latest_61 (by decide) ?_
        refine tt_iload_n C 1 dX7_latest_64 rfl rfl ?_
        exact tt_iret rfl C hr dX7_latest_65
      · refine tt_if_neT (tgt := 66) C h4 dX7_latest_61 (by decide) ?_
        refine tt_iincB (d := (-1 : Int32)) C 1 (fun y4 => [(1, .int y4), (0, .ref (ad 0))]) dX7_latest_66 rfl (by decide) (by decide) (fun _ => rfl) (fun y4 => ?_)
        refine tt_goto (tgt := 28) C dX7_latest_69 (by decide) ?_
        refine tt_sub [1, 0] (L2 := [(0, .ref (ad 0)), (1, .int y4)]) rfl ?_
        exact ih y4 m3

def fX7_latest (μ : Mem) : Option (Int32 × Mem) := bi (fX7_allBits μ) fun v2 m1 => bv (fX6_take v2 (m1 3 7) m1) fun m3 => bv (fX6_stow m3) fun m4 => lb (60 : Int32) fun (y5 : Int32) => fX7_latest_L28 FU y5 m4
set_option maxHeartbeats 4000000 in
set_option maxRecDepth 100000 in
theorem wX7_latest {p : Program} {l : Launch} {e : Env} {s : State} {m : MethodId} {args : Array Value} {below : List Frame} {meth : Method} {c : Code} {A : Nat → Prop} {D : va_G} {ad : Nat → Nat} {cA : Nat → ClassId} (C : Cx p s m args meth c cX7_latest RX7 2 A dsX D ad cA (EX A ad)) (hr : meth.sig.returnType = some .int) (μ : Mem) : T p l e (rmD 3) s m args below meth c 2 A dsX D ad cA enI (fX7_latest μ) 0 [(0, .ref (ad 0))] [] μ := by
  unfold fX7_latest
  refine tt_aload_n C 0 dX7_latest_0 rfl rfl ?_
  refine tt_getR C (j := 3) (r0 := 24) dX_0 rfl fl_RX7_37 dX7_latest_1 ?_
  refine tt_aload_n C 0 dX7_latest_4 rfl rfl ?_
  refine tt_bi (fun v2 m1 h1 => ?_)
  refine tt_callV (st := [.ref (ad 24)]) (As := []) C (kX7_allBits C.2.2.2.2.2.2.2.1 h1) mi_X7_allBits ml_RX7_204 mv_X7_allBits ms_X7_allBits (q := (RX7, TX7, 11)) dX_0 rfl rfl (by decide) (by decide) (Nat.le_of_ble_eq_true rfl) dX7_latest_5 ?_
  refine tt_aload_n C 0 dX7_latest_8 rfl rfl ?_
  refine tt_getR C (j := 1) (r0 := 3) dX_0 rfl fl_RX7_19 dX7_latest_9 ?_
  refine tt_getI C (j := 7) dX_3 rfl fl_RX7_115 dX7_latest_12 ?_
  refine tt_bv (fun m3 h2 => ?_)
  refine tt_callV (st := []) (As := [.int v2, .int (m1 3 7)]) C (kX6_take C.2.2.2.2.2.2.2.1 h2) mi_X6_take ml_RX7_208 mv_X6_take ms_X6_take (q := (RX6, TX6, 17)) dX_24 rfl rfl (by decide) (by decide) (Nat.le_of_ble_eq_true rfl) dX7_latest_15 ?_
  refine tt_aload_n C 0 dX7_latest_18 rfl rfl ?_
  refine tt_getR C (j := 3) (r0 := 24) dX_0 rfl fl_RX7_37 dX7_latest_19 ?_
  refine tt_bv (fun m4 h3 => ?_)
  refine tt_callV (st := []) (As := []) C (kX6_stow C.2.2.2.2.2.2.2.1 h3) mi_X6_stow ml_RX7_244 mv_X6_stow ms_X6_stow (q := (RX6, TX6, 17)) dX_24 rfl rfl (by decide) (by decide) (Nat.le_of_ble_eq_true rfl) dX7_latest_22 ?_
  refine tt_bipush (v := (60 : Int32)) C dX7_latest_25 (by decide) ?_
  refine tt_lbi (fun y5 => ?_)
  refine tt_istore_n (L2 := [(1, .int y5), (0, .ref (ad 0))]) C dX7_latest_27 rfl (by decide) rfl ?_
  refine tt_sub [1, 0] (L2 := [(0, .ref (ad 0)), (1, .int y5)]) rfl ?_
  exact wX7_latest_L28 C hr FU y5 m4
theorem kX7_latest {l : Launch} {A : Nat → Prop} {D : va_G} {ad : Nat → Nat} {cA : Nat → ClassId} (hPk : Pk A dsX ad cA (EX A ad)) {μ : Mem} {v : Int32} {ν : Mem} (h : fX7_latest μ = some (v, ν)) : Ct l A dsX D ad cA (EX A ad) yX7_latest cX7_latest 2 (some .int) 3 [.ref (ad 0)] μ (enI (v, ν)) :=
  ct_of (by decide) (Nat.le_of_ble_eq_true rfl) hPk rfl (fun p e s m args below meth c C hr => wX7_latest C hr μ) h

/-! BasketRound.lay(III)I -/
def fX7_lay (x1 : Int32) (x2 : Int32) (x3 : Int32) (μ : Mem) : Option (Int32 × Mem) := bi (fX7_within x1 (0 : Int32) (3 : Int32) μ) fun v2 m1 => if v2 = (0 : Int32) then (some ((-1 : Int32), m1)) else (gr x1 4 <| bi (fX3_faultAt x1 (m1 42 x1.toNatClampNeg) x2.toInt64 m1) fun v4 m3 => if v4 = (0 : Int32) then (bv (fX3_put x1 x2 x3 m3) fun m5 => some ((1 : Int32), m5)) else (some (((-10 : Int32) - v4), m3)))
set_option maxHeartbeats 4000000 in
set_option maxRecDepth 100000 in
theorem wX7_lay {p : Program} {l : Launch} {e : Env} {s : State} {m : MethodId} {args : Array Value} {below : List Frame} {meth : Method} {c : Code} {A : Nat → Prop} {D : va_G} {ad : Nat → Nat} {cA : Nat → ClassId} (C : Cx p s m args meth c cX7_lay RX7 5 A dsX D ad cA (EX A ad)) (hr : meth.sig.returnType = some .int) (x1 : Int32) (x2 : Int32) (x3 : Int32) (μ : Mem) : T p l e (rmD 1) s m args below meth c 5 A dsX D ad cA enI (fX7_lay x1 x2 x3 μ) 0 [(0, .ref (ad 0)), (1, .int x1), (2, .int x2), (3, .int x3)] [] μ := by
  unfold fX7_lay
  refine tt_iload_n C 1 dX7_lay_0 rfl rfl ?_
  refine tt_iconst (v := (0 : Int32)) C dX7_lay_1 (by decide) ?_
  refine tt_iconst (v := (3 : Int32)) C dX7_lay_2 (by decide) ?_
  refine tt_bi (fun v2 m1 h1 => ?_)
  refine tt_callS (st := []) (As := [.int x1, .int (0 : Int32), .int (3 : Int32)]) C (kX7_within C.2.2.2.2.2.2.2.1 h1) mi_X7_within ml_RX7_70 mt_X7_within rfl (by decide) (by decide) (Nat.le_of_ble_eq_true rfl) dX7_lay_3 ?_
  refine tt_if (fun h2 => ?_) (fun h2 => ?_)
  · refine tt_if_neF C 11 h2 dX7_lay_6 (by decide) ?_
    refine tt_iconst (v := (-1 : Int32)) C dX7_lay_9 (by decide) ?_
    exact tt_iret rfl C hr dX7_lay_10
  · refine tt_if_neT (tgt := 11) C h2 dX7_lay_6 (by decide) ?_
    refine tt_aload_n C 0 dX7_lay_11 rfl rfl ?_
    refine tt_getR C (j := 8) (r0 := 36) dX_0 rfl fl_RX7_66 dX7_lay_12 ?_
    refine tt_iload_n C 1 dX7_lay_15 rfl rfl ?_
    refine tt_aload_n C 0 dX7_lay_16 rfl rfl ?_
    refine tt_getR C (j := 8) (r0 := 36) dX_0 rfl fl_RX7_66 dX7_lay_17 ?_
    refine tt_getR C (j := 1) (r0 := 42) dX_36 rfl fl_RX7_299 dX7_lay_20 ?_
    refine tt_iload_n C 1 dX7_lay_23 rfl rfl ?_
    refine tt_gr (fun h3 => ?_)
    refine tt_iald C dX_42 h3 dX7_lay_24 ?_
    refine tt_iload_n C 2 dX7_lay_25 rfl rfl ?_
    refine tt_i2l C dX7_lay_26 ?_
    refine tt_bi (fun v4 m3 h4 => ?_)
    refine tt_callV (st := []) (As := [.int x1, .int (m1 42 x1.toNatClampNeg), .long x2.toInt64]) C (kX3_faultAt C.2.2.2.2.2.2.2.1 h4) mi_X3_faultAt ml_RX7_302 mv_X3_faultAt ms_X3_faultAt (q := (RX3, TX3, 3)) dX_36 rfl rfl (by decide) (by decide) (Nat.le_of_ble_eq_true rfl) dX7_lay_27 ?_
    refine tt_istore (L2 := [(4, .int v4), (0, .ref (ad 0)), (1, .int x1), (2, .int x2), (3, .int x3)]) C dX7_lay_30 (by decide) rfl ?_
    refine tt_iload C 0 dX7_lay_32 rfl ?_
    refine tt_if (fun h5 => ?_) (fun h5 => ?_)
    · refine tt_if_eqT (tgt := 43) C h5 dX7_lay_34 (by decide) ?_
      refine tt_aload_n C 1 dX7_lay_43 rfl rfl ?_
      refine tt_getR C (j := 8) (r0 := 36) dX_0 rfl fl_RX7_66 dX7_lay_44 ?_
      refine tt_iload_n C 2 dX7_lay_47 rfl rfl ?_
      refine tt_iload_n C 3 dX7_lay_48 rfl rfl ?_
      refine tt_iload_n C 4 dX7_lay_49 rfl rfl ?_
      refine tt_bv (fun m5 h6 => ?_)
      refine tt_callV (st := []) (As := [.int x1, .int x2, .int x3]) C (kX3_put C.2.2.2.2.2.2.2.1 h6) mi_X3_put ml_RX7_306 mv_X3_put ms_X3_put (q := (RX3, TX3, 3)) dX_36 rfl rfl (by decide) (by decide) (Nat.le_of_ble_eq_true rfl) dX7_lay_50 ?_
      refine tt_iconst (v := (1 : Int32)) C dX7_lay_53 (by decide) ?_
      exact tt_iret rfl C hr dX7_lay_54
    · refine tt_if_eqF C 43 h5 dX7_lay_34 (by decide) ?_
      refine tt_bipush (v := (-10 : Int32)) C dX7_lay_37 (by decide) ?_
      refine tt_iload C 0 dX7_lay_39 rfl ?_
      refine tt_isub C dX7_lay_41 ?_
      exact tt_iret rfl C hr dX7_lay_42
theorem kX7_lay {l : Launch} {A : Nat → Prop} {D : va_G} {ad : Nat → Nat} {cA : Nat → ClassId} (hPk : Pk A dsX ad cA (EX A ad)) {x1 : Int32} {x2 : Int32} {x3 : Int32} {μ : Mem} {v : Int32} {ν : Mem} (h : fX7_lay x1 x2 x3 μ = some (v, ν)) : Ct l A dsX D ad cA (EX A ad) yX7_lay cX7_lay 5 (some .int) 1 [.ref (ad 0), .int x1, .int x2, .int x3] μ (enI (v, ν)) :=
  ct_of (by decide) (Nat.le_of_ble_eq_true rfl) hPk rfl (fun p e s m args below meth c C hr => wX7_lay C hr x1 x2 x3 μ) h

/-! BasketRound.leave(I)I -/
def fX7_leave_J124 (z0 : Int32) (μ : Mem) : Option (Int32 × Mem) := some (z0, μ)
set_option maxHeartbeats 4000000 in
set_option maxRecDepth 100000 in
theorem wX7_leave_J124 {p : Program} {l : Launch} {e : Env} {s : State} {m : MethodId} {args : Array Value} {below : List Frame} {meth : Method} {c : Code} {A : Nat → Prop} {D : va_G} {ad : Nat → Nat} {cA : Nat → ClassId} (C : Cx p s m args meth c cX7_leave RX7 9 A dsX D ad cA (EX A ad)) (hr : meth.sig.returnType = some .int) (z0 : Int32) (μ : Mem) : T p l e (rmD 5) s m args below meth c 9 A dsX D ad cA enI (fX7_leave_J124 z0 μ) 124 [] [.int z0] μ := by
  unfold fX7_leave_J124
  exact tt_iret rfl C hr dX7_leave_124

def fX7_leave_J107 (k39 : Int32 → Int32 → Int32 → Int32 → Int32 → Int32 → Mem → Option (Int32 × Mem)) (x1 : Int32) (x2 : Int32) (x3 : Int32) (x4 : Int32) (x5 : Int32) (x6 : Int32) (μ : Mem) : Option (Int32 × Mem) := lb (x6 + (1 : Int32)) fun (y1 : Int32) => k39 x1 x2 x3 x4 x5 y1 μ
set_option maxHeartbeats 4000000 in
set_option maxRecDepth 100000 in
theorem wX7_leave_J107 {p : Program} {l : Launch} {e : Env} {s : State} {m : MethodId} {args : Array Value} {below : List Frame} {meth : Method} {c : Code} {A : Nat → Prop} {D : va_G} {ad : Nat → Nat} {cA : Nat → ClassId} (C : Cx p s m args meth c cX7_leave RX7 9 A dsX D ad cA (EX A ad)) (hr : meth.sig.returnType = some .int) (k39 : Int32 → Int32 → Int32 → Int32 → Int32 → Int32 → Mem → Option (Int32 × Mem)) (hk39 : ∀ (x1 : Int32) (x2 : Int32) (x3 : Int32) (x4 : Int32) (x5 : Int32) (x6 : Int32) (μ : Mem), T p l e (rmD 5) s m args below meth c 9 A dsX D ad cA enI (k39 x1 x2 x3 x4 x5 x6 μ) 39 [(0, .ref (ad 0)), (1, .int x1), (2, .int x2), (3, .int x3), (4, .int x4), (5, .int x5), (6, .int x6)] [] μ) (x1 : Int32) (x2 : Int32) (x3 : Int32) (x4 : Int32) (x5 : Int32) (x6 : Int32) (μ : Mem) : T p l e (rmD 5) s m args below meth c 9 A dsX D ad cA enI (fX7_leave_J107 k39 x1 x2 x3 x4 x5 x6 μ) 107 [(0, .ref (ad 0)), (1, .int x1), (2, .int x2), (3, .int x3), (4, .int x4), (5, .int x5), (6, .int x6)] [] μ := by
  unfold fX7_leave_J107
  refine tt_iincB (d := (1 : Int32)) C 6 (fun y1 => [(6, .int y1), (0, .ref (ad 0)), (1, .int x1), (2, .int x2), (3, .int x3), (4, .int x4), (5, .int x5)]) dX7_leave_107 rfl (by decide) (by decide) (fun _ => rfl) (fun y1 => ?_)
  refine tt_goto (tgt := 39) C dX7_leave_110 (by decide) ?_
  refine tt_sub [1, 2, 3, 4, 5, 6, 0] (L2 := [(0, .ref (ad 0)), (1, .int x1), (2, .int x2), (3, .int x3), (4, .int x4), (5, .int x5), (6, .int y1)]) rfl ?_
  exact hk39 x1 x2 x3 x4 x5 y1 μ

def fX7_leave_L39 : Nat → Int32 → Int32 → Int32 → Int32 → Int32 → Int32 → Mem → Option (Int32 × Mem)
  | 0, _, _, _, _, _, _, _ => none
  | fu + 1, x1, x2, x3, x4, x5, x6, μ => if (μ 3 5) ≤ x6 then (if x1 = (0 : Int32) then (fX7_leave_J124 x4 μ) else (fX7_leave_J124 x5 μ)) else (lb (x2 &&& (((1 : Int32) <<< (x6 &&& 31)) ^^^ (-1 : Int32))) fun (y1 : Int32) => bi (fX7_goSome y1 (μ 3 7) μ) fun v3 m2 => bi (fX4_penniesOf 3 (x3 &&& y1) m2) fun v5 m4 => if v3 ≤ v5 then (fX7_leave_J107 (fun x1 x2 x3 x4 x5 x6 μ => fX7_leave_L39 fu x1 x2 x3 x4 x5 x6 μ) x1 x2 x3 x4 x5 x6 m4) else (if v3 ≤ x5 then (fX7_leave_J107 (fun x1 x2 x3 x4 x5 x6 μ => fX7_leave_L39 fu x1 x2 x3 x4 x5 x6 μ) x1 x2 x3 x4 x5 x6 m4) else (fX7_leave_J107 (fun x1 x2 x3 x4 x5 x6 μ => fX7_leave_L39 fu x1 x2 x3 x4 x5 x6 μ) x1 x2 x3 x6 v3 x6 m4)))
set_option maxHeartbeats 4000000 in
set_option maxRecDepth 100000 in
theorem wX7_leave_L39 {p : Program} {l : Launch} {e : Env} {s : State} {m : MethodId} {args : Array Value} {below : List Frame} {meth : Method} {c : Code} {A : Nat → Prop} {D : va_G} {ad : Nat → Nat} {cA : Nat → ClassId} (C : Cx p s m args meth c cX7_leave RX7 9 A dsX D ad cA (EX A ad)) (hr : meth.sig.returnType = some .int) : ∀ (fu : Nat) (x1 : Int32) (x2 : Int32) (x3 : Int32) (x4 : Int32) (x5 : Int32) (x6 : Int32) (μ : Mem), T p l e (rmD 5) s m args below meth c 9 A dsX D ad cA enI (fX7_leave_L39 fu x1 x2 x3 x4 x5 x6 μ) 39 [(0, .ref (ad 0)), (1, .int x1), (2, .int x2), (3, .int x3), (4, .int x4), (5, .int x5), (6, .int x6)] [] μ
  | 0, _, _, _, _, _, _, _ => tt_none
  | fu + 1, x1, x2, x3, x4, x5, x6, μ => by
    have ih := fun (x1 : Int32) (x2 : Int32) (x3 : Int32) (x4 : Int32) (x5 : Int32) (x6 : Int32) (μ : Mem) => wX7_leave_L39 (l := l) (e := e) (below := below) C hr fu x1 x2 x3 x4 x5 x6 μ
    show T p l e (rmD 5) s m args below meth c 9 A dsX D ad cA enI (if (μ 3 5) ≤ x6 then (if x1 = (0 : Int32) then (fX7_leave_J124 x4 μ) else (fX7_leave_J124 x5 μ)) else (lb (x2 &&& (((1 : Int32) <<< (x6 &&& 31)) ^^^ (-1 : Int32))) fun (y1 : Int32) => bi (fX7_goSome y1 (μ 3 7) μ) fun v3 m2 => bi (fX4_penniesOf 3 (x3 &&& y1) m2) fun v5 m4 => if v3 ≤ v5 then (fX7_leave_J107 (fun x1 x2 x3 x4 x5 x6 μ => fX7_leave_L39 fu x1 x2 x3 x4 x5 x6 μ) x1 x2 x3 x4 x5 x6 m4) else (if v3 ≤ x5 then (fX7_leave_J107 (fun x1 x2 x3 x4 x5 x6 μ => fX7_leave_L39 fu x1 x2 x3 x4 x5 x6 μ) x1 x2 x3 x4 x5 x6 m4) else (fX7_leave_J107 (fun x1 x2 x3 x4 x5 x6 μ => fX7_leave_L39 fu x1 x2 x3 x4 x5 x6 μ) x1 x2 x3 x6 v3 x6 m4)))) 39 [(0, .ref (ad 0)), (1, .int x1), (2, .int x2), (3, .int x3), (4, .int x4), (5, .int x5), (6, .int x6)] [] μ
    refine tt_iload C 6 dX7_leave_39 rfl ?_
    refine tt_aload_n C 0 dX7_leave_41 rfl rfl ?_
    refine tt_getR C (j := 1) (r0 := 3) dX_0 rfl fl_RX7_19 dX7_leave_42 ?_
    refine tt_getI C (j := 5) dX_3 rfl fl_RX7_109 dX7_leave_45 ?_
    refine tt_if (fun h1 => ?_) (fun h1 => ?_)
    · refine tt_icmp_geT (tgt := 113) C h1 dX7_leave_48 (by decide) ?_
      refine tt_iload_n C 1 dX7_leave_113 rfl rfl ?_
      refine tt_if (fun h2 => ?_) (fun h2 => ?_)
      · refine tt_if_neF C 122 h2 dX7_leave_114 (by decide) ?_
        refine tt_iload C 4 dX7_leave_117 rfl ?_
        refine tt_goto (tgt := 124) C dX7_leave_119 (by decide) ?_
        refine tt_sub [] (L2 := []) rfl ?_
        exact wX7_leave_J124 C hr x4 μ
      · refine tt_if_neT (tgt := 122) C h2 dX7_leave_114 (by decide) ?_
        refine tt_iload C 5 dX7_leave_122 rfl ?_
        refine tt_sub [] (L2 := []) rfl ?_
        exact wX7_leave_J124 C hr x5 μ
    · refine tt_icmp_geF C 113 h1 dX7_leave_48 (by decide) ?_
      refine tt_iload_n C 2 dX7_leave_51 rfl rfl ?_
      refine tt_iconst (v := (1 : Int32)) C dX7_leave_52 (by decide) ?_
      refine tt_iload C 6 dX7_leave_53 rfl ?_
      refine tt_ishl C dX7_leave_55 ?_
      refine tt_iconst (v := (-1 : Int32)) C dX7_leave_56 (by decide) ?_
      refine tt_ixor C dX7_leave_57 ?_
      refine tt_iand C dX7_leave_58 ?_
      refine tt_lbi (fun y1 => ?_)
      refine tt_istore (L2 := [(7, .int y1), (0, .ref (ad 0)), (1, .int x1), (2, .int x2), (3, .int x3), (4, .int x4), (5, .int x5), (6, .int x6)]) C dX7_leave_59 (by decide) rfl ?_
      refine tt_aload_n C 1 dX7_leave_61 rfl rfl ?_
      refine tt_iload C 0 dX7_leave_62 rfl ?_
      refine tt_aload_n C 1 dX7_leave_64 rfl rfl ?_
      refine tt_getR C (j := 1) (r0 := 3) dX_0 rfl fl_RX7_19 dX7_leave_65 ?_
      refine tt_getI C (j := 7) dX_3 rfl fl_RX7_115 dX7_leave_68 ?_
      refine tt_bi (fun v3 m2 h3 => ?_)
      refine tt_callV (st := []) (As := [.int y1, .int (μ 3 7)]) C (kX7_goSome C.2.2.2.2.2.2.2.1 h3) mi_X7_goSome ml_RX7_252 mv_X7_goSome ms_X7_goSome (q := (RX7, TX7, 11)) dX_0 rfl rfl (by decide) (by decide) (Nat.le_of_ble_eq_true rfl) dX7_leave_71 ?_
      refine tt_istore (L2 := [(8, .int v3), (7, .int y1), (0, .ref (ad 0)), (1, .int x1), (2, .int x2), (3, .int x3), (4, .int x4), (5, .int x5), (6, .int x6)]) C dX7_leave_74 (by decide) rfl ?_
      refine tt_iload C 0 dX7_leave_76 rfl ?_
      refine tt_aload_n C 2 dX7_leave_78 rfl rfl ?_
      refine tt_getR C (j := 1) (r0 := 3) dX_0 rfl fl_RX7_19 dX7_leave_79 ?_
      refine tt_iload_n C 5 dX7_leave_82 rfl rfl ?_
      refine tt_iload C 1 dX7_leave_83 rfl ?_
      refine tt_iand C dX7_leave_85 ?_
      refine tt_bi (fun v5 m4 h4 => ?_)
      refine tt_callV (st := [.int v3]) (As := [.int (x3 &&& y1)]) C (kX4_penniesOf C.2.2.2.2.2.2.2.1 3 hSh_3 h4) mi_X4_penniesOf ml_RX7_255 mv_X4_penniesOf ms_X4_penniesOf (q := (RX4, TX4, 8)) dX_3 rfl rfl (by decide) (by decide) (Nat.le_of_ble_eq_true rfl) dX7_leave_86 ?_
      refine tt_if (fun h5 => ?_) (fun h5 => ?_)
      · refine tt_icmp_leT (tgt := 107) C h5 dX7_leave_89 (by decide) ?_
        refine tt_sub [2, 3, 4, 5, 6, 7, 8] (L2 := [(0, .ref (ad 0)), (1, .int x1), (2, .int x2), (3, .int x3), (4, .int x4), (5, .int x5), (6, .int x6)]) rfl ?_
        exact wX7_leave_J107 C hr (fun x1 x2 x3 x4 x5 x6 μ => fX7_leave_L39 fu x1 x2 x3 x4 x5 x6 μ) (fun x1 x2 x3 x4 x5 x6 μ => ih x1 x2 x3 x4 x5 x6 μ) x1 x2 x3 x4 x5 x6 m4
      · refine tt_icmp_leF C 107 h5 dX7_leave_89 (by decide) ?_
        refine tt_iload C 0 dX7_leave_92 rfl ?_
        refine tt_iload C 7 dX7_leave_94 rfl ?_
        refine tt_if (fun h6 => ?_) (fun h6 => ?_)
        · refine tt_icmp_leT (tgt := 107) C h6 dX7_leave_96 (by decide) ?_
          refine tt_sub [2, 3, 4, 5, 6, 7, 8] (L2 := [(0, .ref (ad 0)), (1, .int x1), (2, .int x2), (3, .int x3), (4, .int x4), (5, .int x5), (6, .int x6)]) rfl ?_
          exact wX7_leave_J107 C hr (fun x1 x2 x3 x4 x5 x6 μ => fX7_leave_L39 fu x1 x2 x3 x4 x5 x6 μ) (fun x1 x2 x3 x4 x5 x6 μ => ih x1 x2 x3 x4 x5 x6 μ) x1 x2 x3 x4 x5 x6 m4
        · refine tt_icmp_leF C 107 h6 dX7_leave_96 (by decide) ?_
          refine tt_iload C 8 dX7_leave_99 rfl ?_
          refine tt_istore (L2 := [(4, .int x6), (8, .int v3), (7, .int y1), (0, .ref (ad 0)), (1, .int x1), (2, .int x2), (3, .int x3), (5, .int x5), (6, .int x6)]) C dX7_leave_101 (by decide) rfl ?_
          refine tt_iload C 1 dX7_leave_103 rfl ?_
          refine tt_istore (L2 := [(5, .int v3), (4, .int x6), (8, .int v3), (7, .int y1), (0, .ref (ad 0)), (1, .int x1), (2, .int x2), (3, .int x3), (6, .int x6)]) C dX7_leave_105 (by decide) rfl ?_
          refine tt_sub [4, 5, 6, 7, 1, 0, 8] (L2 := [(0, .ref (ad 0)), (1, .int x1), (2, .int x2), (3, .int x3), (4, .int x6), (5, .int v3), (6, .int x6)]) rfl ?_
          exact wX7_leave_J107 C hr (fun x1 x2 x3 x4 x5 x6 μ => fX7_leave_L39 fu x1 x2 x3 x4 x5 x6 μ) (fun x1 x2 x3 x4 x5 x6 μ => ih x1 x2 x3 x4 x5 x6 μ) x1 x2 x3 x6 v3 x6 m4

def fX7_leave (x1 : Int32) (μ : Mem) : Option (Int32 × Mem) := bi (fX7_within x1 (0 : Int32) (1 : Int32) μ) fun v2 m1 => if v2 = (0 : Int32) then (some ((-1 : Int32), m1)) else (bv (fX7_goRound m1) fun m3 => bi (fX7_allBits m3) fun v5 m4 => bi (fX6_paidBits m4) fun v7 m6 => lb (-4 : Int32) fun (y8 : Int32) => lb (-4 : Int32) fun (y9 : Int32) => lb (0 : Int32) fun (y10 : Int32) => fX7_leave_L39 FU x1 v5 v7 y8 y9 y10 m6)
set_option maxHeartbeats 4000000 in
set_option maxRecDepth 100000 in
theorem wX7_leave {p : Program} {l : Launch} {e : Env} {s : State} {m : MethodId} {args : Array Value} {below : List Frame} {meth : Method} {c : Code} {A : Nat → Prop} {D : va_G} {ad : Nat → Nat} {cA : Nat → ClassId} (C : Cx p s m args meth c cX7_leave RX7 9 A dsX D ad cA (EX A ad)) (hr : meth.sig.returnType = some .int) (x1 : Int32) (μ : Mem) : T p l e (rmD 5) s m args below meth c 9 A dsX D ad cA enI (fX7_leave x1 μ) 0 [(0, .ref (ad 0)), (1, .int x1)] [] μ := by
  unfold fX7_leave
  refine tt_iload_n C 1 dX7_leave_0 rfl rfl ?_
  refine tt_iconst (v := (0 : Int32)) C dX7_leave_1 (by decide) ?_
  refine tt_iconst (v := (1 : Int32)) C dX7_leave_2 (by decide) ?_
  refine tt_bi (fun v2 m1 h1 => ?_)
  refine tt_callS (st := []) (As := [.int x1, .int (0 : Int32), .int (1 : Int32)]) C (kX7_within C.2.2.2.2.2.2.2.1 h1) mi_X7_within ml_RX7_70 mt_X7_within rfl (by decide) (by decide) (Nat.le_of_ble_eq_true rfl) dX7_leave_3 ?_
  refine tt_if (fun h2 => ?_) (fun h2 => ?_)
  · refine tt_if_neF C 11 h2 dX7_leave_6 (by decide) ?_
    refine tt_iconst (v := (-1 : Int32)) C dX7_leave_9 (by decide) ?_
    exact tt_iret rfl C hr dX7_leave_10
  · refine tt_if_neT (tgt := 11) C h2 dX7_leave_6 (by decide) ?_
    refine tt_aload_n C 0 dX7_leave_11 rfl rfl ?_
    refine tt_bv (fun m3 h3 => ?_)
    refine tt_callV (st := []) (As := []) C (kX7_goRound C.2.2.2.2.2.2.2.1 h3) mi_X7_goRound ml_RX7_162 mv_X7_goRound ms_X7_goRound (q := (RX7, TX7, 11)) dX_0 rfl rfl (by decide) (by decide) (Nat.le_of_ble_eq_true rfl) dX7_leave_12 ?_
    refine tt_aload_n C 0 dX7_leave_15 rfl rfl ?_
    refine tt_bi (fun v5 m4 h4 => ?_)
    refine tt_callV (st := []) (As := []) C (kX7_allBits C.2.2.2.2.2.2.2.1 h4) mi_X7_allBits ml_RX7_204 mv_X7_allBits ms_X7_allBits (q := (RX7, TX7, 11)) dX_0 rfl rfl (by decide) (by decide) (Nat.le_of_ble_eq_true rfl) dX7_leave_16 ?_
    refine tt_istore_n (L2 := [(2, .int v5), (0, .ref (ad 0)), (1, .int x1)]) C dX7_leave_19 rfl (by decide) rfl ?_
    refine tt_aload_n C 1 dX7_leave_20 rfl rfl ?_
    refine tt_getR C (j := 3) (r0 := 24) dX_0 rfl fl_RX7_37 dX7_leave_21 ?_
    refine tt_bi (fun v7 m6 h5 => ?_)
    refine tt_callV (st := []) (As := []) C (kX6_paidBits C.2.2.2.2.2.2.2.1 h5) mi_X6_paidBits ml_RX7_249 mv_X6_paidBits ms_X6_paidBits (q := (RX6, TX6, 17)) dX_24 rfl rfl (by decide) (by decide) (Nat.le_of_ble_eq_true rfl) dX7_leave_24 ?_
    refine tt_istore_n (L2 := [(3, .int v7), (2, .int v5), (0, .ref (ad 0)), (1, .int x1)]) C dX7_leave_27 rfl (by decide) rfl ?_
    refine tt_bipush (v := (-4 : Int32)) C dX7_leave_28 (by decide) ?_
    refine tt_lbi (fun y8 => ?_)
    refine tt_istore (L2 := [(4, .int y8), (3, .int v7), (2, .int v5), (0, .ref (ad 0)), (1, .int x1)]) C dX7_leave_30 (by decide) rfl ?_
    refine tt_bipush (v := (-4 : Int32)) C dX7_leave_32 (by decide) ?_
    refine tt_lbi (fun y9 => ?_)
    refine tt_istore (L2 := [(5, .int y9), (4, .int y8), (3, .int v7), (2, .int v5), (0, .ref (ad 0)), (1, .int x1)]) C dX7_leave_34 (by decide) rfl ?_
    refine tt_iconst (v := (0 : Int32)) C dX7_leave_36 (by decide) ?_
    refine tt_lbi (fun y10 => ?_)
    refine tt_istore (L2 := [(6, .int y10), (5, .int y9), (4, .int y8), (3, .int v7), (2, .int v5), (0, .ref (ad 0)), (1, .int x1)]) C dX7_leave_37 (by decide) rfl ?_
    refine tt_sub [5, 6, 4, 3, 2, 1, 0] (L2 := [(0, .ref (ad 0)), (1, .int x1), (2, .int v5), (3, .int v7), (4, .int y8), (5, .int y9), (6, .int y10)]) rfl ?_
    exact wX7_leave_L39 C hr FU x1 v5 v7 y8 y9 y10 m6
theorem kX7_leave {l : Launch} {A : Nat → Prop} {D : va_G} {ad : Nat → Nat} {cA : Nat → ClassId} (hPk : Pk A dsX ad cA (EX A ad)) {x1 : Int32} {μ : Mem} {v : Int32} {ν : Mem} (h : fX7_leave x1 μ = some (v, ν)) : Ct l A dsX D ad cA (EX A ad) yX7_leave cX7_leave 9 (some .int) 5 [.ref (ad 0), .int x1] μ (enI (v, ν)) :=
  ct_of (by decide) (Nat.le_of_ble_eq_true rfl) hPk rfl (fun p e s m args below meth c C hr => wX7_leave C hr x1 μ) h

/-! BasketRound.power(JI)J -/
def fX7_power_L5 : Nat → Int64 → Int32 → Int64 → Int32 → Mem → Option (Int64 × Mem)
  | 0, _, _, _, _, _ => none
  | fu + 1, x0, x2, x3, x5, μ => if x2 ≤ x5 then (some (x3, μ)) else (lb (x3 * x0) fun (y1 : Int64) => lb (x5 + (1 : Int32)) fun (y2 : Int32) => fX7_power_L5 fu x0 x2 y1 y2 μ)
set_option maxHeartbeats 4000000 in
set_option maxRecDepth 100000 in
theorem wX7_power_L5 {p : Program} {l : Launch} {e : Env} {s : State} {m : MethodId} {args : Array Value} {below : List Frame} {meth : Method} {c : Code} {A : Nat → Prop} {D : va_G} {ad : Nat → Nat} {cA : Nat → ClassId} (C : Cx p s m args meth c cX7_power RX7 6 A dsX D ad cA (EX A ad)) (hr : meth.sig.returnType = some .long) : ∀ (fu : Nat) (x0 : Int64) (x2 : Int32) (x3 : Int64) (x5 : Int32) (μ : Mem), T p l e (rmD 0) s m args below meth c 6 A dsX D ad cA enL (fX7_power_L5 fu x0 x2 x3 x5 μ) 5 [(0, .long x0), (2, .int x2), (3, .long x3), (5, .int x5)] [] μ
  | 0, _, _, _, _, _ => tt_none
  | fu + 1, x0, x2, x3, x5, μ => by
    have ih := fun (x0 : Int64) (x2 : Int32) (x3 : Int64) (x5 : Int32) (μ : Mem) => wX7_power_L5 (l := l) (e := e) (below := below) C hr fu x0 x2 x3 x5 μ
    show T p l e (rmD 0) s m args below meth c 6 A dsX D ad cA enL (if x2 ≤ x5 then (some (x3, μ)) else (lb (x3 * x0) fun (y1 : Int64) => lb (x5 + (1 : Int32)) fun (y2 : Int32) => fX7_power_L5 fu x0 x2 y1 y2 μ)) 5 [(0, .long x0), (2, .int x2), (3, .long x3), (5, .int x5)] [] μ
    refine tt_iload C 3 dX7_power_5 rfl ?_
    refine tt_iload_n C 1 dX7_power_7 rfl rfl ?_
    refine tt_if (fun h1 => ?_) (fun h1 => ?_)
    · refine tt_icmp_geT (tgt := 21) C h1 dX7_power_8 (by decide) ?_
      refine tt_lload_n C 2 dX7_power_21 rfl rfl ?_
      exact tt_lret rfl C hr dX7_power_22
    · refine tt_icmp_geF C 21 h1 dX7_power_8 (by decide) ?_
      refine tt_lload_n C 2 dX7_power_11 rfl rfl ?_
      refine tt_lload_n C 0 dX7_power_12 rfl rfl ?_
      refine tt_lmul C dX7_power_13 ?_
      refine tt_lbl (fun y1 => ?_)
      refine tt_lstore_n (L2 := [(3, .long y1), (0, .long x0), (2, .int x2), (5, .int x5)]) C dX7_power_14 rfl (by decide) rfl ?_
      refine tt_iincB (d := (1 : Int32)) C 3 (fun y2 => [(5, .int y2), (3, .long y1), (0, .long x0), (2, .int x2)]) dX7_power_15 rfl (by decide) (by decide) (fun _ => rfl) (fun y2 => ?_)
      refine tt_goto (tgt := 5) C dX7_power_18 (by decide) ?_
      refine tt_sub [2, 3, 1, 0] (L2 := [(0, .long x0), (2, .int x2), (3, .long y1), (5, .int y2)]) rfl ?_
      exact ih x0 x2 y1 y2 μ

def fX7_power (x0 : Int64) (x2 : Int32) (μ : Mem) : Option (Int64 × Mem) := lb (1 : Int64) fun (y1 : Int64) => lb (0 : Int32) fun (y2 : Int32) => fX7_power_L5 FU x0 x2 y1 y2 μ
set_option maxHeartbeats 4000000 in
set_option maxRecDepth 100000 in
theorem wX7_power {p : Program} {l : Launch} {e : Env} {s : State} {m : MethodId} {args : Array Value} {below : List Frame} {meth : Method} {c : Code} {A : Nat → Prop} {D : va_G} {ad : Nat → Nat} {cA : Nat → ClassId} (C : Cx p s m args meth c cX7_power RX7 6 A dsX D ad cA (EX A ad)) (hr : meth.sig.returnType = some .long) (x0 : Int64) (x2 : Int32) (μ : Mem) : T p l e (rmD 0) s m args below meth c 6 A dsX D ad cA enL (fX7_power x0 x2 μ) 0 [(0, .long x0), (2, .int x2)] [] μ := by
  unfold fX7_power
  refine tt_lconst (v := (1 : Int64)) C dX7_power_0 (by decide) ?_
  refine tt_lbl (fun y1 => ?_)
  refine tt_lstore_n (L2 := [(3, .long y1), (0, .long x0), (2, .int x2)]) C dX7_power_1 rfl (by decide) rfl ?_
  refine tt_iconst (v := (0 : Int32)) C dX7_power_2 (by decide) ?_
  refine tt_lbi (fun y2 => ?_)
  refine tt_istore (L2 := [(5, .int y2), (3, .long y1), (0, .long x0), (2, .int x2)]) C dX7_power_3 (by decide) rfl ?_
  refine tt_sub [2, 3, 1, 0] (L2 := [(0, .long x0), (2, .int x2), (3, .long y1), (5, .int y2)]) rfl ?_
  exact wX7_power_L5 C hr FU x0 x2 y1 y2 μ
theorem kX7_power {l : Launch} {A : Nat → Prop} {D : va_G} {ad : Nat → Nat} {cA : Nat → ClassId} (hPk : Pk A dsX ad cA (EX A ad)) {x0 : Int64} {x2 : Int32} {μ : Mem} {v : Int64} {ν : Mem} (h : fX7_power x0 x2 μ = some (v, ν)) : Ct l A dsX D ad cA (EX A ad) yX7_power cX7_power 6 (some .long) 0 [.long x0, .int x2] μ (enL (v, ν)) :=
  ct_of (by decide) (Nat.le_of_ble_eq_true rfl) hPk rfl (fun p e s m args below meth c C hr => wX7_power C hr x0 x2 μ) h

/-! BasketRound.partOfFraction(JJI)J -/
def fX7_partOfFraction_J69 (z0 : Int64) (μ : Mem) : Option (Int64 × Mem) := some (z0, μ)
set_option maxHeartbeats 4000000 in
set_option maxRecDepth 100000 in
theorem wX7_partOfFraction_J69 {p : Program} {l : Launch} {e : Env} {s : State} {m : MethodId} {args : Array Value} {below : List Frame} {meth : Method} {c : Code} {A : Nat → Prop} {D : va_G} {ad : Nat → Nat} {cA : Nat → ClassId} (C : Cx p s m args meth c cX7_partOfFraction RX7 12 A dsX D ad cA (EX A ad)) (hr : meth.sig.returnType = some .long) (z0 : Int64) (μ : Mem) : T p l e (rmD 0) s m args below meth c 12 A dsX D ad cA enL (fX7_partOfFraction_J69 z0 μ) 69 [] [.long z0] μ := by
  unfold fX7_partOfFraction_J69
  exact tt_lret rfl C hr dX7_partOfFraction_69

def fX7_partOfFraction_J44 (x0 : Int64) (x2 : Int64) (x4 : Int32) (x5 : Int64) (μ : Mem) : Option (Int64 × Mem) := if (lg_cmp x5 (0 : Int64)) = (0 : Int32) then (some ((0 : Int64), μ)) else (if x4 = (0 : Int32) then (gd (¬ x5 = (0 : Int64)) <| fX7_partOfFraction_J69 (x0 / x5) μ) else (gd (¬ x5 = (0 : Int64)) <| fX7_partOfFraction_J69 (x2 / x5) μ))
set_option maxHeartbeats 4000000 in
set_option maxRecDepth 100000 in
theorem wX7_partOfFraction_J44 {p : Program} {l : Launch} {e : Env} {s : State} {m : MethodId} {args : Array Value} {below : List Frame} {meth : Method} {c : Code} {A : Nat → Prop} {D : va_G} {ad : Nat → Nat} {cA : Nat → ClassId} (C : Cx p s m args meth c cX7_partOfFraction RX7 12 A dsX D ad cA (EX A ad)) (hr : meth.sig.returnType = some .long) (x0 : Int64) (x2 : Int64) (x4 : Int32) (x5 : Int64) (μ : Mem) : T p l e (rmD 0) s m args below meth c 12 A dsX D ad cA enL (fX7_partOfFraction_J44 x0 x2 x4 x5 μ) 44 [(0, .long x0), (2, .long x2), (4, .int x4), (5, .long x5)] [] μ := by
  unfold fX7_partOfFraction_J44
  refine tt_lload C 3 dX7_partOfFraction_44 rfl ?_
  refine tt_lconst (v := (0 : Int64)) C dX7_partOfFraction_46 (by decide) ?_
  refine tt_lcmp C dX7_partOfFraction_47 ?_
  refine tt_if (fun h1 => ?_) (fun h1 => ?_)
  · refine tt_if_neF C 53 h1 dX7_partOfFraction_48 (by decide) ?_
    refine tt_lconst (v := (0 : Int64)) C dX7_partOfFraction_51 (by decide) ?_
    exact tt_lret rfl C hr dX7_partOfFraction_52
  · refine tt_if_neT (tgt := 53) C h1 dX7_partOfFraction_48 (by decide) ?_
    refine tt_iload C 2 dX7_partOfFraction_53 rfl ?_
    refine tt_if (fun h2 => ?_) (fun h2 => ?_)
    · refine tt_if_neF C 65 h2 dX7_partOfFraction_55 (by decide) ?_
      refine tt_lload_n C 0 dX7_partOfFraction_58 rfl rfl ?_
      refine tt_lload C 3 dX7_partOfFraction_59 rfl ?_
      refine tt_gd (fun h4 => ?_)
      refine tt_ldiv C h4 dX7_partOfFraction_61 ?_
      refine tt_goto (tgt := 69) C dX7_partOfFraction_62 (by decide) ?_
      refine tt_sub [] (L2 := []) rfl ?_
      exact wX7_partOfFraction_J69 C hr (x0 / x5) μ
    · refine tt_if_neT (tgt := 65) C h2 dX7_partOfFraction_55 (by decide) ?_
      refine tt_lload_n C 1 dX7_partOfFraction_65 rfl rfl ?_
      refine tt_lload C 3 dX7_partOfFraction_66 rfl ?_
      refine tt_gd (fun h3 => ?_)
      refine tt_ldiv C h3 dX7_partOfFraction_68 ?_
      refine tt_sub [] (L2 := []) rfl ?_
      exact wX7_partOfFraction_J69 C hr (x2 / x5) μ

def fX7_partOfFraction_L9 : Nat → Int64 → Int64 → Int32 → Int64 → Int64 → Int32 → Mem → Option (Int64 × Mem)
  | 0, _, _, _, _, _, _, _ => none
  | fu + 1, x0, x2, x4, x5, x7, x9, μ => if (100 : Int32) ≤ x9 then (fX7_partOfFraction_J44 x0 x2 x4 x5 μ) else (if (lg_cmp x7 (0 : Int64)) = (0 : Int32) then (fX7_partOfFraction_J44 x0 x2 x4 x5 μ) else (gd (¬ x7 = (0 : Int64)) <| lb (lrm x5 x7) fun (y1 : Int64) => lb (x9 + (1 : Int32)) fun (y2 : Int32) => fX7_partOfFraction_L9 fu x0 x2 x4 x7 y1 y2 μ))
set_option maxHeartbeats 4000000 in
set_option maxRecDepth 100000 in
theorem wX7_partOfFraction_L9 {p : Program} {l : Launch} {e : Env} {s : State} {m : MethodId} {args : Array Value} {below : List Frame} {meth : Method} {c : Code} {A : Nat → Prop} {D : va_G} {ad : Nat → Nat} {cA : Nat → ClassId} (C : Cx p s m args meth c cX7_partOfFraction RX7 12 A dsX D ad cA (EX A ad)) (hr : meth.sig.returnType = some .long) : ∀ (fu : Nat) (x0 : Int64) (x2 : Int64) (x4 : Int32) (x5 : Int64) (x7 : Int64) (x9 : Int32) (μ : Mem), T p l e (rmD 0) s m args below meth c 12 A dsX D ad cA enL (fX7_partOfFraction_L9 fu x0 x2 x4 x5 x7 x9 μ) 9 [(0, .long x0), (2, .long x2), (4, .int x4), (5, .long x5), (7, .long x7), (9, .int x9)] [] μ
  | 0, _, _, _, _, _, _, _ => tt_none
  | fu + 1, x0, x2, x4, x5, x7, x9, μ => by
    have ih := fun (x0 : Int64) (x2 : Int64) (x4 : Int32) (x5 : Int64) (x7 : Int64) (x9 : Int32) (μ : Mem) => wX7_partOfFraction_L9 (l := l) (e := e) (below := below) C hr fu x0 x2 x4 x5 x7 x9 μ
    show T p l e (rmD 0) s m args below meth c 12 A dsX D ad cA enL (if (100 : Int32) ≤ x9 then (fX7_partOfFraction_J44 x0 x2 x4 x5 μ) else (if (lg_cmp x7 (0 : Int64)) = (0 : Int32) then (fX7_partOfFraction_J44 x0 x2 x4 x5 μ) else (gd (¬ x7 = (0 : Int64)) <| lb (lrm x5 x7) fun (y1 : Int64) => lb (x9 + (1 : Int32)) fun (y2 : Int32) => fX7_partOfFraction_L9 fu x0 x2 x4 x7 y1 y2 μ))) 9 [(0, .long x0), (2, .long x2), (4, .int x4), (5, .long x5), (7, .long x7), (9, .int x9)] [] μ
    refine tt_iload C 5 dX7_partOfFraction_9 rfl ?_
    refine tt_bipush (v := (100 : Int32)) C dX7_partOfFraction_11 (by decide) ?_
    refine tt_if (fun h1 => ?_) (fun h1 => ?_)
    · refine tt_icmp_geT (tgt := 44) C h1 dX7_partOfFraction_13 (by decide) ?_
      refine tt_sub [0, 1, 2, 3] (L2 := [(0, .long x0), (2, .long x2), (4, .int x4), (5, .long x5)]) rfl ?_
      exact wX7_partOfFraction_J44 C hr x0 x2 x4 x5 μ
    · refine tt_icmp_geF C 44 h1 dX7_partOfFraction_13 (by decide) ?_
      refine tt_lload C 4 dX7_partOfFraction_16 rfl ?_
      refine tt_lconst (v := (0 : Int64)) C dX7_partOfFraction_18 (by decide) ?_
      refine tt_lcmp C dX7_partOfFraction_19 ?_
      refine tt_if (fun h2 => ?_) (fun h2 => ?_)
      · refine tt_if_eqT (tgt := 44) C h2 dX7_partOfFraction_20 (by decide) ?_
        refine tt_sub [0, 1, 2, 3] (L2 := [(0, .long x0), (2, .long x2), (4, .int x4), (5, .long x5)]) rfl ?_
        exact wX7_partOfFraction_J44 C hr x0 x2 x4 x5 μ
      · refine tt_if_eqF C 44 h2 dX7_partOfFraction_20 (by decide) ?_
        refine tt_lload C 3 dX7_partOfFraction_23 rfl ?_
        refine tt_lload C 4 dX7_partOfFraction_25 rfl ?_
        refine tt_gd (fun h3 => ?_)
        refine tt_lrem C h3 dX7_partOfFraction_27 ?_
        refine tt_lbl (fun y1 => ?_)
        refine tt_lstore (L2 := [(10, .long y1), (0, .long x0), (2, .long x2), (4, .int x4), (5, .long x5), (7, .long x7), (9, .int x9)]) C dX7_partOfFraction_28 (by decide) rfl ?_
        refine tt_lload C 5 dX7_partOfFraction_30 rfl ?_
        refine tt_lstore (L2 := [(5, .long x7), (10, .long y1), (0, .long x0), (2, .long x2), (4, .int x4), (7, .long x7), (9, .int x9)]) C dX7_partOfFraction_32 (by decide) rfl ?_
        refine tt_lload C 1 dX7_partOfFraction_34 rfl ?_
        refine tt_lstore (L2 := [(7, .long y1), (5, .long x7), (10, .long y1), (0, .long x0), (2, .long x2), (4, .int x4), (9, .int x9)]) C dX7_partOfFraction_36 (by decide) rfl ?_
        refine tt_iincB (d := (1 : Int32)) C 6 (fun y2 => [(9, .int y2), (7, .long y1), (5, .long x7), (10, .long y1), (0, .long x0), (2, .long x2), (4, .int x4)]) dX7_partOfFraction_38 rfl (by decide) (by decide) (fun _ => rfl) (fun y2 => ?_)
        refine tt_goto (tgt := 9) C dX7_partOfFraction_41 (by decide) ?_
        refine tt_sub [4, 5, 6, 2, 1, 0] (L2 := [(0, .long x0), (2, .long x2), (4, .int x4), (5, .long x7), (7, .long y1), (9, .int y2)]) rfl ?_
        exact ih x0 x2 x4 x7 y1 y2 μ

def fX7_partOfFraction (x0 : Int64) (x2 : Int64) (x4 : Int32) (μ : Mem) : Option (Int64 × Mem) := lb (0 : Int32) fun (y1 : Int32) => fX7_partOfFraction_L9 FU x0 x2 x4 x2 x0 y1 μ
set_option maxHeartbeats 4000000 in
set_option maxRecDepth 100000 in
theorem wX7_partOfFraction {p : Program} {l : Launch} {e : Env} {s : State} {m : MethodId} {args : Array Value} {below : List Frame} {meth : Method} {c : Code} {A : Nat → Prop} {D : va_G} {ad : Nat → Nat} {cA : Nat → ClassId} (C : Cx p s m args meth c cX7_partOfFraction RX7 12 A dsX D ad cA (EX A ad)) (hr : meth.sig.returnType = some .long) (x0 : Int64) (x2 : Int64) (x4 : Int32) (μ : Mem) : T p l e (rmD 0) s m args below meth c 12 A dsX D ad cA enL (fX7_partOfFraction x0 x2 x4 μ) 0 [(0, .long x0), (2, .long x2), (4, .int x4)] [] μ := by
  unfold fX7_partOfFraction
  refine tt_lload_n C 1 dX7_partOfFraction_0 rfl rfl ?_
  refine tt_lstore (L2 := [(5, .long x2), (0, .long x0), (2, .long x2), (4, .int x4)]) C dX7_partOfFraction_1 (by decide) rfl ?_
  refine tt_lload_n C 1 dX7_partOfFraction_3 rfl rfl ?_
  refine tt_lstore (L2 := [(7, .long x0), (5, .long x2), (0, .long x0), (2, .long x2), (4, .int x4)]) C dX7_partOfFraction_4 (by decide) rfl ?_
  refine tt_iconst (v := (0 : Int32)) C dX7_partOfFraction_6 (by decide) ?_
  refine tt_lbi (fun y1 => ?_)
  refine tt_istore (L2 := [(9, .int y1), (7, .long x0), (5, .long x2), (0, .long x0), (2, .long x2), (4, .int x4)]) C dX7_partOfFraction_7 (by decide) rfl ?_
  refine tt_sub [3, 4, 5, 2, 1, 0] (L2 := [(0, .long x0), (2, .long x2), (4, .int x4), (5, .long x2), (7, .long x0), (9, .int y1)]) rfl ?_
  exact wX7_partOfFraction_L9 C hr FU x0 x2 x4 x2 x0 y1 μ
theorem kX7_partOfFraction {l : Launch} {A : Nat → Prop} {D : va_G} {ad : Nat → Nat} {cA : Nat → ClassId} (hPk : Pk A dsX ad cA (EX A ad)) {x0 : Int64} {x2 : Int64} {x4 : Int32} {μ : Mem} {v : Int64} {ν : Mem} (h : fX7_partOfFraction x0 x2 x4 μ = some (v, ν)) : Ct l A dsX D ad cA (EX A ad) yX7_partOfFraction cX7_partOfFraction 12 (some .long) 0 [.long x0, .long x2, .int x4] μ (enL (v, ν)) :=
  ct_of (by decide) (Nat.le_of_ble_eq_true rfl) hPk rfl (fun p e s m args below meth c C hr => wX7_partOfFraction C hr x0 x2 x4 μ) h

/-! BasketRound.luck(III)J -/
def fX7_luck_J119 (k58 : Int32 → Int32 → Int32 → Int32 → Int32 → Int64 → Int32 → Mem → Option (Int64 × Mem)) (x1 : Int32) (x2 : Int32) (x3 : Int32) (x4 : Int32) (x5 : Int32) (x6 : Int64) (x8 : Int32) (μ : Mem) : Option (Int64 × Mem) := lb (x8 + (1 : Int32)) fun (y1 : Int32) => k58 x1 x2 x3 x4 x5 x6 y1 μ
set_option maxHeartbeats 4000000 in
set_option maxRecDepth 100000 in
theorem wX7_luck_J119 {p : Program} {l : Launch} {e : Env} {s : State} {m : MethodId} {args : Array Value} {below : List Frame} {meth : Method} {c : Code} {A : Nat → Prop} {D : va_G} {ad : Nat → Nat} {cA : Nat → ClassId} (C : Cx p s m args meth c cX7_luck RX7 10 A dsX D ad cA (EX A ad)) (hr : meth.sig.returnType = some .long) (k58 : Int32 → Int32 → Int32 → Int32 → Int32 → Int64 → Int32 → Mem → Option (Int64 × Mem)) (hk58 : ∀ (x1 : Int32) (x2 : Int32) (x3 : Int32) (x4 : Int32) (x5 : Int32) (x6 : Int64) (x8 : Int32) (μ : Mem), T p l e (rmD 5) s m args below meth c 10 A dsX D ad cA enL (k58 x1 x2 x3 x4 x5 x6 x8 μ) 58 [(0, .ref (ad 0)), (1, .int x1), (2, .int x2), (3, .int x3), (4, .int x4), (5, .int x5), (6, .long x6), (8, .int x8)] [] μ) (x1 : Int32) (x2 : Int32) (x3 : Int32) (x4 : Int32) (x5 : Int32) (x6 : Int64) (x8 : Int32) (μ : Mem) : T p l e (rmD 5) s m args below meth c 10 A dsX D ad cA enL (fX7_luck_J119 k58 x1 x2 x3 x4 x5 x6 x8 μ) 119 [(0, .ref (ad 0)), (1, .int x1), (2, .int x2), (3, .int x3), (4, .int x4), (5, .int x5), (6, .long x6), (8, .int x8)] [] μ := by
  unfold fX7_luck_J119
  refine tt_iincB (d := (1 : Int32)) C 7 (fun y1 => [(8, .int y1), (0, .ref (ad 0)), (1, .int x1), (2, .int x2), (3, .int x3), (4, .int x4), (5, .int x5), (6, .long x6)]) dX7_luck_119 rfl (by decide) (by decide) (fun _ => rfl) (fun y1 => ?_)
  refine tt_goto (tgt := 58) C dX7_luck_122 (by decide) ?_
  refine tt_sub [1, 2, 3, 4, 5, 6, 7, 0] (L2 := [(0, .ref (ad 0)), (1, .int x1), (2, .int x2), (3, .int x3), (4, .int x4), (5, .int x5), (6, .long x6), (8, .int y1)]) rfl ?_
  exact hk58 x1 x2 x3 x4 x5 x6 y1 μ

def fX7_luck_L58 : Nat → Int32 → Int32 → Int32 → Int32 → Int32 → Int64 → Int32 → Mem → Option (Int64 × Mem)
  | 0, _, _, _, _, _, _, _, _ => none
  | fu + 1, x1, x2, x3, x4, x5, x6, x8, μ => if x5 < x8 then (bl (fX7_power (10 : Int64) (μ 3 5) μ) fun v2 m1 => bl (fX7_partOfFraction x6 v2 x3 m1) fun v4 m3 => some (v4, m3)) else (bi (fX4_penniesOf 3 (x8 &&& x4) μ) fun v6 m5 => if v6 < x2 then (fX7_luck_J119 (fun x1 x2 x3 x4 x5 x6 x8 μ => fX7_luck_L58 fu x1 x2 x3 x4 x5 x6 x8 μ) x1 x2 x3 x4 x5 x6 x8 m5) else (bi (fJ6_bitCount_0f7a4 x8 m5) fun v8 m7 => bl (fX7_power (((10 : Int32) - x1).toInt64) v8 m7) fun v10 m9 => bl (fX7_power x1.toInt64 ((m9 3 5) - v8) m9) fun v12 m11 => lb (x6 + (v10 * v12)) fun (y13 : Int64) => fX7_luck_J119 (fun x1 x2 x3 x4 x5 x6 x8 μ => fX7_luck_L58 fu x1 x2 x3 x4 x5 x6 x8 μ) x1 x2 x3 x4 x5 y13 x8 m11))
set_option maxHeartbeats 4000000 in
set_option maxRecDepth 100000 in
theorem wX7_luck_L58 {p : Program} {l : Launch} {e : Env} {s : State} {m : MethodId} {args : Array Value} {below : List Frame} {meth : Method} {c : Code} {A : Nat → Prop} {D : va_G} {ad : Nat → Nat} {cA : Nat → ClassId} (C : Cx p s m args meth c cX7_luck RX7 10 A dsX D ad cA (EX A ad)) (hr : meth.sig.returnType = some .long) : ∀ (fu : Nat) (x1 : Int32) (x2 : Int32) (x3 : Int32) (x4 : Int32) (x5 : Int32) (x6 : Int64) (x8 : Int32) (μ : Mem), T p l e (rmD 5) s m args below meth c 10 A dsX D ad cA enL (fX7_luck_L58 fu x1 x2 x3 x4 x5 x6 x8 μ) 58 [(0, .ref (ad 0)), (1, .int x1), (2, .int x2), (3, .int x3), (4, .int x4), (5, .int x5), (6, .long x6), (8, .int x8)] [] μ
  | 0, _, _, _, _, _, _, _, _ => tt_none
  | fu + 1, x1, x2, x3, x4, x5, x6, x8, μ => by
    have ih := fun (x1 : Int32) (x2 : Int32) (x3 : Int32) (x4 : Int32) (x5 : Int32) (x6 : Int64) (x8 : Int32) (μ : Mem) => wX7_luck_L58 (l := l) (e := e) (below := below) C hr fu x1 x2 x3 x4 x5 x6 x8 μ
    show T p l e (rmD 5) s m args below meth c 10 A dsX D ad cA enL (if x5 < x8 then (bl (fX7_power (10 : Int64) (μ 3 5) μ) fun v2 m1 => bl (fX7_partOfFraction x6 v2 x3 m1) fun v4 m3 => some (v4, m3)) else (bi (fX4_penniesOf 3 (x8 &&& x4) μ) fun v6 m5 => if v6 < x2 then (fX7_luck_J119 (fun x1 x2 x3 x4 x5 x6 x8 μ => fX7_luck_L58 fu x1 x2 x3 x4 x5 x6 x8 μ) x1 x2 x3 x4 x5 x6 x8 m5) else (bi (fJ6_bitCount_0f7a4 x8 m5) fun v8 m7 => bl (fX7_power (((10 : Int32) - x1).toInt64) v8 m7) fun v10 m9 => bl (fX7_power x1.toInt64 ((m9 3 5) - v8) m9) fun v12 m11 => lb (x6 + (v10 * v12)) fun (y13 : Int64) => fX7_luck_J119 (fun x1 x2 x3 x4 x5 x6 x8 μ => fX7_luck_L58 fu x1 x2 x3 x4 x5 x6 x8 μ) x1 x2 x3 x4 x5 y13 x8 m11))) 58 [(0, .ref (ad 0)), (1, .int x1), (2, .int x2), (3, .int x3), (4, .int x4), (5, .int x5), (6, .long x6), (8, .int x8)] [] μ
    refine tt_iload C 7 dX7_luck_58 rfl ?_
    refine tt_iload C 5 dX7_luck_60 rfl ?_
    refine tt_if (fun h1 => ?_) (fun h1 => ?_)
    · refine tt_icmp_gtT (tgt := 125) C h1 dX7_luck_62 (by decide) ?_
      refine tt_lload C 6 dX7_luck_125 rfl ?_
      refine tt_ldc2 (v := (10 : Int64)) C kL_RX7_260 dX7_luck_127 ?_
      refine tt_aload_n C 0 dX7_luck_130 rfl rfl ?_
      refine tt_getR C (j := 1) (r0 := 3) dX_0 rfl fl_RX7_19 dX7_luck_131 ?_
      refine tt_getI C (j := 5) dX_3 rfl fl_RX7_109 dX7_luck_134 ?_
      refine tt_bl (fun v2 m1 h2 => ?_)
      refine tt_callS (st := [.long x6]) (As := [.long (10 : Int64), .int (μ 3 5)]) C (kX7_power C.2.2.2.2.2.2.2.1 h2) mi_X7_power ml_RX7_271 mt_X7_power rfl (by decide) (by decide) (Nat.le_of_ble_eq_true rfl) dX7_luck_137 ?_
      refine tt_iload_n C 3 dX7_luck_140 rfl rfl ?_
      refine tt_bl (fun v4 m3 h3 => ?_)
      refine tt_callS (st := []) (As := [.long x6, .long v2, .int x3]) C (kX7_partOfFraction C.2.2.2.2.2.2.2.1 h3) mi_X7_partOfFraction ml_RX7_262 mt_X7_partOfFraction rfl (by decide) (by decide) (Nat.le_of_ble_eq_true rfl) dX7_luck_141 ?_
      exact tt_lret rfl C hr dX7_luck_144
    · refine tt_icmp_gtF C 125 h1 dX7_luck_62 (by decide) ?_
      refine tt_aload_n C 0 dX7_luck_65 rfl rfl ?_
      refine tt_getR C (j := 1) (r0 := 3) dX_0 rfl fl_RX7_19 dX7_luck_66 ?_
      refine tt_iload C 7 dX7_luck_69 rfl ?_
      refine tt_iload C 4 dX7_luck_71 rfl ?_
      refine tt_iand C dX7_luck_73 ?_
      refine tt_bi (fun v6 m5 h4 => ?_)
      refine tt_callV (st := []) (As := [.int (x8 &&& x4)]) C (kX4_penniesOf C.2.2.2.2.2.2.2.1 3 hSh_3 h4) mi_X4_penniesOf ml_RX7_255 mv_X4_penniesOf ms_X4_penniesOf (q := (RX4, TX4, 8)) dX_3 rfl rfl (by decide) (by decide) (Nat.le_of_ble_eq_true rfl) dX7_luck_74 ?_
      refine tt_iload_n C 2 dX7_luck_77 rfl rfl ?_
      refine tt_if (fun h5 => ?_) (fun h5 => ?_)
      · refine tt_icmp_ltT (tgt := 119) C h5 dX7_luck_78 (by decide) ?_
        refine tt_sub [0, 1, 2, 3, 4, 5, 6, 7] (L2 := [(0, .ref (ad 0)), (1, .int x1), (2, .int x2), (3, .int x3), (4, .int x4), (5, .int x5), (6, .long x6), (8, .int x8)]) rfl ?_
        exact wX7_luck_J119 C hr (fun x1 x2 x3 x4 x5 x6 x8 μ => fX7_luck_L58 fu x1 x2 x3 x4 x5 x6 x8 μ) (fun x1 x2 x3 x4 x5 x6 x8 μ => ih x1 x2 x3 x4 x5 x6 x8 μ) x1 x2 x3 x4 x5 x6 x8 m5
      · refine tt_icmp_ltF C 119 h5 dX7_luck_78 (by decide) ?_
        refine tt_iload C 7 dX7_luck_81 rfl ?_
        refine tt_bi (fun v8 m7 h6 => ?_)
        refine tt_callS (st := []) (As := [.int x8]) C (kJ6_bitCount_0f7a4 C.2.2.2.2.2.2.2.1 h6) mi_J6_bitCount_0f7a4 ml_RX7_266 mt_J6_bitCount_0f7a4 rfl (by decide) (by decide) (Nat.le_of_ble_eq_true rfl) dX7_luck_83 ?_
        refine tt_istore (L2 := [(9, .int v8), (0, .ref (ad 0)), (1, .int x1), (2, .int x2), (3, .int x3), (4, .int x4), (5, .int x5), (6, .long x6), (8, .int x8)]) C dX7_luck_86 (by decide) rfl ?_
        refine tt_lload C 7 dX7_luck_88 rfl ?_
        refine tt_bipush (v := (10 : Int32)) C dX7_luck_90 (by decide) ?_
        refine tt_iload_n C 2 dX7_luck_92 rfl rfl ?_
        refine tt_isub C dX7_luck_93 ?_
        refine tt_i2l C dX7_luck_94 ?_
        refine tt_iload C 0 dX7_luck_95 rfl ?_
        refine tt_bl (fun v10 m9 h7 => ?_)
        refine tt_callS (st := [.long x6]) (As := [.long (((10 : Int32) - x1).toInt64), .int v8]) C (kX7_power C.2.2.2.2.2.2.2.1 h7) mi_X7_power ml_RX7_271 mt_X7_power rfl (by decide) (by decide) (Nat.le_of_ble_eq_true rfl) dX7_luck_97 ?_
        refine tt_iload_n C 2 dX7_luck_100 rfl rfl ?_
        refine tt_i2l C dX7_luck_101 ?_
        refine tt_aload_n C 1 dX7_luck_102 rfl rfl ?_
        refine tt_getR C (j := 1) (r0 := 3) dX_0 rfl fl_RX7_19 dX7_luck_103 ?_
        refine tt_getI C (j := 5) dX_3 rfl fl_RX7_109 dX7_luck_106 ?_
        refine tt_iload C 0 dX7_luck_109 rfl ?_
        refine tt_isub C dX7_luck_111 ?_
        refine tt_bl (fun v12 m11 h8 => ?_)
        refine tt_callS (st := [.long v10, .long x6]) (As := [.long x1.toInt64, .int ((m9 3 5) - v8)]) C (kX7_power C.2.2.2.2.2.2.2.1 h8) mi_X7_power ml_RX7_271 mt_X7_power rfl (by decide) (by decide) (Nat.le_of_ble_eq_true rfl) dX7_luck_112 ?_
        refine tt_lmul C dX7_luck_115 ?_
        refine tt_ladd C dX7_luck_116 ?_
        refine tt_lbl (fun y13 => ?_)
        refine tt_lstore (L2 := [(6, .long y13), (9, .int v8), (0, .ref (ad 0)), (1, .int x1), (2, .int x2), (3, .int x3), (4, .int x4), (5, .int x5), (8, .int x8)]) C dX7_luck_117 (by decide) rfl ?_
        refine tt_sub [2, 3, 4, 5, 6, 7, 0, 8] (L2 := [(0, .ref (ad 0)), (1, .int x1), (2, .int x2), (3, .int x3), (4, .int x4), (5, .int x5), (6, .long y13), (8, .int x8)]) rfl ?_
        exact wX7_luck_J119 C hr (fun x1 x2 x3 x4 x5 x6 x8 μ => fX7_luck_L58 fu x1 x2 x3 x4 x5 x6 x8 μ) (fun x1 x2 x3 x4 x5 x6 x8 μ => ih x1 x2 x3 x4 x5 x6 x8 μ) x1 x2 x3 x4 x5 y13 x8 m11

def fX7_luck_J29 (μ : Mem) : Option (Int64 × Mem) := some ((-1 : Int64), μ)
set_option maxHeartbeats 4000000 in
set_option maxRecDepth 100000 in
theorem wX7_luck_J29 {p : Program} {l : Launch} {e : Env} {s : State} {m : MethodId} {args : Array Value} {below : List Frame} {meth : Method} {c : Code} {A : Nat → Prop} {D : va_G} {ad : Nat → Nat} {cA : Nat → ClassId} (C : Cx p s m args meth c cX7_luck RX7 10 A dsX D ad cA (EX A ad)) (hr : meth.sig.returnType = some .long) (μ : Mem) : T p l e (rmD 5) s m args below meth c 10 A dsX D ad cA enL (fX7_luck_J29 μ) 29 [] [] μ := by
  unfold fX7_luck_J29
  refine tt_ldc2 (v := (-1 : Int64)) C kL_RX7_258 dX7_luck_29 ?_
  exact tt_lret rfl C hr dX7_luck_32

def fX7_luck (x1 : Int32) (x2 : Int32) (x3 : Int32) (μ : Mem) : Option (Int64 × Mem) := bi (fX7_within x1 (0 : Int32) (10 : Int32) μ) fun v2 m1 => if v2 = (0 : Int32) then (fX7_luck_J29 m1) else (bi (fX7_within x2 (0 : Int32) (45 : Int32) m1) fun v4 m3 => if v4 = (0 : Int32) then (fX7_luck_J29 m3) else (bi (fX7_within x3 (0 : Int32) (1 : Int32) m3) fun v6 m5 => if v6 = (0 : Int32) then (fX7_luck_J29 m5) else (bv (fX7_goRound m5) fun m7 => bi (fX6_paidBits m7) fun v9 m8 => bi (fX7_allBits m8) fun v11 m10 => lb (0 : Int64) fun (y12 : Int64) => lb (0 : Int32) fun (y13 : Int32) => fX7_luck_L58 FU x1 x2 x3 v9 v11 y12 y13 m10)))
set_option maxHeartbeats 4000000 in
set_option maxRecDepth 100000 in
theorem wX7_luck {p : Program} {l : Launch} {e : Env} {s : State} {m : MethodId} {args : Array Value} {below : List Frame} {meth : Method} {c : Code} {A : Nat → Prop} {D : va_G} {ad : Nat → Nat} {cA : Nat → ClassId} (C : Cx p s m args meth c cX7_luck RX7 10 A dsX D ad cA (EX A ad)) (hr : meth.sig.returnType = some .long) (x1 : Int32) (x2 : Int32) (x3 : Int32) (μ : Mem) : T p l e (rmD 5) s m args below meth c 10 A dsX D ad cA enL (fX7_luck x1 x2 x3 μ) 0 [(0, .ref (ad 0)), (1, .int x1), (2, .int x2), (3, .int x3)] [] μ := by
  unfold fX7_luck
  refine tt_iload_n C 1 dX7_luck_0 rfl rfl ?_
  refine tt_iconst (v := (0 : Int32)) C dX7_luck_1 (by decide) ?_
  refine tt_bipush (v := (10 : Int32)) C dX7_luck_2 (by decide) ?_
  refine tt_bi (fun v2 m1 h1 => ?_)
  refine tt_callS (st := []) (As := [.int x1, .int (0 : Int32), .int (10 : Int32)]) C (kX7_within C.2.2.2.2.2.2.2.1 h1) mi_X7_within ml_RX7_70 mt_X7_within rfl (by decide) (by decide) (Nat.le_of_ble_eq_true rfl) dX7_luck_4 ?_
  refine tt_if (fun h2 => ?_) (fun h2 => ?_)
  · refine tt_if_eqT (tgt := 29) C h2 dX7_luck_7 (by decide) ?_
    refine tt_sub [] (L2 := []) rfl ?_
    exact wX7_luck_J29 C hr m1
  · refine tt_if_eqF C 29 h2 dX7_luck_7 (by decide) ?_
    refine tt_iload_n C 2 dX7_luck_10 rfl rfl ?_
    refine tt_iconst (v := (0 : Int32)) C dX7_luck_11 (by decide) ?_
    refine tt_bipush (v := (45 : Int32)) C dX7_luck_12 (by decide) ?_
    refine tt_bi (fun v4 m3 h3 => ?_)
    refine tt_callS (st := []) (As := [.int x2, .int (0 : Int32), .int (45 : Int32)]) C (kX7_within C.2.2.2.2.2.2.2.1 h3) mi_X7_within ml_RX7_70 mt_X7_within rfl (by decide) (by decide) (Nat.le_of_ble_eq_true rfl) dX7_luck_14 ?_
    refine tt_if (fun h4 => ?_) (fun h4 => ?_)
    · refine tt_if_eqT (tgt := 29) C h4 dX7_luck_17 (by decide) ?_
      refine tt_sub [] (L2 := []) rfl ?_
      exact wX7_luck_J29 C hr m3
    · refine tt_if_eqF C 29 h4 dX7_luck_17 (by decide) ?_
      refine tt_iload_n C 3 dX7_luck_20 rfl rfl ?_
      refine tt_iconst (v := (0 : Int32)) C dX7_luck_21 (by decide) ?_
      refine tt_iconst (v := (1 : Int32)) C dX7_luck_22 (by decide) ?_
      refine tt_bi (fun v6 m5 h5 => ?_)
      refine tt_callS (st := []) (As := [.int x3, .int (0 : Int32), .int (1 : Int32)]) C (kX7_within C.2.2.2.2.2.2.2.1 h5) mi_X7_within ml_RX7_70 mt_X7_within rfl (by decide) (by decide) (Nat.le_of_ble_eq_true rfl) dX7_luck_23 ?_
      refine tt_if (fun h6 => ?_) (fun h6 => ?_)
      · refine tt_if_neF C 33 h6 dX7_luck_26 (by decide) ?_
        refine tt_sub [] (L2 := []) rfl ?_
        exact wX7_luck_J29 C hr m5
      · refine tt_if_neT (tgt := 33) C h6 dX7_luck_26 (by decide) ?_
        refine tt_aload_n C 0 dX7_luck_33 rfl rfl ?_
        refine tt_bv (fun m7 h7 => ?_)
        refine tt_callV (st := []) (As := []) C (kX7_goRound C.2.2.2.2.2.2.2.1 h7) mi_X7_goRound ml_RX7_162 mv_X7_goRound ms_X7_goRound (q := (RX7, TX7, 11)) dX_0 rfl rfl (by decide) (by decide) (Nat.le_of_ble_eq_true rfl) dX7_luck_34 ?_
        refine tt_aload_n C 0 dX7_luck_37 rfl rfl ?_
        refine tt_getR C (j := 3) (r0 := 24) dX_0 rfl fl_RX7_37 dX7_luck_38 ?_
        refine tt_bi (fun v9 m8 h8 => ?_)
        refine tt_callV (st := []) (As := []) C (kX6_paidBits C.2.2.2.2.2.2.2.1 h8) mi_X6_paidBits ml_RX7_249 mv_X6_paidBits ms_X6_paidBits (q := (RX6, TX6, 17)) dX_24 rfl rfl (by decide) (by decide) (Nat.le_of_ble_eq_true rfl) dX7_luck_41 ?_
        refine tt_istore (L2 := [(4, .int v9), (0, .ref (ad 0)), (1, .int x1), (2, .int x2), (3, .int x3)]) C dX7_luck_44 (by decide) rfl ?_
        refine tt_aload_n C 1 dX7_luck_46 rfl rfl ?_
        refine tt_bi (fun v11 m10 h9 => ?_)
        refine tt_callV (st := []) (As := []) C (kX7_allBits C.2.2.2.2.2.2.2.1 h9) mi_X7_allBits ml_RX7_204 mv_X7_allBits ms_X7_allBits (q := (RX7, TX7, 11)) dX_0 rfl rfl (by decide) (by decide) (Nat.le_of_ble_eq_true rfl) dX7_luck_47 ?_
        refine tt_istore (L2 := [(5, .int v11), (4, .int v9), (0, .ref (ad 0)), (1, .int x1), (2, .int x2), (3, .int x3)]) C dX7_luck_50 (by decide) rfl ?_
        refine tt_lconst (v := (0 : Int64)) C dX7_luck_52 (by decide) ?_
        refine tt_lbl (fun y12 => ?_)
        refine tt_lstore (L2 := [(6, .long y12), (5, .int v11), (4, .int v9), (0, .ref (ad 0)), (1, .int x1), (2, .int x2), (3, .int x3)]) C dX7_luck_53 (by decide) rfl ?_
        refine tt_iconst (v := (0 : Int32)) C dX7_luck_55 (by decide) ?_
        refine tt_lbi (fun y13 => ?_)
        refine tt_istore (L2 := [(8, .int y13), (6, .long y12), (5, .int v11), (4, .int v9), (0, .ref (ad 0)), (1, .int x1), (2, .int x2), (3, .int x3)]) C dX7_luck_56 (by decide) rfl ?_
        refine tt_sub [4, 5, 6, 7, 3, 2, 1, 0] (L2 := [(0, .ref (ad 0)), (1, .int x1), (2, .int x2), (3, .int x3), (4, .int v9), (5, .int v11), (6, .long y12), (8, .int y13)]) rfl ?_
        exact wX7_luck_L58 C hr FU x1 x2 x3 v9 v11 y12 y13 m10
theorem kX7_luck {l : Launch} {A : Nat → Prop} {D : va_G} {ad : Nat → Nat} {cA : Nat → ClassId} (hPk : Pk A dsX ad cA (EX A ad)) {x1 : Int32} {x2 : Int32} {x3 : Int32} {μ : Mem} {v : Int64} {ν : Mem} (h : fX7_luck x1 x2 x3 μ = some (v, ν)) : Ct l A dsX D ad cA (EX A ad) yX7_luck cX7_luck 10 (some .long) 5 [.ref (ad 0), .int x1, .int x2, .int x3] μ (enL (v, ν)) :=
  ct_of (by decide) (Nat.le_of_ble_eq_true rfl) hPk rfl (fun p e s m args below meth c C hr => wX7_luck C hr x1 x2 x3 μ) h

/-! BasketRound.mean(II)J -/
def fX7_mean_J19 (μ : Mem) : Option (Int64 × Mem) := some ((-1 : Int64), μ)
set_option maxHeartbeats 4000000 in
set_option maxRecDepth 100000 in
theorem wX7_mean_J19 {p : Program} {l : Launch} {e : Env} {s : State} {m : MethodId} {args : Array Value} {below : List Frame} {meth : Method} {c : Code} {A : Nat → Prop} {D : va_G} {ad : Nat → Nat} {cA : Nat → ClassId} (C : Cx p s m args meth c cX7_mean RX7 3 A dsX D ad cA (EX A ad)) (hr : meth.sig.returnType = some .long) (μ : Mem) : T p l e (rmD 5) s m args below meth c 3 A dsX D ad cA enL (fX7_mean_J19 μ) 19 [] [] μ := by
  unfold fX7_mean_J19
  refine tt_ldc2 (v := (-1 : Int64)) C kL_RX7_258 dX7_mean_19 ?_
  exact tt_lret rfl C hr dX7_mean_22

def fX7_mean (x1 : Int32) (x2 : Int32) (μ : Mem) : Option (Int64 × Mem) := bi (fX7_within x1 (0 : Int32) (10 : Int32) μ) fun v2 m1 => if v2 = (0 : Int32) then (fX7_mean_J19 m1) else (bi (fX7_within x2 (0 : Int32) (1 : Int32) m1) fun v4 m3 => if v4 = (0 : Int32) then (fX7_mean_J19 m3) else (bv (fX7_goRound m3) fun m5 => bl (fX7_partOfFraction (((m5 24 16).toInt64) * (((10 : Int32) - x1).toInt64)) (10 : Int64) x2 m5) fun v7 m6 => some (v7, m6)))
set_option maxHeartbeats 4000000 in
set_option maxRecDepth 100000 in
theorem wX7_mean {p : Program} {l : Launch} {e : Env} {s : State} {m : MethodId} {args : Array Value} {below : List Frame} {meth : Method} {c : Code} {A : Nat → Prop} {D : va_G} {ad : Nat → Nat} {cA : Nat → ClassId} (C : Cx p s m args meth c cX7_mean RX7 3 A dsX D ad cA (EX A ad)) (hr : meth.sig.returnType = some .long) (x1 : Int32) (x2 : Int32) (μ : Mem) : T p l e (rmD 5) s m args below meth c 3 A dsX D ad cA enL (fX7_mean x1 x2 μ) 0 [(0, .ref (ad 0)), (1, .int x1), (2, .int x2)] [] μ := by
  unfold fX7_mean
  refine tt_iload_n C 1 dX7_mean_0 rfl rfl ?_
  refine tt_iconst (v := (0 : Int32)) C dX7_mean_1 (by decide) ?_
  refine tt_bipush (v := (10 : Int32)) C dX7_mean_2 (by decide) ?_
  refine tt_bi (fun v2 m1 h1 => ?_)
  refine tt_callS (st := []) (As := [.int x1, .int (0 : Int32), .int (10 : Int32)]) C (kX7_within C.2.2.2.2.2.2.2.1 h1) mi_X7_within ml_RX7_70 mt_X7_within rfl (by decide) (by decide) (Nat.le_of_ble_eq_true rfl) dX7_mean_4 ?_
  refine tt_if (fun h2 => ?_) (fun h2 => ?_)
  · refine tt_if_eqT (tgt := 19) C h2 dX7_mean_7 (by decide) ?_
    refine tt_sub [] (L2 := []) rfl ?_
    exact wX7_mean_J19 C hr m1
  · refine tt_if_eqF C 19 h2 dX7_mean_7 (by decide) ?_
    refine tt_iload_n C 2 dX7_mean_10 rfl rfl ?_
    refine tt_iconst (v := (0 : Int32)) C dX7_mean_11 (by decide) ?_
    refine tt_iconst (v := (1 : Int32)) C dX7_mean_12 (by decide) ?_
    refine tt_bi (fun v4 m3 h3 => ?_)
    refine tt_callS (st := []) (As := [.int x2, .int (0 : Int32), .int (1 : Int32)]) C (kX7_within C.2.2.2.2.2.2.2.1 h3) mi_X7_within ml_RX7_70 mt_X7_within rfl (by decide) (by decide) (Nat.le_of_ble_eq_true rfl) dX7_mean_13 ?_
    refine tt_if (fun h4 => ?_) (fun h4 => ?_)
    · refine tt_if_neF C 23 h4 dX7_mean_16 (by decide) ?_
      refine tt_sub [] (L2 := []) rfl ?_
      exact wX7_mean_J19 C hr m3
    · refine tt_if_neT (tgt := 23) C h4 dX7_mean_16 (by decide) ?_
      refine tt_aload_n C 0 dX7_mean_23 rfl rfl ?_
      refine tt_bv (fun m5 h5 => ?_)
      refine tt_callV (st := []) (As := []) C (kX7_goRound C.2.2.2.2.2.2.2.1 h5) mi_X7_goRound ml_RX7_162 mv_X7_goRound ms_X7_goRound (q := (RX7, TX7, 11)) dX_0 rfl rfl (by decide) (by decide) (Nat.le_of_ble_eq_true rfl) dX7_mean_24 ?_
      refine tt_aload_n C 0 dX7_mean_27 rfl rfl ?_
      refine tt_getR C (j := 3) (r0 := 24) dX_0 rfl fl_RX7_37 dX7_mean_28 ?_
      refine tt_getI C (j := 16) dX_24 rfl fl_RX7_177 dX7_mean_31 ?_
      refine tt_i2l C dX7_mean_34 ?_
      refine tt_bipush (v := (10 : Int32)) C dX7_mean_35 (by decide) ?_
      refine tt_iload_n C 1 dX7_mean_37 rfl rfl ?_
      refine tt_isub C dX7_mean_38 ?_
      refine tt_i2l C dX7_mean_39 ?_
      refine tt_lmul C dX7_mean_40 ?_
      refine tt_ldc2 (v := (10 : Int64)) C kL_RX7_260 dX7_mean_41 ?_
      refine tt_iload_n C 2 dX7_mean_44 rfl rfl ?_
      refine tt_bl (fun v7 m6 h6 => ?_)
      refine tt_callS (st := []) (As := [.long (((m5 24 16).toInt64) * (((10 : Int32) - x1).toInt64)), .long (10 : Int64), .int x2]) C (kX7_partOfFraction C.2.2.2.2.2.2.2.1 h6) mi_X7_partOfFraction ml_RX7_262 mt_X7_partOfFraction rfl (by decide) (by decide) (Nat.le_of_ble_eq_true rfl) dX7_mean_45 ?_
      exact tt_lret rfl C hr dX7_mean_48
theorem kX7_mean {l : Launch} {A : Nat → Prop} {D : va_G} {ad : Nat → Nat} {cA : Nat → ClassId} (hPk : Pk A dsX ad cA (EX A ad)) {x1 : Int32} {x2 : Int32} {μ : Mem} {v : Int64} {ν : Mem} (h : fX7_mean x1 x2 μ = some (v, ν)) : Ct l A dsX D ad cA (EX A ad) yX7_mean cX7_mean 3 (some .long) 5 [.ref (ad 0), .int x1, .int x2] μ (enL (v, ν)) :=
  ct_of (by decide) (Nat.le_of_ble_eq_true rfl) hPk rfl (fun p e s m args below meth c C hr => wX7_mean C hr x1 x2 μ) h

/-! BasketRound.order(II)I -/
def fX7_order_J18 (μ : Mem) : Option (Int32 × Mem) := some ((-1 : Int32), μ)
set_option maxHeartbeats 4000000 in
set_option maxRecDepth 100000 in
theorem wX7_order_J18 {p : Program} {l : Launch} {e : Env} {s : State} {m : MethodId} {args : Array Value} {below : List Frame} {meth : Method} {c : Code} {A : Nat → Prop} {D : va_G} {ad : Nat → Nat} {cA : Nat → ClassId} (C : Cx p s m args meth c cX7_order RX7 3 A dsX D ad cA (EX A ad)) (hr : meth.sig.returnType = some .int) (μ : Mem) : T p l e (rmD 2) s m args below meth c 3 A dsX D ad cA enI (fX7_order_J18 μ) 18 [] [] μ := by
  unfold fX7_order_J18
  refine tt_iconst (v := (-1 : Int32)) C dX7_order_18 (by decide) ?_
  exact tt_iret rfl C hr dX7_order_19

def fX7_order (x1 : Int32) (x2 : Int32) (μ : Mem) : Option (Int32 × Mem) := bi (fX7_isOrder x1 μ) fun v2 m1 => if v2 = (0 : Int32) then (fX7_order_J18 m1) else (bi (fX7_within x2 (0 : Int32) (6 : Int32) m1) fun v4 m3 => if v4 = (0 : Int32) then (fX7_order_J18 m3) else (if (5 : Int32) ≤ x2 then (if x2 = (5 : Int32) then (bi (fX7_placeOf 6 (m3 3 5) x1 m3) fun v8 m7 => some (v8, m7)) else (bi (fX7_placeOf 7 (m3 3 5) x1 m3) fun v6 m5 => some (v6, m5))) else (bi (fX4_ofOrder 3 x1 x2 m3) fun v10 m9 => some (v10, m9))))
set_option maxHeartbeats 4000000 in
set_option maxRecDepth 100000 in
theorem wX7_order {p : Program} {l : Launch} {e : Env} {s : State} {m : MethodId} {args : Array Value} {below : List Frame} {meth : Method} {c : Code} {A : Nat → Prop} {D : va_G} {ad : Nat → Nat} {cA : Nat → ClassId} (C : Cx p s m args meth c cX7_order RX7 3 A dsX D ad cA (EX A ad)) (hr : meth.sig.returnType = some .int) (x1 : Int32) (x2 : Int32) (μ : Mem) : T p l e (rmD 2) s m args below meth c 3 A dsX D ad cA enI (fX7_order x1 x2 μ) 0 [(0, .ref (ad 0)), (1, .int x1), (2, .int x2)] [] μ := by
  unfold fX7_order
  refine tt_aload_n C 0 dX7_order_0 rfl rfl ?_
  refine tt_iload_n C 1 dX7_order_1 rfl rfl ?_
  refine tt_bi (fun v2 m1 h1 => ?_)
  refine tt_callV (st := []) (As := [.int x1]) C (kX7_isOrder C.2.2.2.2.2.2.2.1 h1) mi_X7_isOrder ml_RX7_137 mv_X7_isOrder ms_X7_isOrder (q := (RX7, TX7, 11)) dX_0 rfl rfl (by decide) (by decide) (Nat.le_of_ble_eq_true rfl) dX7_order_2 ?_
  refine tt_if (fun h2 => ?_) (fun h2 => ?_)
  · refine tt_if_eqT (tgt := 18) C h2 dX7_order_5 (by decide) ?_
    refine tt_sub [] (L2 := []) rfl ?_
    exact wX7_order_J18 C hr m1
  · refine tt_if_eqF C 18 h2 dX7_order_5 (by decide) ?_
    refine tt_iload_n C 2 dX7_order_8 rfl rfl ?_
    refine tt_iconst (v := (0 : Int32)) C dX7_order_9 (by decide) ?_
    refine tt_bipush (v := (6 : Int32)) C dX7_order_10 (by decide) ?_
    refine tt_bi (fun v4 m3 h3 => ?_)
    refine tt_callS (st := []) (As := [.int x2, .int (0 : Int32), .int (6 : Int32)]) C (kX7_within C.2.2.2.2.2.2.2.1 h3) mi_X7_within ml_RX7_70 mt_X7_within rfl (by decide) (by decide) (Nat.le_of_ble_eq_true rfl) dX7_order_12 ?_
    refine tt_if (fun h4 => ?_) (fun h4 => ?_)
    · refine tt_if_neF C 20 h4 dX7_order_15 (by decide) ?_
      refine tt_sub [] (L2 := []) rfl ?_
      exact wX7_order_J18 C hr m3
    · refine tt_if_neT (tgt := 20) C h4 dX7_order_15 (by decide) ?_
      refine tt_iload_n C 2 dX7_order_20 rfl rfl ?_
      refine tt_iconst (v := (5 : Int32)) C dX7_order_21 (by decide) ?_
      refine tt_if (fun h5 => ?_) (fun h5 => ?_)
      · refine tt_icmp_geT (tgt := 35) C h5 dX7_order_22 (by decide) ?_
        refine tt_iload_n C 2 dX7_order_35 rfl rfl ?_
        refine tt_iconst (v := (5 : Int32)) C dX7_order_36 (by decide) ?_
        refine tt_if (fun h6 => ?_) (fun h6 => ?_)
        · refine tt_icmp_neF C 50 h6 dX7_order_37 (by decide) ?_
          refine tt_aload_n C 0 dX7_order_40 rfl rfl ?_
          refine tt_getR C (j := 1) (r0 := 3) dX_0 rfl fl_RX7_19 dX7_order_41 ?_
          refine tt_getR C (j := 2) (r0 := 6) dX_3 rfl fl_RX7_118 dX7_order_44 ?_
          refine tt_goto (tgt := 57) C dX7_order_47 (by decide) ?_
          refine tt_aload_n C 0 dX7_order_57 rfl rfl ?_
          refine tt_getR C (j := 1) (r0 := 3) dX_0 rfl fl_RX7_19 dX7_order_58 ?_
          refine tt_getI C (j := 5) dX_3 rfl fl_RX7_109 dX7_order_61 ?_
          refine tt_iload_n C 1 dX7_order_64 rfl rfl ?_
          refine tt_bi (fun v8 m7 h8 => ?_)
          refine tt_callS (st := []) (As := [.ref (ad 6), .int (m3 3 5), .int x1]) C (kX7_placeOf C.2.2.2.2.2.2.2.1 6 dX_6 h8) mi_X7_placeOf ml_RX7_144 mt_X7_placeOf rfl (by decide) (by decide) (Nat.le_of_ble_eq_true rfl) dX7_order_65 ?_
          exact tt_iret rfl C hr dX7_order_68
        · refine tt_icmp_neT (tgt := 50) C h6 dX7_order_37 (by decide) ?_
          refine tt_aload_n C 0 dX7_order_50 rfl rfl ?_
          refine tt_getR C (j := 1) (r0 := 3) dX_0 rfl fl_RX7_19 dX7_order_51 ?_
          refine tt_getR C (j := 3) (r0 := 7) dX_3 rfl fl_RX7_126 dX7_order_54 ?_
          refine tt_aload_n C 0 dX7_order_57 rfl rfl ?_
          refine tt_getR C (j := 1) (r0 := 3) dX_0 rfl fl_RX7_19 dX7_order_58 ?_
          refine tt_getI C (j := 5) dX_3 rfl fl_RX7_109 dX7_order_61 ?_
          refine tt_iload_n C 1 dX7_order_64 rfl rfl ?_
          refine tt_bi (fun v6 m5 h7 => ?_)
          refine tt_callS (st := []) (As := [.ref (ad 7), .int (m3 3 5), .int x1]) C (kX7_placeOf C.2.2.2.2.2.2.2.1 7 dX_7 h7) mi_X7_placeOf ml_RX7_144 mt_X7_placeOf rfl (by decide) (by decide) (Nat.le_of_ble_eq_true rfl) dX7_order_65 ?_
          exact tt_iret rfl C hr dX7_order_68
      · refine tt_icmp_geF C 35 h5 dX7_order_22 (by decide) ?_
        refine tt_aload_n C 0 dX7_order_25 rfl rfl ?_
        refine tt_getR C (j := 1) (r0 := 3) dX_0 rfl fl_RX7_19 dX7_order_26 ?_
        refine tt_iload_n C 1 dX7_order_29 rfl rfl ?_
        refine tt_iload_n C 2 dX7_order_30 rfl rfl ?_
        refine tt_bi (fun v10 m9 h9 => ?_)
        refine tt_callV (st := []) (As := [.int x1, .int x2]) C (kX4_ofOrder C.2.2.2.2.2.2.2.1 3 hSh_3 h9) mi_X4_ofOrder ml_RX7_141 mv_X4_ofOrder ms_X4_ofOrder (q := (RX4, TX4, 8)) dX_3 rfl rfl (by decide) (by decide) (Nat.le_of_ble_eq_true rfl) dX7_order_31 ?_
        exact tt_iret rfl C hr dX7_order_34
theorem kX7_order {l : Launch} {A : Nat → Prop} {D : va_G} {ad : Nat → Nat} {cA : Nat → ClassId} (hPk : Pk A dsX ad cA (EX A ad)) {x1 : Int32} {x2 : Int32} {μ : Mem} {v : Int32} {ν : Mem} (h : fX7_order x1 x2 μ = some (v, ν)) : Ct l A dsX D ad cA (EX A ad) yX7_order cX7_order 3 (some .int) 2 [.ref (ad 0), .int x1, .int x2] μ (enI (v, ν)) :=
  ct_of (by decide) (Nat.le_of_ble_eq_true rfl) hPk rfl (fun p e s m args below meth c C hr => wX7_order C hr x1 x2 μ) h

/-! BasketRound.pack(II)I -/
def fX7_pack (x1 : Int32) (x2 : Int32) (μ : Mem) : Option (Int32 × Mem) := bi (fX7_exchangeOrders 6 x1 x2 μ) fun v2 m1 => some (v2, m1)
set_option maxHeartbeats 4000000 in
set_option maxRecDepth 100000 in
theorem wX7_pack {p : Program} {l : Launch} {e : Env} {s : State} {m : MethodId} {args : Array Value} {below : List Frame} {meth : Method} {c : Code} {A : Nat → Prop} {D : va_G} {ad : Nat → Nat} {cA : Nat → ClassId} (C : Cx p s m args meth c cX7_pack RX7 3 A dsX D ad cA (EX A ad)) (hr : meth.sig.returnType = some .int) (x1 : Int32) (x2 : Int32) (μ : Mem) : T p l e (rmD 3) s m args below meth c 3 A dsX D ad cA enI (fX7_pack x1 x2 μ) 0 [(0, .ref (ad 0)), (1, .int x1), (2, .int x2)] [] μ := by
  unfold fX7_pack
  refine tt_aload_n C 0 dX7_pack_0 rfl rfl ?_
  refine tt_aload_n C 0 dX7_pack_1 rfl rfl ?_
  refine tt_getR C (j := 1) (r0 := 3) dX_0 rfl fl_RX7_19 dX7_pack_2 ?_
  refine tt_getR C (j := 2) (r0 := 6) dX_3 rfl fl_RX7_118 dX7_pack_5 ?_
  refine tt_iload_n C 1 dX7_pack_8 rfl rfl ?_
  refine tt_iload_n C 2 dX7_pack_9 rfl rfl ?_
  refine tt_bi (fun v2 m1 h1 => ?_)
  refine tt_callV (st := []) (As := [.ref (ad 6), .int x1, .int x2]) C (kX7_exchangeOrders C.2.2.2.2.2.2.2.1 6 dX_6 h1) mi_X7_exchangeOrders ml_RX7_148 mv_X7_exchangeOrders ms_X7_exchangeOrders (q := (RX7, TX7, 11)) dX_0 rfl rfl (by decide) (by decide) (Nat.le_of_ble_eq_true rfl) dX7_pack_10 ?_
  exact tt_iret rfl C hr dX7_pack_13
theorem kX7_pack {l : Launch} {A : Nat → Prop} {D : va_G} {ad : Nat → Nat} {cA : Nat → ClassId} (hPk : Pk A dsX ad cA (EX A ad)) {x1 : Int32} {x2 : Int32} {μ : Mem} {v : Int32} {ν : Mem} (h : fX7_pack x1 x2 μ = some (v, ν)) : Ct l A dsX D ad cA (EX A ad) yX7_pack cX7_pack 3 (some .int) 3 [.ref (ad 0), .int x1, .int x2] μ (enI (v, ν)) :=
  ct_of (by decide) (Nat.le_of_ble_eq_true rfl) hPk rfl (fun p e s m args below meth c C hr => wX7_pack C hr x1 x2 μ) h

/-! BasketRound.packing(I)I -/
def fX7_packing (x1 : Int32) (μ : Mem) : Option (Int32 × Mem) := bi (fX7_within x1 (0 : Int32) (2 : Int32) μ) fun v2 m1 => if v2 = (0 : Int32) then (some ((-1 : Int32), m1)) else (bv (fX0_clear m1) fun m3 => bi (fX7_allBits m3) fun v5 m4 => bv (fX6_take v5 (m4 3 7) m4) fun m6 => bv (fX6_ride m6) fun m7 => bv (fX7_tryPackings m7) fun m8 => if x1 = (0 : Int32) then (some ((m8 30 1), m8)) else (if x1 = (1 : Int32) then (some ((m8 30 2), m8)) else (some ((m8 30 4), m8))))
set_option maxHeartbeats 4000000 in
set_option maxRecDepth 100000 in
theorem wX7_packing {p : Program} {l : Launch} {e : Env} {s : State} {m : MethodId} {args : Array Value} {below : List Frame} {meth : Method} {c : Code} {A : Nat → Prop} {D : va_G} {ad : Nat → Nat} {cA : Nat → ClassId} (C : Cx p s m args meth c cX7_packing RX7 2 A dsX D ad cA (EX A ad)) (hr : meth.sig.returnType = some .int) (x1 : Int32) (μ : Mem) : T p l e (rmD 4) s m args below meth c 2 A dsX D ad cA enI (fX7_packing x1 μ) 0 [(0, .ref (ad 0)), (1, .int x1)] [] μ := by
  unfold fX7_packing
  refine tt_iload_n C 1 dX7_packing_0 rfl rfl ?_
  refine tt_iconst (v := (0 : Int32)) C dX7_packing_1 (by decide) ?_
  refine tt_iconst (v := (2 : Int32)) C dX7_packing_2 (by decide) ?_
  refine tt_bi (fun v2 m1 h1 => ?_)
  refine tt_callS (st := []) (As := [.int x1, .int (0 : Int32), .int (2 : Int32)]) C (kX7_within C.2.2.2.2.2.2.2.1 h1) mi_X7_within ml_RX7_70 mt_X7_within rfl (by decide) (by decide) (Nat.le_of_ble_eq_true rfl) dX7_packing_3 ?_
  refine tt_if (fun h2 => ?_) (fun h2 => ?_)
  · refine tt_if_neF C 11 h2 dX7_packing_6 (by decide) ?_
    refine tt_iconst (v := (-1 : Int32)) C dX7_packing_9 (by decide) ?_
    exact tt_iret rfl C hr dX7_packing_10
  · refine tt_if_neT (tgt := 11) C h2 dX7_packing_6 (by decide) ?_
    refine tt_aload_n C 0 dX7_packing_11 rfl rfl ?_
    refine tt_getR C (j := 4) (r0 := 30) dX_0 rfl fl_RX7_44 dX7_packing_12 ?_
    refine tt_bv (fun m3 h3 => ?_)
    refine tt_callV (st := []) (As := []) C (kX0_clear C.2.2.2.2.2.2.2.1 h3) mi_X0_clear ml_RX7_201 mv_X0_clear ms_X0_clear (q := (RX0, TX0, 5)) dX_30 rfl rfl (by decide) (by decide) (Nat.le_of_ble_eq_true rfl) dX7_packing_15 ?_
    refine tt_aload_n C 0 dX7_packing_18 rfl rfl ?_
    refine tt_getR C (j := 3) (r0 := 24) dX_0 rfl fl_RX7_37 dX7_packing_19 ?_
    refine tt_aload_n C 0 dX7_packing_22 rfl rfl ?_
    refine tt_bi (fun v5 m4 h4 => ?_)
    refine tt_callV (st := [.ref (ad 24)]) (As := []) C (kX7_allBits C.2.2.2.2.2.2.2.1 h4) mi_X7_allBits ml_RX7_204 mv_X7_allBits ms_X7_allBits (q := (RX7, TX7, 11)) dX_0 rfl rfl (by decide) (by decide) (Nat.le_of_ble_eq_true rfl) dX7_packing_23 ?_
    refine tt_aload_n C 0 dX7_packing_26 rfl rfl ?_
    refine tt_getR C (j := 1) (r0 := 3) dX_0 rfl fl_RX7_19 dX7_packing_27 ?_
    refine tt_getI C (j := 7) dX_3 rfl fl_RX7_115 dX7_packing_30 ?_
    refine tt_bv (fun m6 h5 => ?_)
    refine tt_callV (st := []) (As := [.int v5, .int (m4 3 7)]) C (kX6_take C.2.2.2.2.2.2.2.1 h5) mi_X6_take ml_RX7_208 mv_X6_take ms_X6_take (q := (RX6, TX6, 17)) dX_24 rfl rfl (by decide) (by decide) (Nat.le_of_ble_eq_true rfl) dX7_packing_33 ?_
    refine tt_aload_n C 0 dX7_packing_36 rfl rfl ?_
    refine tt_getR C (j := 3) (r0 := 24) dX_0 rfl fl_RX7_37 dX7_packing_37 ?_
    refine tt_bv (fun m7 h6 => ?_)
    refine tt_callV (st := []) (As := []) C (kX6_ride C.2.2.2.2.2.2.2.1 h6) mi_X6_ride ml_RX7_212 mv_X6_ride ms_X6_ride (q := (RX6, TX6, 17)) dX_24 rfl rfl (by decide) (by decide) (Nat.le_of_ble_eq_true rfl) dX7_packing_40 ?_
    refine tt_aload_n C 0 dX7_packing_43 rfl rfl ?_
    refine tt_bv (fun m8 h7 => ?_)
    refine tt_callV (st := []) (As := []) C (kX7_tryPackings C.2.2.2.2.2.2.2.1 h7) mi_X7_tryPackings ml_RX7_215 mv_X7_tryPackings ms_X7_tryPackings (q := (RX7, TX7, 11)) dX_0 rfl rfl (by decide) (by decide) (Nat.le_of_ble_eq_true rfl) dX7_packing_44 ?_
    refine tt_iload_n C 1 dX7_packing_47 rfl rfl ?_
    refine tt_if (fun h8 => ?_) (fun h8 => ?_)
    · refine tt_look (off := 28) (tgt := 76) C dX7_packing_48 (by decide) (by rw [h8]; decide) (by decide) ?_
      refine tt_aload_n C 0 dX7_packing_76 rfl rfl ?_
      refine tt_getR C (j := 4) (r0 := 30) dX_0 rfl fl_RX7_44 dX7_packing_77 ?_
      refine tt_getI C (j := 1) dX_30 rfl fl_RX7_192 dX7_packing_80 ?_
      exact tt_iret rfl C hr dX7_packing_83
    · skip
      refine tt_if (fun h9 => ?_) (fun h9 => ?_)
      · refine tt_look (off := 36) (tgt := 84) C dX7_packing_48 (by decide) (by rw [h9]; decide) (by decide) ?_
        refine tt_aload_n C 0 dX7_packing_84 rfl rfl ?_
        refine tt_getR C (j := 4) (r0 := 30) dX_0 rfl fl_RX7_44 dX7_packing_85 ?_
        refine tt_getI C (j := 2) dX_30 rfl fl_RX7_195 dX7_packing_88 ?_
        exact tt_iret rfl C hr dX7_packing_91
      · skip
        refine tt_look (off := 44) (tgt := 92) C dX7_packing_48 (by decide) (by show Op.lookupswitch.offset [(0, 28), (1, 36)] 44 _ = _; rw [lv_osw h8 (show (0 : Int32).toInt = 0 by decide), lv_osw h9 (show (1 : Int32).toInt = 1 by decide)]; rfl) (by decide) ?_
        refine tt_aload_n C 0 dX7_packing_92 rfl rfl ?_
        refine tt_getR C (j := 4) (r0 := 30) dX_0 rfl fl_RX7_44 dX7_packing_93 ?_
        refine tt_getI C (j := 4) dX_30 rfl fl_RX7_198 dX7_packing_96 ?_
        exact tt_iret rfl C hr dX7_packing_99
theorem kX7_packing {l : Launch} {A : Nat → Prop} {D : va_G} {ad : Nat → Nat} {cA : Nat → ClassId} (hPk : Pk A dsX ad cA (EX A ad)) {x1 : Int32} {μ : Mem} {v : Int32} {ν : Mem} (h : fX7_packing x1 μ = some (v, ν)) : Ct l A dsX D ad cA (EX A ad) yX7_packing cX7_packing 2 (some .int) 4 [.ref (ad 0), .int x1] μ (enI (v, ν)) :=
  ct_of (by decide) (Nat.le_of_ble_eq_true rfl) hPk rfl (fun p e s m args below meth c C hr => wX7_packing C hr x1 μ) h

/-! BasketRound.pennies()I -/
def fX7_pennies (μ : Mem) : Option (Int32 × Mem) := bv (fX7_goRound μ) fun m1 => some ((m1 24 16), m1)
set_option maxHeartbeats 4000000 in
set_option maxRecDepth 100000 in
theorem wX7_pennies {p : Program} {l : Launch} {e : Env} {s : State} {m : MethodId} {args : Array Value} {below : List Frame} {meth : Method} {c : Code} {A : Nat → Prop} {D : va_G} {ad : Nat → Nat} {cA : Nat → ClassId} (C : Cx p s m args meth c cX7_pennies RX7 1 A dsX D ad cA (EX A ad)) (hr : meth.sig.returnType = some .int) (μ : Mem) : T p l e (rmD 5) s m args below meth c 1 A dsX D ad cA enI (fX7_pennies μ) 0 [(0, .ref (ad 0))] [] μ := by
  unfold fX7_pennies
  refine tt_aload_n C 0 dX7_pennies_0 rfl rfl ?_
  refine tt_bv (fun m1 h1 => ?_)
  refine tt_callV (st := []) (As := []) C (kX7_goRound C.2.2.2.2.2.2.2.1 h1) mi_X7_goRound ml_RX7_162 mv_X7_goRound ms_X7_goRound (q := (RX7, TX7, 11)) dX_0 rfl rfl (by decide) (by decide) (Nat.le_of_ble_eq_true rfl) dX7_pennies_1 ?_
  refine tt_aload_n C 0 dX7_pennies_4 rfl rfl ?_
  refine tt_getR C (j := 3) (r0 := 24) dX_0 rfl fl_RX7_37 dX7_pennies_5 ?_
  refine tt_getI C (j := 16) dX_24 rfl fl_RX7_177 dX7_pennies_8 ?_
  exact tt_iret rfl C hr dX7_pennies_11
theorem kX7_pennies {l : Launch} {A : Nat → Prop} {D : va_G} {ad : Nat → Nat} {cA : Nat → ClassId} (hPk : Pk A dsX ad cA (EX A ad)) {μ : Mem} {v : Int32} {ν : Mem} (h : fX7_pennies μ = some (v, ν)) : Ct l A dsX D ad cA (EX A ad) yX7_pennies cX7_pennies 1 (some .int) 5 [.ref (ad 0)] μ (enI (v, ν)) :=
  ct_of (by decide) (Nat.le_of_ble_eq_true rfl) hPk rfl (fun p e s m args below meth c C hr => wX7_pennies C hr μ) h

/-! BasketRound.read(IIII)I -/
def fX7_read_L133 : Nat → Int32 → Int32 → Int32 → Int32 → Int32 → Mem → Option (Int32 × Mem)
  | 0, _, _, _, _, _, _ => none
  | fu + 1, x1, x3, x5, x6, x7, μ => if x6 ≤ x7 then (lb (wr μ 0 10 x5) fun m1 => some (x6, m1)) else (bi (fX3_cell x1 (x3 + ((2 : Int32) * x7)) μ) fun v3 m2 => bi (fX3_cell x1 ((x3 + ((2 : Int32) * x7)) + (1 : Int32)) m2) fun v5 m4 => bi (fX7_exchangeOrders 7 v3 v5 m4) fun v7 m6 => lb (x7 + (1 : Int32)) fun (y8 : Int32) => fX7_read_L133 fu x1 x3 x5 x6 y8 m6)
set_option maxHeartbeats 4000000 in
set_option maxRecDepth 100000 in
theorem wX7_read_L133 {p : Program} {l : Launch} {e : Env} {s : State} {m : MethodId} {args : Array Value} {below : List Frame} {meth : Method} {c : Code} {A : Nat → Prop} {D : va_G} {ad : Nat → Nat} {cA : Nat → ClassId} (C : Cx p s m args meth c cX7_read RX7 8 A dsX D ad cA (EX A ad)) (hr : meth.sig.returnType = some .int) : ∀ (fu : Nat) (x1 : Int32) (x3 : Int32) (x5 : Int32) (x6 : Int32) (x7 : Int32) (μ : Mem), T p l e (rmD 3) s m args below meth c 8 A dsX D ad cA enI (fX7_read_L133 fu x1 x3 x5 x6 x7 μ) 133 [(0, .ref (ad 0)), (1, .int x1), (3, .int x3), (5, .int x5), (6, .int x6), (7, .int x7)] [] μ
  | 0, _, _, _, _, _, _ => tt_none
  | fu + 1, x1, x3, x5, x6, x7, μ => by
    have ih := fun (x1 : Int32) (x3 : Int32) (x5 : Int32) (x6 : Int32) (x7 : Int32) (μ : Mem) => wX7_read_L133 (l := l) (e := e) (below := below) C hr fu x1 x3 x5 x6 x7 μ
    show T p l e (rmD 3) s m args below meth c 8 A dsX D ad cA enI (if x6 ≤ x7 then (lb (wr μ 0 10 x5) fun m1 => some (x6, m1)) else (bi (fX3_cell x1 (x3 + ((2 : Int32) * x7)) μ) fun v3 m2 => bi (fX3_cell x1 ((x3 + ((2 : Int32) * x7)) + (1 : Int32)) m2) fun v5 m4 => bi (fX7_exchangeOrders 7 v3 v5 m4) fun v7 m6 => lb (x7 + (1 : Int32)) fun (y8 : Int32) => fX7_read_L133 fu x1 x3 x5 x6 y8 m6)) 133 [(0, .ref (ad 0)), (1, .int x1), (3, .int x3), (5, .int x5), (6, .int x6), (7, .int x7)] [] μ
    refine tt_iload C 5 dX7_read_133 rfl ?_
    refine tt_iload C 4 dX7_read_135 rfl ?_
    refine tt_if (fun h1 => ?_) (fun h1 => ?_)
    · refine tt_icmp_geT (tgt := 188) C h1 dX7_read_137 (by decide) ?_
      refine tt_aload_n C 0 dX7_read_188 rfl rfl ?_
      refine tt_iload C 3 dX7_read_189 rfl ?_
      refine tt_putI C (j := 10) dX_0 rfl fl_RX7_316 fw_7_10 dX7_read_191 ?_
      refine tt_lbm (fun m1 => ?_)
      refine tt_iload C 4 dX7_read_194 rfl ?_
      exact tt_iret rfl C hr dX7_read_196
    · refine tt_icmp_geF C 188 h1 dX7_read_137 (by decide) ?_
      refine tt_aload_n C 0 dX7_read_140 rfl rfl ?_
      refine tt_aload_n C 0 dX7_read_141 rfl rfl ?_
      refine tt_getR C (j := 1) (r0 := 3) dX_0 rfl fl_RX7_19 dX7_read_142 ?_
      refine tt_getR C (j := 3) (r0 := 7) dX_3 rfl fl_RX7_126 dX7_read_145 ?_
      refine tt_aload_n C 0 dX7_read_148 rfl rfl ?_
      refine tt_getR C (j := 8) (r0 := 36) dX_0 rfl fl_RX7_66 dX7_read_149 ?_
      refine tt_iload_n C 1 dX7_read_152 rfl rfl ?_
      refine tt_iload_n C 2 dX7_read_153 rfl rfl ?_
      refine tt_iconst (v := (2 : Int32)) C dX7_read_154 (by decide) ?_
      refine tt_iload C 5 dX7_read_155 rfl ?_
      refine tt_imul C dX7_read_157 ?_
      refine tt_iadd C dX7_read_158 ?_
      refine tt_bi (fun v3 m2 h2 => ?_)
      refine tt_callV (st := [.ref (ad 7), .ref (ad 0)]) (As := [.int x1, .int (x3 + ((2 : Int32) * x7))]) C (kX3_cell C.2.2.2.2.2.2.2.1 h2) mi_X3_cell ml_RX7_313 mv_X3_cell ms_X3_cell (q := (RX3, TX3, 3)) dX_36 rfl rfl (by decide) (by decide) (Nat.le_of_ble_eq_true rfl) dX7_read_159 ?_
      refine tt_aload_n C 0 dX7_read_162 rfl rfl ?_
      refine tt_getR C (j := 8) (r0 := 36) dX_0 rfl fl_RX7_66 dX7_read_163 ?_
      refine tt_iload_n C 1 dX7_read_166 rfl rfl ?_
      refine tt_iload_n C 2 dX7_read_167 rfl rfl ?_
      refine tt_iconst (v := (2 : Int32)) C dX7_read_168 (by decide) ?_
      refine tt_iload C 5 dX7_read_169 rfl ?_
      refine tt_imul C dX7_read_171 ?_
      refine tt_iadd C dX7_read_172 ?_
      refine tt_iconst (v := (1 : Int32)) C dX7_read_173 (by decide) ?_
      refine tt_iadd C dX7_read_174 ?_
      refine tt_bi (fun v5 m4 h3 => ?_)
      refine tt_callV (st := [.int v3, .ref (ad 7), .ref (ad 0)]) (As := [.int x1, .int ((x3 + ((2 : Int32) * x7)) + (1 : Int32))]) C (kX3_cell C.2.2.2.2.2.2.2.1 h3) mi_X3_cell ml_RX7_313 mv_X3_cell ms_X3_cell (q := (RX3, TX3, 3)) dX_36 rfl rfl (by decide) (by decide) (Nat.le_of_ble_eq_true rfl) dX7_read_175 ?_
      refine tt_bi (fun v7 m6 h4 => ?_)
      refine tt_callV (st := []) (As := [.ref (ad 7), .int v3, .int v5]) C (kX7_exchangeOrders C.2.2.2.2.2.2.2.1 7 dX_7 h4) mi_X7_exchangeOrders ml_RX7_148 mv_X7_exchangeOrders ms_X7_exchangeOrders (q := (RX7, TX7, 11)) dX_0 rfl rfl (by decide) (by decide) (Nat.le_of_ble_eq_true rfl) dX7_read_178 ?_
      refine tt_pop C dX7_read_181 rfl ?_
      refine tt_iincB (d := (1 : Int32)) C 5 (fun y8 => [(7, .int y8), (0, .ref (ad 0)), (1, .int x1), (3, .int x3), (5, .int x5), (6, .int x6)]) dX7_read_182 rfl (by decide) (by decide) (fun _ => rfl) (fun y8 => ?_)
      refine tt_goto (tgt := 133) C dX7_read_185 (by decide) ?_
      refine tt_sub [1, 2, 3, 4, 5, 0] (L2 := [(0, .ref (ad 0)), (1, .int x1), (3, .int x3), (5, .int x5), (6, .int x6), (7, .int y8)]) rfl ?_
      exact ih x1 x3 x5 x6 y8 m6

def fX7_read_J130 (x1 : Int32) (x3 : Int32) (x5 : Int32) (x6 : Int32) (μ : Mem) : Option (Int32 × Mem) := lb (0 : Int32) fun (y1 : Int32) => fX7_read_L133 FU x1 x3 x5 x6 y1 μ
set_option maxHeartbeats 4000000 in
set_option maxRecDepth 100000 in
theorem wX7_read_J130 {p : Program} {l : Launch} {e : Env} {s : State} {m : MethodId} {args : Array Value} {below : List Frame} {meth : Method} {c : Code} {A : Nat → Prop} {D : va_G} {ad : Nat → Nat} {cA : Nat → ClassId} (C : Cx p s m args meth c cX7_read RX7 8 A dsX D ad cA (EX A ad)) (hr : meth.sig.returnType = some .int) (x1 : Int32) (x3 : Int32) (x5 : Int32) (x6 : Int32) (μ : Mem) : T p l e (rmD 3) s m args below meth c 8 A dsX D ad cA enI (fX7_read_J130 x1 x3 x5 x6 μ) 130 [(0, .ref (ad 0)), (1, .int x1), (3, .int x3), (5, .int x5), (6, .int x6)] [] μ := by
  unfold fX7_read_J130
  refine tt_iconst (v := (0 : Int32)) C dX7_read_130 (by decide) ?_
  refine tt_lbi (fun y1 => ?_)
  refine tt_istore (L2 := [(7, .int y1), (0, .ref (ad 0)), (1, .int x1), (3, .int x3), (5, .int x5), (6, .int x6)]) C dX7_read_131 (by decide) rfl ?_
  refine tt_sub [1, 2, 3, 4, 5, 0] (L2 := [(0, .ref (ad 0)), (1, .int x1), (3, .int x3), (5, .int x5), (6, .int x6), (7, .int y1)]) rfl ?_
  exact wX7_read_L133 C hr FU x1 x3 x5 x6 y1 μ

def fX7_read_J124 (k40 : Int32 → Int32 → Int32 → Int32 → Int32 → Int32 → Int32 → Mem → Option (Int32 × Mem)) (x1 : Int32) (x2 : Int32) (x3 : Int32) (x4 : Int32) (x5 : Int32) (x6 : Int32) (x7 : Int32) (μ : Mem) : Option (Int32 × Mem) := lb (x7 + (1 : Int32)) fun (y1 : Int32) => k40 x1 x2 x3 x4 x5 x6 y1 μ
set_option maxHeartbeats 4000000 in
set_option maxRecDepth 100000 in
theorem wX7_read_J124 {p : Program} {l : Launch} {e : Env} {s : State} {m : MethodId} {args : Array Value} {below : List Frame} {meth : Method} {c : Code} {A : Nat → Prop} {D : va_G} {ad : Nat → Nat} {cA : Nat → ClassId} (C : Cx p s m args meth c cX7_read RX7 8 A dsX D ad cA (EX A ad)) (hr : meth.sig.returnType = some .int) (k40 : Int32 → Int32 → Int32 → Int32 → Int32 → Int32 → Int32 → Mem → Option (Int32 × Mem)) (hk40 : ∀ (x1 : Int32) (x2 : Int32) (x3 : Int32) (x4 : Int32) (x5 : Int32) (x6 : Int32) (x7 : Int32) (μ : Mem), T p l e (rmD 3) s m args below meth c 8 A dsX D ad cA enI (k40 x1 x2 x3 x4 x5 x6 x7 μ) 40 [(0, .ref (ad 0)), (1, .int x1), (2, .int x2), (3, .int x3), (4, .int x4), (5, .int x5), (6, .int x6), (7, .int x7)] [] μ) (x1 : Int32) (x2 : Int32) (x3 : Int32) (x4 : Int32) (x5 : Int32) (x6 : Int32) (x7 : Int32) (μ : Mem) : T p l e (rmD 3) s m args below meth c 8 A dsX D ad cA enI (fX7_read_J124 k40 x1 x2 x3 x4 x5 x6 x7 μ) 124 [(0, .ref (ad 0)), (1, .int x1), (2, .int x2), (3, .int x3), (4, .int x4), (5, .int x5), (6, .int x6), (7, .int x7)] [] μ := by
  unfold fX7_read_J124
  refine tt_iincB (d := (1 : Int32)) C 7 (fun y1 => [(7, .int y1), (0, .ref (ad 0)), (1, .int x1), (2, .int x2), (3, .int x3), (4, .int x4), (5, .int x5), (6, .int x6)]) dX7_read_124 rfl (by decide) (by decide) (fun _ => rfl) (fun y1 => ?_)
  refine tt_goto (tgt := 40) C dX7_read_127 (by decide) ?_
  refine tt_sub [1, 2, 3, 4, 5, 6, 7, 0] (L2 := [(0, .ref (ad 0)), (1, .int x1), (2, .int x2), (3, .int x3), (4, .int x4), (5, .int x5), (6, .int x6), (7, .int y1)]) rfl ?_
  exact hk40 x1 x2 x3 x4 x5 x6 y1 μ

def fX7_read_J115 (x7 : Int32) (μ : Mem) : Option (Int32 × Mem) := some (((-20 : Int32) - x7), μ)
set_option maxHeartbeats 4000000 in
set_option maxRecDepth 100000 in
theorem wX7_read_J115 {p : Program} {l : Launch} {e : Env} {s : State} {m : MethodId} {args : Array Value} {below : List Frame} {meth : Method} {c : Code} {A : Nat → Prop} {D : va_G} {ad : Nat → Nat} {cA : Nat → ClassId} (C : Cx p s m args meth c cX7_read RX7 8 A dsX D ad cA (EX A ad)) (hr : meth.sig.returnType = some .int) (x7 : Int32) (μ : Mem) : T p l e (rmD 3) s m args below meth c 8 A dsX D ad cA enI (fX7_read_J115 x7 μ) 115 [(7, .int x7)] [] μ := by
  unfold fX7_read_J115
  refine tt_bipush (v := (-20 : Int32)) C dX7_read_115 (by decide) ?_
  refine tt_iload C 0 dX7_read_117 rfl ?_
  refine tt_isub C dX7_read_119 ?_
  exact tt_iret rfl C hr dX7_read_120

def fX7_read_L40 : Nat → Int32 → Int32 → Int32 → Int32 → Int32 → Int32 → Int32 → Mem → Option (Int32 × Mem)
  | 0, _, _, _, _, _, _, _, _ => none
  | fu + 1, x1, x2, x3, x4, x5, x6, x7, μ => if x4 ≤ x7 then (fX7_read_J130 x1 x3 x5 x6 μ) else (if x5 = (0 : Int32) then (bi (fX3_faultOfPair x1 x2 x3 x7 μ) fun v2 m1 => if v2 = (0 : Int32) then (bi (fX3_cell x1 (x3 + ((2 : Int32) * x7)) m1) fun v4 m3 => bi (fX7_isOrder v4 m3) fun v6 m5 => if v6 = (0 : Int32) then (fX7_read_J115 x7 m5) else (bi (fX3_cell x1 ((x3 + ((2 : Int32) * x7)) + (1 : Int32)) m5) fun v8 m7 => bi (fX7_isOrder v8 m7) fun v10 m9 => if v10 = (0 : Int32) then (fX7_read_J115 x7 m9) else (lb (x6 + (1 : Int32)) fun (y11 : Int32) => fX7_read_J124 (fun x1 x2 x3 x4 x5 x6 x7 μ => fX7_read_L40 fu x1 x2 x3 x4 x5 x6 x7 μ) x1 x2 x3 x4 v2 y11 x7 m9))) else (fX7_read_J124 (fun x1 x2 x3 x4 x5 x6 x7 μ => fX7_read_L40 fu x1 x2 x3 x4 x5 x6 x7 μ) x1 x2 x3 x4 v2 x6 x7 m1)) else (fX7_read_J130 x1 x3 x5 x6 μ))
set_option maxHeartbeats 4000000 in
set_option maxRecDepth 100000 in
theorem wX7_read_L40 {p : Program} {l : Launch} {e : Env} {s : State} {m : MethodId} {args : Array Value} {below : List Frame} {meth : Method} {c : Code} {A : Nat → Prop} {D : va_G} {ad : Nat → Nat} {cA : Nat → ClassId} (C : Cx p s m args meth c cX7_read RX7 8 A dsX D ad cA (EX A ad)) (hr : meth.sig.returnType = some .int) : ∀ (fu : Nat) (x1 : Int32) (x2 : Int32) (x3 : Int32) (x4 : Int32) (x5 : Int32) (x6 : Int32) (x7 : Int32) (μ : Mem), T p l e (rmD 3) s m args below meth c 8 A dsX D ad cA enI (fX7_read_L40 fu x1 x2 x3 x4 x5 x6 x7 μ) 40 [(0, .ref (ad 0)), (1, .int x1), (2, .int x2), (3, .int x3), (4, .int x4), (5, .int x5), (6, .int x6), (7, .int x7)] [] μ
  | 0, _, _, _, _, _, _, _, _ => tt_none
  | fu + 1, x1, x2, x3, x4, x5, x6, x7, μ => by
    have ih := fun (x1 : Int32) (x2 : Int32) (x3 : Int32) (x4 : Int32) (x5 : Int32) (x6 : Int32) (x7 : Int32) (μ : Mem) => wX7_read_L40 (l := l) (e := e) (below := below) C hr fu x1 x2 x3 x4 x5 x6 x7 μ
    show T p l e (rmD 3) s m args below meth c 8 A dsX D ad cA enI (if x4 ≤ x7 then (fX7_read_J130 x1 x3 x5 x6 μ) else (if x5 = (0 : Int32) then (bi (fX3_faultOfPair x1 x2 x3 x7 μ) fun v2 m1 => if v2 = (0 : Int32) then (bi (fX3_cell x1 (x3 + ((2 : Int32) * x7)) m1) fun v4 m3 => bi (fX7_isOrder v4 m3) fun v6 m5 => if v6 = (0 : Int32) then (fX7_read_J115 x7 m5) else (bi (fX3_cell x1 ((x3 + ((2 : Int32) * x7)) + (1 : Int32)) m5) fun v8 m7 => bi (fX7_isOrder v8 m7) fun v10 m9 => if v10 = (0 : Int32) then (fX7_read_J115 x7 m9) else (lb (x6 + (1 : Int32)) fun (y11 : Int32) => fX7_read_J124 (fun x1 x2 x3 x4 x5 x6 x7 μ => fX7_read_L40 fu x1 x2 x3 x4 x5 x6 x7 μ) x1 x2 x3 x4 v2 y11 x7 m9))) else (fX7_read_J124 (fun x1 x2 x3 x4 x5 x6 x7 μ => fX7_read_L40 fu x1 x2 x3 x4 x5 x6 x7 μ) x1 x2 x3 x4 v2 x6 x7 m1)) else (fX7_read_J130 x1 x3 x5 x6 μ))) 40 [(0, .ref (ad 0)), (1, .int x1), (2, .int x2), (3, .int x3), (4, .int x4), (5, .int x5), (6, .int x6), (7, .int x7)] [] μ
    refine tt_iload C 7 dX7_read_40 rfl ?_
    refine tt_iload C 4 dX7_read_42 rfl ?_
    refine tt_if (fun h1 => ?_) (fun h1 => ?_)
    · refine tt_icmp_geT (tgt := 130) C h1 dX7_read_44 (by decide) ?_
      refine tt_sub [0, 1, 3, 5, 6] (L2 := [(0, .ref (ad 0)), (1, .int x1), (3, .int x3), (5, .int x5), (6, .int x6)]) rfl ?_
      exact wX7_read_J130 C hr x1 x3 x5 x6 μ
    · refine tt_icmp_geF C 130 h1 dX7_read_44 (by decide) ?_
      refine tt_iload C 5 dX7_read_47 rfl ?_
      refine tt_if (fun h2 => ?_) (fun h2 => ?_)
      · refine tt_if_neF C 130 h2 dX7_read_49 (by decide) ?_
        refine tt_aload_n C 0 dX7_read_52 rfl rfl ?_
        refine tt_getR C (j := 8) (r0 := 36) dX_0 rfl fl_RX7_66 dX7_read_53 ?_
        refine tt_iload_n C 1 dX7_read_56 rfl rfl ?_
        refine tt_iload_n C 2 dX7_read_57 rfl rfl ?_
        refine tt_iload_n C 3 dX7_read_58 rfl rfl ?_
        refine tt_iload C 7 dX7_read_59 rfl ?_
        refine tt_bi (fun v2 m1 h3 => ?_)
        refine tt_callV (st := []) (As := [.int x1, .int x2, .int x3, .int x7]) C (kX3_faultOfPair C.2.2.2.2.2.2.2.1 h3) mi_X3_faultOfPair ml_RX7_309 mv_X3_faultOfPair ms_X3_faultOfPair (q := (RX3, TX3, 3)) dX_36 rfl rfl (by decide) (by decide) (Nat.le_of_ble_eq_true rfl) dX7_read_61 ?_
        refine tt_istore (L2 := [(5, .int v2), (0, .ref (ad 0)), (1, .int x1), (2, .int x2), (3, .int x3), (4, .int x4), (6, .int x6), (7, .int x7)]) C dX7_read_64 (by decide) rfl ?_
        refine tt_iload C 0 dX7_read_66 rfl ?_
        refine tt_if (fun h4 => ?_) (fun h4 => ?_)
        · refine tt_if_neF C 124 h4 dX7_read_68 (by decide) ?_
          refine tt_aload_n C 1 dX7_read_71 rfl rfl ?_
          refine tt_aload_n C 1 dX7_read_72 rfl rfl ?_
          refine tt_getR C (j := 8) (r0 := 36) dX_0 rfl fl_RX7_66 dX7_read_73 ?_
          refine tt_iload_n C 2 dX7_read_76 rfl rfl ?_
          refine tt_iload_n C 4 dX7_read_77 rfl rfl ?_
          refine tt_iconst (v := (2 : Int32)) C dX7_read_78 (by decide) ?_
          refine tt_iload C 7 dX7_read_79 rfl ?_
          refine tt_imul C dX7_read_81 ?_
          refine tt_iadd C dX7_read_82 ?_
          refine tt_bi (fun v4 m3 h5 => ?_)
          refine tt_callV (st := [.ref (ad 0)]) (As := [.int x1, .int (x3 + ((2 : Int32) * x7))]) C (kX3_cell C.2.2.2.2.2.2.2.1 h5) mi_X3_cell ml_RX7_313 mv_X3_cell ms_X3_cell (q := (RX3, TX3, 3)) dX_36 rfl rfl (by decide) (by decide) (Nat.le_of_ble_eq_true rfl) dX7_read_83 ?_
          refine tt_bi (fun v6 m5 h6 => ?_)
          refine tt_callV (st := []) (As := [.int v4]) C (kX7_isOrder C.2.2.2.2.2.2.2.1 h6) mi_X7_isOrder ml_RX7_137 mv_X7_isOrder ms_X7_isOrder (q := (RX7, TX7, 11)) dX_0 rfl rfl (by decide) (by decide) (Nat.le_of_ble_eq_true rfl) dX7_read_86 ?_
          refine tt_if (fun h7 => ?_) (fun h7 => ?_)
          · refine tt_if_eqT (tgt := 115) C h7 dX7_read_89 (by decide) ?_
            refine tt_sub [7] (L2 := [(7, .int x7)]) rfl ?_
            exact wX7_read_J115 C hr x7 m5
          · refine tt_if_eqF C 115 h7 dX7_read_89 (by decide) ?_
            refine tt_aload_n C 1 dX7_read_92 rfl rfl ?_
            refine tt_aload_n C 1 dX7_read_93 rfl rfl ?_
            refine tt_getR C (j := 8) (r0 := 36) dX_0 rfl fl_RX7_66 dX7_read_94 ?_
            refine tt_iload_n C 2 dX7_read_97 rfl rfl ?_
            refine tt_iload_n C 4 dX7_read_98 rfl rfl ?_
            refine tt_iconst (v := (2 : Int32)) C dX7_read_99 (by decide) ?_
            refine tt_iload C 7 dX7_read_100 rfl ?_
            refine tt_imul C dX7_read_102 ?_
            refine tt_iadd C dX7_read_103 ?_
            refine tt_iconst (v := (1 : Int32)) C dX7_read_104 (by decide) ?_
            refine tt_iadd C dX7_read_105 ?_
            refine tt_bi (fun v8 m7 h8 => ?_)
            refine tt_callV (st := [.ref (ad 0)]) (As := [.int x1, .int ((x3 + ((2 : Int32) * x7)) + (1 : Int32))]) C (kX3_cell C.2.2.2.2.2.2.2.1 h8) mi_X3_cell ml_RX7_313 mv_X3_cell ms_X3_cell (q := (RX3, TX3, 3)) dX_36 rfl rfl (by decide) (by decide) (Nat.le_of_ble_eq_true rfl) dX7_read_106 ?_
            refine tt_bi (fun v10 m9 h9 => ?_)
            refine tt_callV (st := []) (As := [.int v8]) C (kX7_isOrder C.2.2.2.2.2.2.2.1 h9) mi_X7_isOrder ml_RX7_137 mv_X7_isOrder ms_X7_isOrder (q := (RX7, TX7, 11)) dX_0 rfl rfl (by decide) (by decide) (Nat.le_of_ble_eq_true rfl) dX7_read_109 ?_
            refine tt_if (fun h10 => ?_) (fun h10 => ?_)
            · refine tt_if_neF C 121 h10 dX7_read_112 (by decide) ?_
              refine tt_sub [7] (L2 := [(7, .int x7)]) rfl ?_
              exact wX7_read_J115 C hr x7 m9
            · refine tt_if_neT (tgt := 121) C h10 dX7_read_112 (by decide) ?_
              refine tt_iincB (d := (1 : Int32)) C 6 (fun y11 => [(6, .int y11), (5, .int v2), (0, .ref (ad 0)), (1, .int x1), (2, .int x2), (3, .int x3), (4, .int x4), (7, .int x7)]) dX7_read_121 rfl (by decide) (by decide) (fun _ => rfl) (fun y11 => ?_)
              refine tt_sub [2, 3, 4, 5, 6, 1, 0, 7] (L2 := [(0, .ref (ad 0)), (1, .int x1), (2, .int x2), (3, .int x3), (4, .int x4), (5, .int v2), (6, .int y11), (7, .int x7)]) rfl ?_
              exact wX7_read_J124 C hr (fun x1 x2 x3 x4 x5 x6 x7 μ => fX7_read_L40 fu x1 x2 x3 x4 x5 x6 x7 μ) (fun x1 x2 x3 x4 x5 x6 x7 μ => ih x1 x2 x3 x4 x5 x6 x7 μ) x1 x2 x3 x4 v2 y11 x7 m9
        · refine tt_if_neT (tgt := 124) C h4 dX7_read_68 (by decide) ?_
          refine tt_sub [1, 2, 3, 4, 5, 0, 6, 7] (L2 := [(0, .ref (ad 0)), (1, .int x1), (2, .int x2), (3, .int x3), (4, .int x4), (5, .int v2), (6, .int x6), (7, .int x7)]) rfl ?_
          exact wX7_read_J124 C hr (fun x1 x2 x3 x4 x5 x6 x7 μ => fX7_read_L40 fu x1 x2 x3 x4 x5 x6 x7 μ) (fun x1 x2 x3 x4 x5 x6 x7 μ => ih x1 x2 x3 x4 x5 x6 x7 μ) x1 x2 x3 x4 v2 x6 x7 m1
      · refine tt_if_neT (tgt := 130) C h2 dX7_read_49 (by decide) ?_
        refine tt_sub [0, 1, 3, 5, 6] (L2 := [(0, .ref (ad 0)), (1, .int x1), (3, .int x3), (5, .int x5), (6, .int x6)]) rfl ?_
        exact wX7_read_J130 C hr x1 x3 x5 x6 μ

def fX7_read_J29 (μ : Mem) : Option (Int32 × Mem) := some ((-1 : Int32), μ)
set_option maxHeartbeats 4000000 in
set_option maxRecDepth 100000 in
theorem wX7_read_J29 {p : Program} {l : Launch} {e : Env} {s : State} {m : MethodId} {args : Array Value} {below : List Frame} {meth : Method} {c : Code} {A : Nat → Prop} {D : va_G} {ad : Nat → Nat} {cA : Nat → ClassId} (C : Cx p s m args meth c cX7_read RX7 8 A dsX D ad cA (EX A ad)) (hr : meth.sig.returnType = some .int) (μ : Mem) : T p l e (rmD 3) s m args below meth c 8 A dsX D ad cA enI (fX7_read_J29 μ) 29 [] [] μ := by
  unfold fX7_read_J29
  refine tt_iconst (v := (-1 : Int32)) C dX7_read_29 (by decide) ?_
  exact tt_iret rfl C hr dX7_read_30

def fX7_read (x1 : Int32) (x2 : Int32) (x3 : Int32) (x4 : Int32) (μ : Mem) : Option (Int32 × Mem) := bi (fX7_within x1 (0 : Int32) (3 : Int32) μ) fun v2 m1 => if v2 = (0 : Int32) then (fX7_read_J29 m1) else (bi (fX7_within x2 (0 : Int32) (2 : Int32) m1) fun v4 m3 => if v4 = (0 : Int32) then (fX7_read_J29 m3) else (bi (fX7_within x4 (0 : Int32) (20 : Int32) m3) fun v6 m5 => if v6 = (0 : Int32) then (fX7_read_J29 m5) else (lb (0 : Int32) fun (y7 : Int32) => lb (0 : Int32) fun (y8 : Int32) => lb (0 : Int32) fun (y9 : Int32) => fX7_read_L40 FU x1 x2 x3 x4 y7 y8 y9 m5)))
set_option maxHeartbeats 4000000 in
set_option maxRecDepth 100000 in
theorem wX7_read {p : Program} {l : Launch} {e : Env} {s : State} {m : MethodId} {args : Array Value} {below : List Frame} {meth : Method} {c : Code} {A : Nat → Prop} {D : va_G} {ad : Nat → Nat} {cA : Nat → ClassId} (C : Cx p s m args meth c cX7_read RX7 8 A dsX D ad cA (EX A ad)) (hr : meth.sig.returnType = some .int) (x1 : Int32) (x2 : Int32) (x3 : Int32) (x4 : Int32) (μ : Mem) : T p l e (rmD 3) s m args below meth c 8 A dsX D ad cA enI (fX7_read x1 x2 x3 x4 μ) 0 [(0, .ref (ad 0)), (1, .int x1), (2, .int x2), (3, .int x3), (4, .int x4)] [] μ := by
  unfold fX7_read
  refine tt_iload_n C 1 dX7_read_0 rfl rfl ?_
  refine tt_iconst (v := (0 : Int32)) C dX7_read_1 (by decide) ?_
  refine tt_iconst (v := (3 : Int32)) C dX7_read_2 (by decide) ?_
  refine tt_bi (fun v2 m1 h1 => ?_)
  refine tt_callS (st := []) (As := [.int x1, .int (0 : Int32), .int (3 : Int32)]) C (kX7_within C.2.2.2.2.2.2.2.1 h1) mi_X7_within ml_RX7_70 mt_X7_within rfl (by decide) (by decide) (Nat.le_of_ble_eq_true rfl) dX7_read_3 ?_
  refine tt_if (fun h2 => ?_) (fun h2 => ?_)
  · refine tt_if_eqT (tgt := 29) C h2 dX7_read_6 (by decide) ?_
    refine tt_sub [] (L2 := []) rfl ?_
    exact wX7_read_J29 C hr m1
  · refine tt_if_eqF C 29 h2 dX7_read_6 (by decide) ?_
    refine tt_iload_n C 2 dX7_read_9 rfl rfl ?_
    refine tt_iconst (v := (0 : Int32)) C dX7_read_10 (by decide) ?_
    refine tt_iconst (v := (2 : Int32)) C dX7_read_11 (by decide) ?_
    refine tt_bi (fun v4 m3 h3 => ?_)
    refine tt_callS (st := []) (As := [.int x2, .int (0 : Int32), .int (2 : Int32)]) C (kX7_within C.2.2.2.2.2.2.2.1 h3) mi_X7_within ml_RX7_70 mt_X7_within rfl (by decide) (by decide) (Nat.le_of_ble_eq_true rfl) dX7_read_12 ?_
    refine tt_if (fun h4 => ?_) (fun h4 => ?_)
    · refine tt_if_eqT (tgt := 29) C h4 dX7_read_15 (by decide) ?_
      refine tt_sub [] (L2 := []) rfl ?_
      exact wX7_read_J29 C hr m3
    · refine tt_if_eqF C 29 h4 dX7_read_15 (by decide) ?_
      refine tt_iload C 4 dX7_read_18 rfl ?_
      refine tt_iconst (v := (0 : Int32)) C dX7_read_20 (by decide) ?_
      refine tt_bipush (v := (20 : Int32)) C dX7_read_21 (by decide) ?_
      refine tt_bi (fun v6 m5 h5 => ?_)
      refine tt_callS (st := []) (As := [.int x4, .int (0 : Int32), .int (20 : Int32)]) C (kX7_within C.2.2.2.2.2.2.2.1 h5) mi_X7_within ml_RX7_70 mt_X7_within rfl (by decide) (by decide) (Nat.le_of_ble_eq_true rfl) dX7_read_23 ?_
      refine tt_if (fun h6 => ?_) (fun h6 => ?_)
      · refine tt_if_neF C 31 h6 dX7_read_26 (by decide) ?_
        refine tt_sub [] (L2 := []) rfl ?_
        exact wX7_read_J29 C hr m5
      · refine tt_if_neT (tgt := 31) C h6 dX7_read_26 (by decide) ?_
        refine tt_iconst (v := (0 : Int32)) C dX7_read_31 (by decide) ?_
        refine tt_lbi (fun y7 => ?_)
        refine tt_istore (L2 := [(5, .int y7), (0, .ref (ad 0)), (1, .int x1), (2, .int x2), (3, .int x3), (4, .int x4)]) C dX7_read_32 (by decide) rfl ?_
        refine tt_iconst (v := (0 : Int32)) C dX7_read_34 (by decide) ?_
        refine tt_lbi (fun y8 => ?_)
        refine tt_istore (L2 := [(6, .int y8), (5, .int y7), (0, .ref (ad 0)), (1, .int x1), (2, .int x2), (3, .int x3), (4, .int x4)]) C dX7_read_35 (by decide) rfl ?_
        refine tt_iconst (v := (0 : Int32)) C dX7_read_37 (by decide) ?_
        refine tt_lbi (fun y9 => ?_)
        refine tt_istore (L2 := [(7, .int y9), (6, .int y8), (5, .int y7), (0, .ref (ad 0)), (1, .int x1), (2, .int x2), (3, .int x3), (4, .int x4)]) C dX7_read_38 (by decide) rfl ?_
        refine tt_sub [3, 4, 5, 6, 7, 2, 1, 0] (L2 := [(0, .ref (ad 0)), (1, .int x1), (2, .int x2), (3, .int x3), (4, .int x4), (5, .int y7), (6, .int y8), (7, .int y9)]) rfl ?_
        exact wX7_read_L40 C hr FU x1 x2 x3 x4 y7 y8 y9 m5
theorem kX7_read {l : Launch} {A : Nat → Prop} {D : va_G} {ad : Nat → Nat} {cA : Nat → ClassId} (hPk : Pk A dsX ad cA (EX A ad)) {x1 : Int32} {x2 : Int32} {x3 : Int32} {x4 : Int32} {μ : Mem} {v : Int32} {ν : Mem} (h : fX7_read x1 x2 x3 x4 μ = some (v, ν)) : Ct l A dsX D ad cA (EX A ad) yX7_read cX7_read 8 (some .int) 3 [.ref (ad 0), .int x1, .int x2, .int x3, .int x4] μ (enI (v, ν)) :=
  ct_of (by decide) (Nat.le_of_ble_eq_true rfl) hPk rfl (fun p e s m args below meth c C hr => wX7_read C hr x1 x2 x3 x4 μ) h

/-! BasketRound.rule(I)I -/
def fX7_rule (x1 : Int32) (μ : Mem) : Option (Int32 × Mem) := if x1 = (0 : Int32) then (some ((μ 3 4), μ)) else (if x1 = (1 : Int32) then (some ((μ 3 5), μ)) else (if x1 = (2 : Int32) then (some ((μ 3 6), μ)) else (if x1 = (3 : Int32) then (some ((μ 3 7), μ)) else (if x1 = (4 : Int32) then (bi (fX7_numberOf 6 (μ 3 5) μ) fun v2 m1 => some (v2, m1)) else (if x1 = (5 : Int32) then (bi (fX7_numberOf 7 (μ 3 5) μ) fun v4 m3 => some (v4, m3)) else (if x1 = (6 : Int32) then (bi (fX4_sum 3 (2 : Int32) μ) fun v6 m5 => some (v6, m5)) else (some ((-1 : Int32), μ))))))))
set_option maxHeartbeats 4000000 in
set_option maxRecDepth 100000 in
theorem wX7_rule {p : Program} {l : Launch} {e : Env} {s : State} {m : MethodId} {args : Array Value} {below : List Frame} {meth : Method} {c : Code} {A : Nat → Prop} {D : va_G} {ad : Nat → Nat} {cA : Nat → ClassId} (C : Cx p s m args meth c cX7_rule RX7 2 A dsX D ad cA (EX A ad)) (hr : meth.sig.returnType = some .int) (x1 : Int32) (μ : Mem) : T p l e (rmD 2) s m args below meth c 2 A dsX D ad cA enI (fX7_rule x1 μ) 0 [(0, .ref (ad 0)), (1, .int x1)] [] μ := by
  unfold fX7_rule
  refine tt_iload_n C 1 dX7_rule_0 rfl rfl ?_
  refine tt_if (fun h1 => ?_) (fun h1 => ?_)
  · refine tt_tabIn (y1 := (0 : Int32)) (a := 0) (off := 43) (tgt := 44) C h1 (by decide) (by decide) (by decide) dX7_rule_1 (by decide) (by decide) ?_
    refine tt_aload_n C 0 dX7_rule_44 rfl rfl ?_
    refine tt_getR C (j := 1) (r0 := 3) dX_0 rfl fl_RX7_19 dX7_rule_45 ?_
    refine tt_getI C (j := 4) dX_3 rfl fl_RX7_106 dX7_rule_48 ?_
    exact tt_iret rfl C hr dX7_rule_51
  · skip
    refine tt_if (fun h2 => ?_) (fun h2 => ?_)
    · refine tt_tabIn (y1 := (1 : Int32)) (a := 1) (off := 51) (tgt := 52) C h2 (by decide) (by decide) (by decide) dX7_rule_1 (by decide) (by decide) ?_
      refine tt_aload_n C 0 dX7_rule_52 rfl rfl ?_
      refine tt_getR C (j := 1) (r0 := 3) dX_0 rfl fl_RX7_19 dX7_rule_53 ?_
      refine tt_getI C (j := 5) dX_3 rfl fl_RX7_109 dX7_rule_56 ?_
      exact tt_iret rfl C hr dX7_rule_59
    · skip
      refine tt_if (fun h3 => ?_) (fun h3 => ?_)
      · refine tt_tabIn (y1 := (2 : Int32)) (a := 2) (off := 59) (tgt := 60) C h3 (by decide) (by decide) (by decide) dX7_rule_1 (by decide) (by decide) ?_
        refine tt_aload_n C 0 dX7_rule_60 rfl rfl ?_
        refine tt_getR C (j := 1) (r0 := 3) dX_0 rfl fl_RX7_19 dX7_rule_61 ?_
        refine tt_getI C (j := 6) dX_3 rfl fl_RX7_112 dX7_rule_64 ?_
        exact tt_iret rfl C hr dX7_rule_67
      · skip
        refine tt_if (fun h4 => ?_) (fun h4 => ?_)
        · refine tt_tabIn (y1 := (3 : Int32)) (a := 3) (off := 67) (tgt := 68) C h4 (by decide) (by decide) (by decide) dX7_rule_1 (by decide) (by decide) ?_
          refine tt_aload_n C 0 dX7_rule_68 rfl rfl ?_
          refine tt_getR C (j := 1) (r0 := 3) dX_0 rfl fl_RX7_19 dX7_rule_69 ?_
          refine tt_getI C (j := 7) dX_3 rfl fl_RX7_115 dX7_rule_72 ?_
          exact tt_iret rfl C hr dX7_rule_75
        · skip
          refine tt_if (fun h5 => ?_) (fun h5 => ?_)
          · refine tt_tabIn (y1 := (4 : Int32)) (a := 4) (off := 75) (tgt := 76) C h5 (by decide) (by decide) (by decide) dX7_rule_1 (by decide) (by decide) ?_
            refine tt_aload_n C 0 dX7_rule_76 rfl rfl ?_
            refine tt_getR C (j := 1) (r0 := 3) dX_0 rfl fl_RX7_19 dX7_rule_77 ?_
            refine tt_getR C (j := 2) (r0 := 6) dX_3 rfl fl_RX7_118 dX7_rule_80 ?_
            refine tt_aload_n C 0 dX7_rule_83 rfl rfl ?_
            refine tt_getR C (j := 1) (r0 := 3) dX_0 rfl fl_RX7_19 dX7_rule_84 ?_
            refine tt_getI C (j := 5) dX_3 rfl fl_RX7_109 dX7_rule_87 ?_
            refine tt_bi (fun v2 m1 h6 => ?_)
            refine tt_callS (st := []) (As := [.ref (ad 6), .int (μ 3 5)]) C (kX7_numberOf C.2.2.2.2.2.2.2.1 6 dX_6 h6) mi_X7_numberOf ml_RX7_122 mt_X7_numberOf rfl (by decide) (by decide) (Nat.le_of_ble_eq_true rfl) dX7_rule_90 ?_
            exact tt_iret rfl C hr dX7_rule_93
          · skip
            refine tt_if (fun h7 => ?_) (fun h7 => ?_)
            · refine tt_tabIn (y1 := (5 : Int32)) (a := 5) (off := 93) (tgt := 94) C h7 (by decide) (by decide) (by decide) dX7_rule_1 (by decide) (by decide) ?_
              refine tt_aload_n C 0 dX7_rule_94 rfl rfl ?_
              refine tt_getR C (j := 1) (r0 := 3) dX_0 rfl fl_RX7_19 dX7_rule_95 ?_
              refine tt_getR C (j := 3) (r0 := 7) dX_3 rfl fl_RX7_126 dX7_rule_98 ?_
              refine tt_aload_n C 0 dX7_rule_101 rfl rfl ?_
              refine tt_getR C (j := 1) (r0 := 3) dX_0 rfl fl_RX7_19 dX7_rule_102 ?_
              refine tt_getI C (j := 5) dX_3 rfl fl_RX7_109 dX7_rule_105 ?_
              refine tt_bi (fun v4 m3 h8 => ?_)
              refine tt_callS (st := []) (As := [.ref (ad 7), .int (μ 3 5)]) C (kX7_numberOf C.2.2.2.2.2.2.2.1 7 dX_7 h8) mi_X7_numberOf ml_RX7_122 mt_X7_numberOf rfl (by decide) (by decide) (Nat.le_of_ble_eq_true rfl) dX7_rule_108 ?_
              exact tt_iret rfl C hr dX7_rule_111
            · skip
              refine tt_if (fun h9 => ?_) (fun h9 => ?_)
              · refine tt_tabIn (y1 := (6 : Int32)) (a := 6) (off := 111) (tgt := 112) C h9 (by decide) (by decide) (by decide) dX7_rule_1 (by decide) (by decide) ?_
                refine tt_aload_n C 0 dX7_rule_112 rfl rfl ?_
                refine tt_getR C (j := 1) (r0 := 3) dX_0 rfl fl_RX7_19 dX7_rule_113 ?_
                refine tt_iconst (v := (2 : Int32)) C dX7_rule_116 (by decide) ?_
                refine tt_bi (fun v6 m5 h10 => ?_)
                refine tt_callV (st := []) (As := [.int (2 : Int32)]) C (kX4_sum C.2.2.2.2.2.2.2.1 3 hSh_3 h10) mi_X4_sum ml_RX7_129 mv_X4_sum ms_X4_sum (q := (RX4, TX4, 8)) dX_3 rfl rfl (by decide) (by decide) (Nat.le_of_ble_eq_true rfl) dX7_rule_117 ?_
                exact tt_iret rfl C hr dX7_rule_120
              · skip
                have nh1 := lv_neT h1 (show (0 : Int32).toInt = 0 by decide)
                have nh2 := lv_neT h2 (show (1 : Int32).toInt = 1 by decide)
                have nh3 := lv_neT h3 (show (2 : Int32).toInt = 2 by decide)
                have nh4 := lv_neT h4 (show (3 : Int32).toInt = 3 by decide)
                have nh5 := lv_neT h5 (show (4 : Int32).toInt = 4 by decide)
                have nh7 := lv_neT h7 (show (5 : Int32).toInt = 5 by decide)
                have nh9 := lv_neT h9 (show (6 : Int32).toInt = 6 by decide)
                refine tt_tabOut (tgt := 121) C (by omega) dX7_rule_1 (by decide) ?_
                refine tt_iconst (v := (-1 : Int32)) C dX7_rule_121 (by decide) ?_
                exact tt_iret rfl C hr dX7_rule_122
theorem kX7_rule {l : Launch} {A : Nat → Prop} {D : va_G} {ad : Nat → Nat} {cA : Nat → ClassId} (hPk : Pk A dsX ad cA (EX A ad)) {x1 : Int32} {μ : Mem} {v : Int32} {ν : Mem} (h : fX7_rule x1 μ = some (v, ν)) : Ct l A dsX D ad cA (EX A ad) yX7_rule cX7_rule 2 (some .int) 2 [.ref (ad 0), .int x1] μ (enI (v, ν)) :=
  ct_of (by decide) (Nat.le_of_ble_eq_true rfl) hPk rfl (fun p e s m args below meth c C hr => wX7_rule C hr x1 μ) h

