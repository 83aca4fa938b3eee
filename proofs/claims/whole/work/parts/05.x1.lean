/-! BasketRound$Sheets.put(III)V -/
def fX3_put_J67 (μ : Mem) : Option (Mem) := some μ
set_option maxHeartbeats 4000000 in
set_option maxRecDepth 100000 in
theorem wX3_put_J67 {p : Program} {l : Launch} {e : Env} {s : State} {m : MethodId} {args : Array Value} {below : List Frame} {meth : Method} {c : Code} {A : Nat → Prop} {D : va_G} {ad : Nat → Nat} {cA : Nat → ClassId} (C : Cx p s m args meth c cX3_put RX3 4 A dsX D ad cA (EX A ad)) (hr : meth.sig.returnType = none) (μ : Mem) : T p l e (rmD 0) s m args below meth c 4 A dsX D ad cA enV (fX3_put_J67 μ) 67 [] [] μ := by
  unfold fX3_put_J67
  exact tt_vret rfl C hr dX3_put_67

def fX3_put (x1 : Int32) (x2 : Int32) (x3 : Int32) (μ : Mem) : Option (Mem) := gr x1 4 <| if (μ 42 x1.toNatClampNeg) = (0 : Int32) then (gr x1 4 <| if x1.toNatClampNeg = 0 then (gr x2 40 <| lb (wr μ 38 x2.toNatClampNeg x3.toInt8.toInt32) fun m1 => fX3_put_J67 m1) else (if x1.toNatClampNeg = 1 then (gr x2 40 <| lb (wr μ 39 x2.toNatClampNeg x3.toInt8.toInt32) fun m2 => fX3_put_J67 m2) else (if x1.toNatClampNeg = 2 then (gr x2 40 <| lb (wr μ 40 x2.toNatClampNeg x3.toInt8.toInt32) fun m3 => fX3_put_J67 m3) else (if x1.toNatClampNeg = 3 then (gr x2 40 <| lb (wr μ 41 x2.toNatClampNeg x3.toInt8.toInt32) fun m4 => fX3_put_J67 m4) else (none))))) else (if (μ 42 x1.toNatClampNeg) = (1 : Int32) then (gr x1 4 <| if x1.toNatClampNeg = 0 then (gr x2 40 <| lb (wr μ 38 x2.toNatClampNeg x3.toInt16.toInt32) fun m5 => fX3_put_J67 m5) else (if x1.toNatClampNeg = 1 then (gr x2 40 <| lb (wr μ 39 x2.toNatClampNeg x3.toInt16.toInt32) fun m6 => fX3_put_J67 m6) else (if x1.toNatClampNeg = 2 then (gr x2 40 <| lb (wr μ 40 x2.toNatClampNeg x3.toInt16.toInt32) fun m7 => fX3_put_J67 m7) else (if x1.toNatClampNeg = 3 then (gr x2 40 <| lb (wr μ 41 x2.toNatClampNeg x3.toInt16.toInt32) fun m8 => fX3_put_J67 m8) else (none))))) else (gr x1 4 <| if x1.toNatClampNeg = 0 then (gr x2 40 <| lb (wr μ 38 x2.toNatClampNeg x3) fun m9 => fX3_put_J67 m9) else (if x1.toNatClampNeg = 1 then (gr x2 40 <| lb (wr μ 39 x2.toNatClampNeg x3) fun m10 => fX3_put_J67 m10) else (if x1.toNatClampNeg = 2 then (gr x2 40 <| lb (wr μ 40 x2.toNatClampNeg x3) fun m11 => fX3_put_J67 m11) else (if x1.toNatClampNeg = 3 then (gr x2 40 <| lb (wr μ 41 x2.toNatClampNeg x3) fun m12 => fX3_put_J67 m12) else (none))))))
set_option maxHeartbeats 4000000 in
set_option maxRecDepth 100000 in
theorem wX3_put {p : Program} {l : Launch} {e : Env} {s : State} {m : MethodId} {args : Array Value} {below : List Frame} {meth : Method} {c : Code} {A : Nat → Prop} {D : va_G} {ad : Nat → Nat} {cA : Nat → ClassId} (C : Cx p s m args meth c cX3_put RX3 4 A dsX D ad cA (EX A ad)) (hr : meth.sig.returnType = none) (x1 : Int32) (x2 : Int32) (x3 : Int32) (μ : Mem) : T p l e (rmD 0) s m args below meth c 4 A dsX D ad cA enV (fX3_put x1 x2 x3 μ) 0 [(0, .ref (ad 36)), (1, .int x1), (2, .int x2), (3, .int x3)] [] μ := by
  unfold fX3_put
  refine tt_aload_n C 0 dX3_put_0 rfl rfl ?_
  refine tt_getR C (j := 1) (r0 := 42) dX_36 rfl fl_RX3_16 dX3_put_1 ?_
  refine tt_iload_n C 1 dX3_put_4 rfl rfl ?_
  refine tt_gr (fun h1 => ?_)
  refine tt_iald C dX_42 h1 dX3_put_5 ?_
  refine tt_if (fun h2 => ?_) (fun h2 => ?_)
  · refine tt_look (off := 26) (tgt := 32) C dX3_put_6 (by decide) (by rw [h2]; decide) (by decide) ?_
    refine tt_aload_n C 0 dX3_put_32 rfl rfl ?_
    refine tt_getR C (j := 0) (r0 := 37) dX_36 rfl fl_RX3_11 dX3_put_33 ?_
    refine tt_iload_n C 1 dX3_put_36 rfl rfl ?_
    refine tt_gr (fun h3 => ?_)
    refine tt_if (fun h4 => ?_) (fun h4 => ?_)
    · refine tt_gald (r0 := 38) C dX_37 h3 (by rw [h4]; rfl) dX3_put_37 ?_
      refine tt_iload_n C 2 dX3_put_38 rfl rfl ?_
      refine tt_iload_n C 3 dX3_put_39 rfl rfl ?_
      refine tt_i2b C dX3_put_40 ?_
      refine tt_gr (fun h5 => ?_)
      refine tt_iast C dX_38 h5 dX3_put_41 ?_
      refine tt_lbm (fun m1 => ?_)
      refine tt_goto (tgt := 67) C dX3_put_42 (by decide) ?_
      refine tt_sub [] (L2 := []) rfl ?_
      exact wX3_put_J67 C hr m1
    · skip
      refine tt_if (fun h6 => ?_) (fun h6 => ?_)
      · refine tt_gald (r0 := 39) C dX_37 h3 (by rw [h6]; rfl) dX3_put_37 ?_
        refine tt_iload_n C 2 dX3_put_38 rfl rfl ?_
        refine tt_iload_n C 3 dX3_put_39 rfl rfl ?_
        refine tt_i2b C dX3_put_40 ?_
        refine tt_gr (fun h7 => ?_)
        refine tt_iast C dX_39 h7 dX3_put_41 ?_
        refine tt_lbm (fun m2 => ?_)
        refine tt_goto (tgt := 67) C dX3_put_42 (by decide) ?_
        refine tt_sub [] (L2 := []) rfl ?_
        exact wX3_put_J67 C hr m2
      · skip
        refine tt_if (fun h8 => ?_) (fun h8 => ?_)
        · refine tt_gald (r0 := 40) C dX_37 h3 (by rw [h8]; rfl) dX3_put_37 ?_
          refine tt_iload_n C 2 dX3_put_38 rfl rfl ?_
          refine tt_iload_n C 3 dX3_put_39 rfl rfl ?_
          refine tt_i2b C dX3_put_40 ?_
          refine tt_gr (fun h9 => ?_)
          refine tt_iast C dX_40 h9 dX3_put_41 ?_
          refine tt_lbm (fun m3 => ?_)
          refine tt_goto (tgt := 67) C dX3_put_42 (by decide) ?_
          refine tt_sub [] (L2 := []) rfl ?_
          exact wX3_put_J67 C hr m3
        · skip
          refine tt_if (fun h10 => ?_) (fun h10 => ?_)
          · refine tt_gald (r0 := 41) C dX_37 h3 (by rw [h10]; rfl) dX3_put_37 ?_
            refine tt_iload_n C 2 dX3_put_38 rfl rfl ?_
            refine tt_iload_n C 3 dX3_put_39 rfl rfl ?_
            refine tt_i2b C dX3_put_40 ?_
            refine tt_gr (fun h11 => ?_)
            refine tt_iast C dX_41 h11 dX3_put_41 ?_
            refine tt_lbm (fun m4 => ?_)
            refine tt_goto (tgt := 67) C dX3_put_42 (by decide) ?_
            refine tt_sub [] (L2 := []) rfl ?_
            exact wX3_put_J67 C hr m4
          · skip
            exact tt_none
  · skip
    refine tt_if (fun h12 => ?_) (fun h12 => ?_)
    · refine tt_look (off := 39) (tgt := 45) C dX3_put_6 (by decide) (by rw [h12]; decide) (by decide) ?_
      refine tt_aload_n C 0 dX3_put_45 rfl rfl ?_
      refine tt_getR C (j := 0) (r0 := 37) dX_36 rfl fl_RX3_11 dX3_put_46 ?_
      refine tt_iload_n C 1 dX3_put_49 rfl rfl ?_
      refine tt_gr (fun h13 => ?_)
      refine tt_if (fun h14 => ?_) (fun h14 => ?_)
      · refine tt_gald (r0 := 38) C dX_37 h13 (by rw [h14]; rfl) dX3_put_50 ?_
        refine tt_iload_n C 2 dX3_put_51 rfl rfl ?_
        refine tt_iload_n C 3 dX3_put_52 rfl rfl ?_
        refine tt_i2s C dX3_put_53 ?_
        refine tt_gr (fun h15 => ?_)
        refine tt_iast C dX_38 h15 dX3_put_54 ?_
        refine tt_lbm (fun m5 => ?_)
        refine tt_goto (tgt := 67) C dX3_put_55 (by decide) ?_
        refine tt_sub [] (L2 := []) rfl ?_
        exact wX3_put_J67 C hr m5
      · skip
        refine tt_if (fun h16 => ?_) (fun h16 => ?_)
        · refine tt_gald (r0 := 39) C dX_37 h13 (by rw [h16]; rfl) dX3_put_50 ?_
          refine tt_iload_n C 2 dX3_put_51 rfl rfl ?_
          refine tt_iload_n C 3 dX3_put_52 rfl rfl ?_
          refine tt_i2s C dX3_put_53 ?_
          refine tt_gr (fun h17 => ?_)
          refine tt_iast C dX_39 h17 dX3_put_54 ?_
          refine tt_lbm (fun m6 => ?_)
          refine tt_goto (tgt := 67) C dX3_put_55 (by decide) ?_
          refine tt_sub [] (L2 := []) rfl ?_
          exact wX3_put_J67 C hr m6
        · skip
          refine tt_if (fun h18 => ?_) (fun h18 => ?_)
          · refine tt_gald (r0 := 40) C dX_37 h13 (by rw [h18]; rfl) dX3_put_50 ?_
            refine tt_iload_n C 2 dX3_put_51 rfl rfl ?_
            refine tt_iload_n C 3 dX3_put_52 rfl rfl ?_
            refine tt_i2s C dX3_put_53 ?_
            refine tt_gr (fun h19 => ?_)
            refine tt_iast C dX_40 h19 dX3_put_54 ?_
            refine tt_lbm (fun m7 => ?_)
            refine tt_goto (tgt := 67) C dX3_put_55 (by decide) ?_
            refine tt_sub [] (L2 := []) rfl ?_
            exact wX3_put_J67 C hr m7
          · skip
            refine tt_if (fun h20 => ?_) (fun h20 => ?_)
            · refine tt_gald (r0 := 41) C dX_37 h13 (by rw [h20]; rfl) dX3_put_50 ?_
              refine tt_iload_n C 2 dX3_put_51 rfl rfl ?_
              refine tt_iload_n C 3 dX3_put_52 rfl rfl ?_
              refine tt_i2s C dX3_put_53 ?_
              refine tt_gr (fun h21 => ?_)
              refine tt_iast C dX_41 h21 dX3_put_54 ?_
              refine tt_lbm (fun m8 => ?_)
              refine tt_goto (tgt := 67) C dX3_put_55 (by decide) ?_
              refine tt_sub [] (L2 := []) rfl ?_
              exact wX3_put_J67 C hr m8
            · skip
              exact tt_none
    · skip
      refine tt_look (off := 52) (tgt := 58) C dX3_put_6 (by decide) (by show Op.lookupswitch.offset [(0, 26), (1, 39)] 52 _ = _; rw [lv_osw h2 (show (0 : Int32).toInt = 0 by decide), lv_osw h12 (show (1 : Int32).toInt = 1 by decide)]; rfl) (by decide) ?_
      refine tt_aload_n C 0 dX3_put_58 rfl rfl ?_
      refine tt_getR C (j := 0) (r0 := 37) dX_36 rfl fl_RX3_11 dX3_put_59 ?_
      refine tt_iload_n C 1 dX3_put_62 rfl rfl ?_
      refine tt_gr (fun h22 => ?_)
      refine tt_if (fun h23 => ?_) (fun h23 => ?_)
      · refine tt_gald (r0 := 38) C dX_37 h22 (by rw [h23]; rfl) dX3_put_63 ?_
        refine tt_iload_n C 2 dX3_put_64 rfl rfl ?_
        refine tt_iload_n C 3 dX3_put_65 rfl rfl ?_
        refine tt_gr (fun h24 => ?_)
        refine tt_iast C dX_38 h24 dX3_put_66 ?_
        refine tt_lbm (fun m9 => ?_)
        refine tt_sub [] (L2 := []) rfl ?_
        exact wX3_put_J67 C hr m9
      · skip
        refine tt_if (fun h25 => ?_) (fun h25 => ?_)
        · refine tt_gald (r0 := 39) C dX_37 h22 (by rw [h25]; rfl) dX3_put_63 ?_
          refine tt_iload_n C 2 dX3_put_64 rfl rfl ?_
          refine tt_iload_n C 3 dX3_put_65 rfl rfl ?_
          refine tt_gr (fun h26 => ?_)
          refine tt_iast C dX_39 h26 dX3_put_66 ?_
          refine tt_lbm (fun m10 => ?_)
          refine tt_sub [] (L2 := []) rfl ?_
          exact wX3_put_J67 C hr m10
        · skip
          refine tt_if (fun h27 => ?_) (fun h27 => ?_)
          · refine tt_gald (r0 := 40) C dX_37 h22 (by rw [h27]; rfl) dX3_put_63 ?_
            refine tt_iload_n C 2 dX3_put_64 rfl rfl ?_
            refine tt_iload_n C 3 dX3_put_65 rfl rfl ?_
            refine tt_gr (fun h28 => ?_)
            refine tt_iast C dX_40 h28 dX3_put_66 ?_
            refine tt_lbm (fun m11 => ?_)
            refine tt_sub [] (L2 := []) rfl ?_
            exact wX3_put_J67 C hr m11
          · skip
            refine tt_if (fun h29 => ?_) (fun h29 => ?_)
            · refine tt_gald (r0 := 41) C dX_37 h22 (by rw [h29]; rfl) dX3_put_63 ?_
              refine tt_iload_n C 2 dX3_put_64 rfl rfl ?_
              refine tt_iload_n C 3 dX3_put_65 rfl rfl ?_
              refine tt_gr (fun h30 => ?_)
              refine tt_iast C dX_41 h30 dX3_put_66 ?_
              refine tt_lbm (fun m12 => ?_)
              refine tt_sub [] (L2 := []) rfl ?_
              exact wX3_put_J67 C hr m12
            · skip
              exact tt_none
theorem kX3_put {l : Launch} {A : Nat → Prop} {D : va_G} {ad : Nat → Nat} {cA : Nat → ClassId} (hPk : Pk A dsX ad cA (EX A ad)) {x1 : Int32} {x2 : Int32} {x3 : Int32} {μ : Mem} {ν : Mem} (h : fX3_put x1 x2 x3 μ = some ν) : Ct l A dsX D ad cA (EX A ad) yX3_put cX3_put 4 none 0 [.ref (ad 36), .int x1, .int x2, .int x3] μ (enV ν) :=
  ct_of (by decide) (Nat.le_of_ble_eq_true rfl) hPk rfl (fun p e s m args below meth c C hr => wX3_put C hr x1 x2 x3 μ) h

/-! java/util/Arrays.fill([II)V -/
def fJ7_fill_53178_L5 (a1 : Nat) (n1 : Nat) : Nat → Int32 → Int32 → Int32 → Mem → Option (Mem)
  | 0, _, _, _, _ => none
  | fu + 1, x1, x2, x3, μ => if x3 ≤ x2 then (some μ) else (gr x2 n1 <| lb (wr μ a1 x2.toNatClampNeg x1) fun m1 => lb (x2 + (1 : Int32)) fun (y2 : Int32) => fJ7_fill_53178_L5 a1 n1 fu x1 y2 x3 m1)
set_option maxHeartbeats 4000000 in
set_option maxRecDepth 100000 in
theorem wJ7_fill_53178_L5 {p : Program} {l : Launch} {e : Env} {s : State} {m : MethodId} {args : Array Value} {below : List Frame} {meth : Method} {c : Code} {A : Nat → Prop} {D : va_G} {ad : Nat → Nat} {cA : Nat → ClassId} (C : Cx p s m args meth c cJ7_fill_53178 RJ7 4 A dsX D ad cA (EX A ad)) (hr : meth.sig.returnType = none) (a1 : Nat) (n1 : Nat) (ha1 : dsX[a1]? = some (0, n1, [])) : ∀ (fu : Nat) (x1 : Int32) (x2 : Int32) (x3 : Int32) (μ : Mem), T p l e (rmD 0) s m args below meth c 4 A dsX D ad cA enV (fJ7_fill_53178_L5 a1 n1 fu x1 x2 x3 μ) 5 [(0, .ref (ad a1)), (1, .int x1), (2, .int x2), (3, .int x3)] [] μ
  | 0, _, _, _, _ => tt_none
  | fu + 1, x1, x2, x3, μ => by
    have ih := fun (x1 : Int32) (x2 : Int32) (x3 : Int32) (μ : Mem) => wJ7_fill_53178_L5 (l := l) (e := e) (below := below) C hr a1 n1 ha1 fu x1 x2 x3 μ
    show T p l e (rmD 0) s m args below meth c 4 A dsX D ad cA enV (if x3 ≤ x2 then (some μ) else (gr x2 n1 <| lb (wr μ a1 x2.toNatClampNeg x1) fun m1 => lb (x2 + (1 : Int32)) fun (y2 : Int32) => fJ7_fill_53178_L5 a1 n1 fu x1 y2 x3 m1)) 5 [(0, .ref (ad a1)), (1, .int x1), (2, .int x2), (3, .int x3)] [] μ
    refine tt_iload_n C 2 dJ7_fill_53178_5 rfl rfl ?_
    refine tt_iload_n C 3 dJ7_fill_53178_6 rfl rfl ?_
    refine tt_if (fun h1 => ?_) (fun h1 => ?_)
    · refine tt_icmp_geT (tgt := 20) C h1 dJ7_fill_53178_7 (by decide) ?_
      exact tt_vret rfl C hr dJ7_fill_53178_20
    · refine tt_icmp_geF C 20 h1 dJ7_fill_53178_7 (by decide) ?_
      refine tt_aload_n C 0 dJ7_fill_53178_10 rfl rfl ?_
      refine tt_iload_n C 2 dJ7_fill_53178_11 rfl rfl ?_
      refine tt_iload_n C 1 dJ7_fill_53178_12 rfl rfl ?_
      refine tt_gr (fun h2 => ?_)
      refine tt_iast C ha1 h2 dJ7_fill_53178_13 ?_
      refine tt_lbm (fun m1 => ?_)
      refine tt_iincB (d := (1 : Int32)) C 2 (fun y2 => [(2, .int y2), (0, .ref (ad a1)), (1, .int x1), (3, .int x3)]) dJ7_fill_53178_14 rfl (by decide) (by decide) (fun _ => rfl) (fun y2 => ?_)
      refine tt_goto (tgt := 5) C dJ7_fill_53178_17 (by decide) ?_
      refine tt_sub [1, 2, 0, 3] (L2 := [(0, .ref (ad a1)), (1, .int x1), (2, .int y2), (3, .int x3)]) rfl ?_
      exact ih x1 y2 x3 m1

def fJ7_fill_53178 (a1 : Nat) (n1 : Nat) (x1 : Int32) (μ : Mem) : Option (Mem) := lb (0 : Int32) fun (y1 : Int32) => lb (Int32.ofNat n1) fun (y2 : Int32) => fJ7_fill_53178_L5 a1 n1 FU x1 y1 y2 μ
set_option maxHeartbeats 4000000 in
set_option maxRecDepth 100000 in
theorem wJ7_fill_53178 {p : Program} {l : Launch} {e : Env} {s : State} {m : MethodId} {args : Array Value} {below : List Frame} {meth : Method} {c : Code} {A : Nat → Prop} {D : va_G} {ad : Nat → Nat} {cA : Nat → ClassId} (C : Cx p s m args meth c cJ7_fill_53178 RJ7 4 A dsX D ad cA (EX A ad)) (hr : meth.sig.returnType = none) (a1 : Nat) (n1 : Nat) (ha1 : dsX[a1]? = some (0, n1, [])) (x1 : Int32) (μ : Mem) : T p l e (rmD 0) s m args below meth c 4 A dsX D ad cA enV (fJ7_fill_53178 a1 n1 x1 μ) 0 [(0, .ref (ad a1)), (1, .int x1)] [] μ := by
  unfold fJ7_fill_53178
  refine tt_iconst (v := (0 : Int32)) C dJ7_fill_53178_0 (by decide) ?_
  refine tt_lbi (fun y1 => ?_)
  refine tt_istore_n (L2 := [(2, .int y1), (0, .ref (ad a1)), (1, .int x1)]) C dJ7_fill_53178_1 rfl (by decide) rfl ?_
  refine tt_aload_n C 1 dJ7_fill_53178_2 rfl rfl ?_
  refine tt_alen (v := (Int32.ofNat n1)) C ha1 rfl dJ7_fill_53178_3 ?_
  refine tt_lbi (fun y2 => ?_)
  refine tt_istore_n (L2 := [(3, .int y2), (2, .int y1), (0, .ref (ad a1)), (1, .int x1)]) C dJ7_fill_53178_4 rfl (by decide) rfl ?_
  refine tt_sub [2, 3, 1, 0] (L2 := [(0, .ref (ad a1)), (1, .int x1), (2, .int y1), (3, .int y2)]) rfl ?_
  exact wJ7_fill_53178_L5 C hr a1 n1 ha1 FU x1 y1 y2 μ
theorem kJ7_fill_53178 {l : Launch} {A : Nat → Prop} {D : va_G} {ad : Nat → Nat} {cA : Nat → ClassId} (hPk : Pk A dsX ad cA (EX A ad)) (a1 : Nat) (n1 : Nat) (ha1 : dsX[a1]? = some (0, n1, [])) {x1 : Int32} {μ : Mem} {ν : Mem} (h : fJ7_fill_53178 a1 n1 x1 μ = some ν) : Ct l A dsX D ad cA (EX A ad) yJ7_fill_53178 cJ7_fill_53178 4 none 0 [.ref (ad a1), .int x1] μ (enV ν) :=
  ct_of (by decide) (Nat.le_of_ble_eq_true rfl) hPk rfl (fun p e s m args below meth c C hr => wJ7_fill_53178 C hr a1 n1 ha1 x1 μ) h

/-! BasketRound$Sheets.renew(III)V -/
def fX3_renew (x1 : Int32) (x2 : Int32) (x3 : Int32) (μ : Mem) : Option (Mem) := gr x1 4 <| if x1.toNatClampNeg = 0 then (bv (fJ7_fill_53178 38 40 (0 : Int32) μ) fun m1 => gr x1 4 <| lb (wr m1 42 x1.toNatClampNeg x2) fun m2 => gr x1 4 <| lb (wr m2 43 x1.toNatClampNeg x3) fun m3 => some m3) else (if x1.toNatClampNeg = 1 then (bv (fJ7_fill_53178 39 40 (0 : Int32) μ) fun m4 => gr x1 4 <| lb (wr m4 42 x1.toNatClampNeg x2) fun m5 => gr x1 4 <| lb (wr m5 43 x1.toNatClampNeg x3) fun m6 => some m6) else (if x1.toNatClampNeg = 2 then (bv (fJ7_fill_53178 40 40 (0 : Int32) μ) fun m7 => gr x1 4 <| lb (wr m7 42 x1.toNatClampNeg x2) fun m8 => gr x1 4 <| lb (wr m8 43 x1.toNatClampNeg x3) fun m9 => some m9) else (if x1.toNatClampNeg = 3 then (bv (fJ7_fill_53178 41 40 (0 : Int32) μ) fun m10 => gr x1 4 <| lb (wr m10 42 x1.toNatClampNeg x2) fun m11 => gr x1 4 <| lb (wr m11 43 x1.toNatClampNeg x3) fun m12 => some m12) else (none))))
set_option maxHeartbeats 4000000 in
set_option maxRecDepth 100000 in
theorem wX3_renew {p : Program} {l : Launch} {e : Env} {s : State} {m : MethodId} {args : Array Value} {below : List Frame} {meth : Method} {c : Code} {A : Nat → Prop} {D : va_G} {ad : Nat → Nat} {cA : Nat → ClassId} (C : Cx p s m args meth c cX3_renew RX3 4 A dsX D ad cA (EX A ad)) (hr : meth.sig.returnType = none) (x1 : Int32) (x2 : Int32) (x3 : Int32) (μ : Mem) : T p l e (rmD 1) s m args below meth c 4 A dsX D ad cA enV (fX3_renew x1 x2 x3 μ) 0 [(0, .ref (ad 36)), (1, .int x1), (2, .int x2), (3, .int x3)] [] μ := by
  unfold fX3_renew
  refine tt_aload_n C 0 dX3_renew_0 rfl rfl ?_
  refine tt_getR C (j := 0) (r0 := 37) dX_36 rfl fl_RX3_11 dX3_renew_1 ?_
  refine tt_iload_n C 1 dX3_renew_4 rfl rfl ?_
  refine tt_gr (fun h1 => ?_)
  refine tt_if (fun h2 => ?_) (fun h2 => ?_)
  · refine tt_gald (r0 := 38) C dX_37 h1 (by rw [h2]; rfl) dX3_renew_5 ?_
    refine tt_iconst (v := (0 : Int32)) C dX3_renew_6 (by decide) ?_
    refine tt_bv (fun m1 h3 => ?_)
    refine tt_callS (st := []) (As := [.ref (ad 38), .int (0 : Int32)]) C (kJ7_fill_53178 C.2.2.2.2.2.2.2.1 38 40 dX_38 h3) mi_J7_fill_53178 ml_RX3_23 mt_J7_fill_53178 rfl (by decide) (by decide) (Nat.le_of_ble_eq_true rfl) dX3_renew_7 ?_
    refine tt_aload_n C 0 dX3_renew_10 rfl rfl ?_
    refine tt_getR C (j := 1) (r0 := 42) dX_36 rfl fl_RX3_16 dX3_renew_11 ?_
    refine tt_iload_n C 1 dX3_renew_14 rfl rfl ?_
    refine tt_iload_n C 2 dX3_renew_15 rfl rfl ?_
    refine tt_gr (fun h4 => ?_)
    refine tt_iast C dX_42 h4 dX3_renew_16 ?_
    refine tt_lbm (fun m2 => ?_)
    refine tt_aload_n C 0 dX3_renew_17 rfl rfl ?_
    refine tt_getR C (j := 2) (r0 := 43) dX_36 rfl fl_RX3_20 dX3_renew_18 ?_
    refine tt_iload_n C 1 dX3_renew_21 rfl rfl ?_
    refine tt_iload_n C 3 dX3_renew_22 rfl rfl ?_
    refine tt_gr (fun h5 => ?_)
    refine tt_iast C dX_43 h5 dX3_renew_23 ?_
    refine tt_lbm (fun m3 => ?_)
    exact tt_vret rfl C hr dX3_renew_24
  · skip
    refine tt_if (fun h6 => ?_) (fun h6 => ?_)
    · refine tt_gald (r0 := 39) C dX_37 h1 (by rw [h6]; rfl) dX3_renew_5 ?_
      refine tt_iconst (v := (0 : Int32)) C dX3_renew_6 (by decide) ?_
      refine tt_bv (fun m4 h7 => ?_)
      refine tt_callS (st := []) (As := [.ref (ad 39), .int (0 : Int32)]) C (kJ7_fill_53178 C.2.2.2.2.2.2.2.1 39 40 dX_39 h7) mi_J7_fill_53178 ml_RX3_23 mt_J7_fill_53178 rfl (by decide) (by decide) (Nat.le_of_ble_eq_true rfl) dX3_renew_7 ?_
      refine tt_aload_n C 0 dX3_renew_10 rfl rfl ?_
      refine tt_getR C (j := 1) (r0 := 42) dX_36 rfl fl_RX3_16 dX3_renew_11 ?_
      refine tt_iload_n C 1 dX3_renew_14 rfl rfl ?_
      refine tt_iload_n C 2 dX3_renew_15 rfl rfl ?_
      refine tt_gr (fun h8 => ?_)
      refine tt_iast C dX_42 h8 dX3_renew_16 ?_
      refine tt_lbm (fun m5 => ?_)
      refine tt_aload_n C 0 dX3_renew_17 rfl rfl ?_
      refine tt_getR C (j := 2) (r0 := 43) dX_36 rfl fl_RX3_20 dX3_renew_18 ?_
      refine tt_iload_n C 1 dX3_renew_21 rfl rfl ?_
      refine tt_iload_n C 3 dX3_renew_22 rfl rfl ?_
      refine tt_gr (fun h9 => ?_)
      refine tt_iast C dX_43 h9 dX3_renew_23 ?_
      refine tt_lbm (fun m6 => ?_)
      exact tt_vret rfl C hr dX3_renew_24
    · skip
      refine tt_if (fun h10 => ?_) (fun h10 => ?_)
      · refine tt_gald (r0 := 40) C dX_37 h1 (by rw [h10]; rfl) dX3_renew_5 ?_
        refine tt_iconst (v := (0 : Int32)) C dX3_renew_6 (by decide) ?_
        refine tt_bv (fun m7 h11 => ?_)
        refine tt_callS (st := []) (As := [.ref (ad 40), .int (0 : Int32)]) C (kJ7_fill_53178 C.2.2.2.2.2.2.2.1 40 40 dX_40 h11) mi_J7_fill_53178 ml_RX3_23 mt_J7_fill_53178 rfl (by decide) (by decide) (Nat.le_of_ble_eq_true rfl) dX3_renew_7 ?_
        refine tt_aload_n C 0 dX3_renew_10 rfl rfl ?_
        refine tt_getR C (j := 1) (r0 := 42) dX_36 rfl fl_RX3_16 dX3_renew_11 ?_
        refine tt_iload_n C 1 dX3_renew_14 rfl rfl ?_
        refine tt_iload_n C 2 dX3_renew_15 rfl rfl ?_
        refine tt_gr (fun h12 => ?_)
        refine tt_iast C dX_42 h12 dX3_renew_16 ?_
        refine tt_lbm (fun m8 => ?_)
        refine tt_aload_n C 0 dX3_renew_17 rfl rfl ?_
        refine tt_getR C (j := 2) (r0 := 43) dX_36 rfl fl_RX3_20 dX3_renew_18 ?_
        refine tt_iload_n C 1 dX3_renew_21 rfl rfl ?_
        refine tt_iload_n C 3 dX3_renew_22 rfl rfl ?_
        refine tt_gr (fun h13 => ?_)
        refine tt_iast C dX_43 h13 dX3_renew_23 ?_
        refine tt_lbm (fun m9 => ?_)
        exact tt_vret rfl C hr dX3_renew_24
      · skip
        refine tt_if (fun h14 => ?_) (fun h14 => ?_)
        · refine tt_gald (r0 := 41) C dX_37 h1 (by rw [h14]; rfl) dX3_renew_5 ?_
          refine tt_iconst (v := (0 : Int32)) C dX3_renew_6 (by decide) ?_
          refine tt_bv (fun m10 h15 => ?_)
          refine tt_callS (st := []) (As := [.ref (ad 41), .int (0 : Int32)]) C (kJ7_fill_53178 C.2.2.2.2.2.2.2.1 41 40 dX_41 h15) mi_J7_fill_53178 ml_RX3_23 mt_J7_fill_53178 rfl (by decide) (by decide) (Nat.le_of_ble_eq_true rfl) dX3_renew_7 ?_
          refine tt_aload_n C 0 dX3_renew_10 rfl rfl ?_
          refine tt_getR C (j := 1) (r0 := 42) dX_36 rfl fl_RX3_16 dX3_renew_11 ?_
          refine tt_iload_n C 1 dX3_renew_14 rfl rfl ?_
          refine tt_iload_n C 2 dX3_renew_15 rfl rfl ?_
          refine tt_gr (fun h16 => ?_)
          refine tt_iast C dX_42 h16 dX3_renew_16 ?_
          refine tt_lbm (fun m11 => ?_)
          refine tt_aload_n C 0 dX3_renew_17 rfl rfl ?_
          refine tt_getR C (j := 2) (r0 := 43) dX_36 rfl fl_RX3_20 dX3_renew_18 ?_
          refine tt_iload_n C 1 dX3_renew_21 rfl rfl ?_
          refine tt_iload_n C 3 dX3_renew_22 rfl rfl ?_
          refine tt_gr (fun h17 => ?_)
          refine tt_iast C dX_43 h17 dX3_renew_23 ?_
          refine tt_lbm (fun m12 => ?_)
          exact tt_vret rfl C hr dX3_renew_24
        · skip
          exact tt_none
theorem kX3_renew {l : Launch} {A : Nat → Prop} {D : va_G} {ad : Nat → Nat} {cA : Nat → ClassId} (hPk : Pk A dsX ad cA (EX A ad)) {x1 : Int32} {x2 : Int32} {x3 : Int32} {μ : Mem} {ν : Mem} (h : fX3_renew x1 x2 x3 μ = some ν) : Ct l A dsX D ad cA (EX A ad) yX3_renew cX3_renew 4 none 1 [.ref (ad 36), .int x1, .int x2, .int x3] μ (enV ν) :=
  ct_of (by decide) (Nat.le_of_ble_eq_true rfl) hPk rfl (fun p e s m args below meth c C hr => wX3_renew C hr x1 x2 x3 μ) h

/-! BasketRound$Shop.become(LBasketRound$Shop;)V -/
def fX4_become (sh : Nat) (sg : Nat) (μ : Mem) : Option (Mem) := gd (¬ (0 : Int32) < 0 ∧ ¬ (0 : Int32) < 0 ∧ ¬ (12 : Int32) < 0 ∧ (0 : Int32).toNatClampNeg + (12 : Int32).toNatClampNeg ≤ 12 ∧ (0 : Int32).toNatClampNeg + (12 : Int32).toNatClampNeg ≤ 12) <| lb (wrA μ (sh + 1) (va_cpy (μ (sg + 1)) (μ (sh + 1)) (0 : Int32).toNatClampNeg (0 : Int32).toNatClampNeg (12 : Int32).toNatClampNeg)) fun m1 => gd (¬ (0 : Int32) < 0 ∧ ¬ (0 : Int32) < 0 ∧ ¬ (25 : Int32) < 0 ∧ (0 : Int32).toNatClampNeg + (25 : Int32).toNatClampNeg ≤ 25 ∧ (0 : Int32).toNatClampNeg + (25 : Int32).toNatClampNeg ≤ 25) <| lb (wrA m1 (sh + 2) (va_cpy (m1 (sg + 2)) (m1 (sh + 2)) (0 : Int32).toNatClampNeg (0 : Int32).toNatClampNeg (25 : Int32).toNatClampNeg)) fun m2 => gd (¬ (0 : Int32) < 0 ∧ ¬ (0 : Int32) < 0 ∧ ¬ (5 : Int32) < 0 ∧ (0 : Int32).toNatClampNeg + (5 : Int32).toNatClampNeg ≤ 5 ∧ (0 : Int32).toNatClampNeg + (5 : Int32).toNatClampNeg ≤ 5) <| lb (wrA m2 (sh + 3) (va_cpy (m2 (sg + 3)) (m2 (sh + 3)) (0 : Int32).toNatClampNeg (0 : Int32).toNatClampNeg (5 : Int32).toNatClampNeg)) fun m3 => gd (¬ (0 : Int32) < 0 ∧ ¬ (0 : Int32) < 0 ∧ ¬ (5 : Int32) < 0 ∧ (0 : Int32).toNatClampNeg + (5 : Int32).toNatClampNeg ≤ 5 ∧ (0 : Int32).toNatClampNeg + (5 : Int32).toNatClampNeg ≤ 5) <| lb (wrA m3 (sh + 4) (va_cpy (m3 (sg + 4)) (m3 (sh + 4)) (0 : Int32).toNatClampNeg (0 : Int32).toNatClampNeg (5 : Int32).toNatClampNeg)) fun m4 => lb (wr m4 sh 4 (m4 sg 4)) fun m5 => lb (wr m5 sh 5 (m5 sg 5)) fun m6 => lb (wr m6 sh 6 (m6 sg 6)) fun m7 => lb (wr m7 sh 7 (m7 sg 7)) fun m8 => some m8
set_option maxHeartbeats 4000000 in
set_option maxRecDepth 100000 in
theorem wX4_become {p : Program} {l : Launch} {e : Env} {s : State} {m : MethodId} {args : Array Value} {below : List Frame} {meth : Method} {c : Code} {A : Nat → Prop} {D : va_G} {ad : Nat → Nat} {cA : Nat → ClassId} (C : Cx p s m args meth c cX4_become RX4 2 A dsX D ad cA (EX A ad)) (hr : meth.sig.returnType = none) (sh : Nat) (sg : Nat) (hsh : isShop sh) (hsg : isShop sg) (μ : Mem) : T p l e (rmD 1) s m args below meth c 2 A dsX D ad cA enV (fX4_become sh sg μ) 0 [(0, .ref (ad sh)), (1, .ref (ad sg))] [] μ := by
  unfold fX4_become
  refine tt_aload_n C 1 dX4_become_0 rfl rfl ?_
  refine tt_getR C (j := 0) (r0 := (sg + 1)) hsg.1 rfl fl_RX4_9 dX4_become_1 ?_
  refine tt_iconst (v := (0 : Int32)) C dX4_become_4 (by decide) ?_
  refine tt_aload_n C 0 dX4_become_5 rfl rfl ?_
  refine tt_getR C (j := 0) (r0 := (sh + 1)) hsh.1 rfl fl_RX4_9 dX4_become_6 ?_
  refine tt_iconst (v := (0 : Int32)) C dX4_become_9 (by decide) ?_
  refine tt_aload_n C 0 dX4_become_10 rfl rfl ?_
  refine tt_getR C (j := 0) (r0 := (sh + 1)) hsh.1 rfl fl_RX4_9 dX4_become_11 ?_
  refine tt_alen (v := (12 : Int32)) C hsh.2.1 rfl dX4_become_14 ?_
  refine tt_gd (fun h1 => ?_)
  refine tt_copy (st := []) C ml_RX4_37 sy_nat sy_stat sy_ini hsg.2.1 hsh.2.1 h1 (by decide) (by decide) (Nat.le_of_ble_eq_true rfl) dX4_become_15 ?_
  refine tt_lbm (fun m1 => ?_)
  refine tt_aload_n C 1 dX4_become_18 rfl rfl ?_
  refine tt_getR C (j := 1) (r0 := (sg + 2)) hsg.1 rfl fl_RX4_15 dX4_become_19 ?_
  refine tt_iconst (v := (0 : Int32)) C dX4_become_22 (by decide) ?_
  refine tt_aload_n C 0 dX4_become_23 rfl rfl ?_
  refine tt_getR C (j := 1) (r0 := (sh + 2)) hsh.1 rfl fl_RX4_15 dX4_become_24 ?_
  refine tt_iconst (v := (0 : Int32)) C dX4_become_27 (by decide) ?_
  refine tt_aload_n C 0 dX4_become_28 rfl rfl ?_
  refine tt_getR C (j := 1) (r0 := (sh + 2)) hsh.1 rfl fl_RX4_15 dX4_become_29 ?_
  refine tt_alen (v := (25 : Int32)) C hsh.2.2.1 rfl dX4_become_32 ?_
  refine tt_gd (fun h2 => ?_)
  refine tt_copy (st := []) C ml_RX4_37 sy_nat sy_stat sy_ini hsg.2.2.1 hsh.2.2.1 h2 (by decide) (by decide) (Nat.le_of_ble_eq_true rfl) dX4_become_33 ?_
  refine tt_lbm (fun m2 => ?_)
  refine tt_aload_n C 1 dX4_become_36 rfl rfl ?_
  refine tt_getR C (j := 2) (r0 := (sg + 3)) hsg.1 rfl fl_RX4_18 dX4_become_37 ?_
  refine tt_iconst (v := (0 : Int32)) C dX4_become_40 (by decide) ?_
  refine tt_aload_n C 0 dX4_become_41 rfl rfl ?_
  refine tt_getR C (j := 2) (r0 := (sh + 3)) hsh.1 rfl fl_RX4_18 dX4_become_42 ?_
  refine tt_iconst (v := (0 : Int32)) C dX4_become_45 (by decide) ?_
  refine tt_aload_n C 0 dX4_become_46 rfl rfl ?_
  refine tt_getR C (j := 2) (r0 := (sh + 3)) hsh.1 rfl fl_RX4_18 dX4_become_47 ?_
  refine tt_alen (v := (5 : Int32)) C hsh.2.2.2.1 rfl dX4_become_50 ?_
  refine tt_gd (fun h3 => ?_)
  refine tt_copy (st := []) C ml_RX4_37 sy_nat sy_stat sy_ini hsg.2.2.2.1 hsh.2.2.2.1 h3 (by decide) (by decide) (Nat.le_of_ble_eq_true rfl) dX4_become_51 ?_
  refine tt_lbm (fun m3 => ?_)
  refine tt_aload_n C 1 dX4_become_54 rfl rfl ?_
  refine tt_getR C (j := 3) (r0 := (sg + 4)) hsg.1 rfl fl_RX4_21 dX4_become_55 ?_
  refine tt_iconst (v := (0 : Int32)) C dX4_become_58 (by decide) ?_
  refine tt_aload_n C 0 dX4_become_59 rfl rfl ?_
  refine tt_getR C (j := 3) (r0 := (sh + 4)) hsh.1 rfl fl_RX4_21 dX4_become_60 ?_
  refine tt_iconst (v := (0 : Int32)) C dX4_become_63 (by decide) ?_
  refine tt_aload_n C 0 dX4_become_64 rfl rfl ?_
  refine tt_getR C (j := 3) (r0 := (sh + 4)) hsh.1 rfl fl_RX4_21 dX4_become_65 ?_
  refine tt_alen (v := (5 : Int32)) C hsh.2.2.2.2 rfl dX4_become_68 ?_
  refine tt_gd (fun h4 => ?_)
  refine tt_copy (st := []) C ml_RX4_37 sy_nat sy_stat sy_ini hsg.2.2.2.2 hsh.2.2.2.2 h4 (by decide) (by decide) (Nat.le_of_ble_eq_true rfl) dX4_become_69 ?_
  refine tt_lbm (fun m4 => ?_)
  refine tt_aload_n C 0 dX4_become_72 rfl rfl ?_
  refine tt_aload_n C 1 dX4_become_73 rfl rfl ?_
  refine tt_getI C (j := 4) hsg.1 rfl fl_RX4_28 dX4_become_74 ?_
  refine tt_putI C (j := 4) hsh.1 rfl fl_RX4_28 fw_4_4 dX4_become_77 ?_
  refine tt_lbm (fun m5 => ?_)
  refine tt_aload_n C 0 dX4_become_80 rfl rfl ?_
  refine tt_aload_n C 1 dX4_become_81 rfl rfl ?_
  refine tt_getI C (j := 5) hsg.1 rfl fl_RX4_31 dX4_become_82 ?_
  refine tt_putI C (j := 5) hsh.1 rfl fl_RX4_31 fw_4_5 dX4_become_85 ?_
  refine tt_lbm (fun m6 => ?_)
  refine tt_aload_n C 0 dX4_become_88 rfl rfl ?_
  refine tt_aload_n C 1 dX4_become_89 rfl rfl ?_
  refine tt_getI C (j := 6) hsg.1 rfl fl_RX4_24 dX4_become_90 ?_
  refine tt_putI C (j := 6) hsh.1 rfl fl_RX4_24 fw_4_6 dX4_become_93 ?_
  refine tt_lbm (fun m7 => ?_)
  refine tt_aload_n C 0 dX4_become_96 rfl rfl ?_
  refine tt_aload_n C 1 dX4_become_97 rfl rfl ?_
  refine tt_getI C (j := 7) hsg.1 rfl fl_RX4_34 dX4_become_98 ?_
  refine tt_putI C (j := 7) hsh.1 rfl fl_RX4_34 fw_4_7 dX4_become_101 ?_
  refine tt_lbm (fun m8 => ?_)
  exact tt_vret rfl C hr dX4_become_104
theorem kX4_become {l : Launch} {A : Nat → Prop} {D : va_G} {ad : Nat → Nat} {cA : Nat → ClassId} (hPk : Pk A dsX ad cA (EX A ad)) (sh : Nat) (sg : Nat) (hsh : isShop sh) (hsg : isShop sg) {μ : Mem} {ν : Mem} (h : fX4_become sh sg μ = some ν) : Ct l A dsX D ad cA (EX A ad) yX4_become cX4_become 2 none 1 [.ref (ad sh), .ref (ad sg)] μ (enV ν) :=
  ct_of (by decide) (Nat.le_of_ble_eq_true rfl) hPk rfl (fun p e s m args below meth c C hr => wX4_become C hr sh sg hsh hsg μ) h

/-! BasketRound$Shop.ofHouse(II)I -/
def fX4_ofHouse (sh : Nat) (x1 : Int32) (x2 : Int32) (μ : Mem) : Option (Int32 × Mem) := gr (((x1 - (1 : Int32)) * (2 : Int32)) + x2) 12 <| some ((μ (sh + 1) (((x1 - (1 : Int32)) * (2 : Int32)) + x2).toNatClampNeg), μ)
set_option maxHeartbeats 4000000 in
set_option maxRecDepth 100000 in
theorem wX4_ofHouse {p : Program} {l : Launch} {e : Env} {s : State} {m : MethodId} {args : Array Value} {below : List Frame} {meth : Method} {c : Code} {A : Nat → Prop} {D : va_G} {ad : Nat → Nat} {cA : Nat → ClassId} (C : Cx p s m args meth c cX4_ofHouse RX4 3 A dsX D ad cA (EX A ad)) (hr : meth.sig.returnType = some .int) (sh : Nat) (hsh : isShop sh) (x1 : Int32) (x2 : Int32) (μ : Mem) : T p l e (rmD 0) s m args below meth c 3 A dsX D ad cA enI (fX4_ofHouse sh x1 x2 μ) 0 [(0, .ref (ad sh)), (1, .int x1), (2, .int x2)] [] μ := by
  unfold fX4_ofHouse
  refine tt_aload_n C 0 dX4_ofHouse_0 rfl rfl ?_
  refine tt_getR C (j := 0) (r0 := (sh + 1)) hsh.1 rfl fl_RX4_9 dX4_ofHouse_1 ?_
  refine tt_iload_n C 1 dX4_ofHouse_4 rfl rfl ?_
  refine tt_iconst (v := (1 : Int32)) C dX4_ofHouse_5 (by decide) ?_
  refine tt_isub C dX4_ofHouse_6 ?_
  refine tt_iconst (v := (2 : Int32)) C dX4_ofHouse_7 (by decide) ?_
  refine tt_imul C dX4_ofHouse_8 ?_
  refine tt_iload_n C 2 dX4_ofHouse_9 rfl rfl ?_
  refine tt_iadd C dX4_ofHouse_10 ?_
  refine tt_gr (fun h1 => ?_)
  refine tt_iald C hsh.2.1 h1 dX4_ofHouse_11 ?_
  exact tt_iret rfl C hr dX4_ofHouse_12
theorem kX4_ofHouse {l : Launch} {A : Nat → Prop} {D : va_G} {ad : Nat → Nat} {cA : Nat → ClassId} (hPk : Pk A dsX ad cA (EX A ad)) (sh : Nat) (hsh : isShop sh) {x1 : Int32} {x2 : Int32} {μ : Mem} {v : Int32} {ν : Mem} (h : fX4_ofHouse sh x1 x2 μ = some (v, ν)) : Ct l A dsX D ad cA (EX A ad) yX4_ofHouse cX4_ofHouse 3 (some .int) 0 [.ref (ad sh), .int x1, .int x2] μ (enI (v, ν)) :=
  ct_of (by decide) (Nat.le_of_ble_eq_true rfl) hPk rfl (fun p e s m args below meth c C hr => wX4_ofHouse C hr sh hsh x1 x2 μ) h

/-! BasketRound$Shop.minutesBetween(IIZ)I -/
def fX4_minutesBetween_J76 (sh : Nat) (k24 : Int32 → Int32 → Int32 → Int32 → Int32 → Int32 → Mem → Option (Int32 × Mem)) (x1 : Int32) (x2 : Int32) (x3 : Int32) (x4 : Int32) (x6 : Int32) (z0 : Int32) (z1 : Int32) (z2 : Int32) (μ : Mem) : Option (Int32 × Mem) := lb (z0 + (z1 * z2)) fun (y1 : Int32) => lb (x6 + (1 : Int32)) fun (y2 : Int32) => k24 x1 x2 x3 x4 y1 y2 μ
set_option maxHeartbeats 4000000 in
set_option maxRecDepth 100000 in
theorem wX4_minutesBetween_J76 {p : Program} {l : Launch} {e : Env} {s : State} {m : MethodId} {args : Array Value} {below : List Frame} {meth : Method} {c : Code} {A : Nat → Prop} {D : va_G} {ad : Nat → Nat} {cA : Nat → ClassId} (C : Cx p s m args meth c cX4_minutesBetween RX4 8 A dsX D ad cA (EX A ad)) (hr : meth.sig.returnType = some .int) (sh : Nat) (hsh : isShop sh) (k24 : Int32 → Int32 → Int32 → Int32 → Int32 → Int32 → Mem → Option (Int32 × Mem)) (hk24 : ∀ (x1 : Int32) (x2 : Int32) (x3 : Int32) (x4 : Int32) (x5 : Int32) (x6 : Int32) (μ : Mem), T p l e (rmD 1) s m args below meth c 8 A dsX D ad cA enI (k24 x1 x2 x3 x4 x5 x6 μ) 24 [(0, .ref (ad sh)), (1, .int x1), (2, .int x2), (3, .int x3), (4, .int x4), (5, .int x5), (6, .int x6)] [] μ) (x1 : Int32) (x2 : Int32) (x3 : Int32) (x4 : Int32) (x6 : Int32) (z0 : Int32) (z1 : Int32) (z2 : Int32) (μ : Mem) : T p l e (rmD 1) s m args below meth c 8 A dsX D ad cA enI (fX4_minutesBetween_J76 sh k24 x1 x2 x3 x4 x6 z0 z1 z2 μ) 76 [(0, .ref (ad sh)), (1, .int x1), (2, .int x2), (3, .int x3), (4, .int x4), (6, .int x6)] [.int z2, .int z1, .int z0] μ := by
  unfold fX4_minutesBetween_J76
  refine tt_imul C dX4_minutesBetween_76 ?_
  refine tt_iadd C dX4_minutesBetween_77 ?_
  refine tt_lbi (fun y1 => ?_)
  refine tt_istore (L2 := [(5, .int y1), (0, .ref (ad sh)), (1, .int x1), (2, .int x2), (3, .int x3), (4, .int x4), (6, .int x6)]) C dX4_minutesBetween_78 (by decide) rfl ?_
  refine tt_iincB (d := (1 : Int32)) C 6 (fun y2 => [(6, .int y2), (5, .int y1), (0, .ref (ad sh)), (1, .int x1), (2, .int x2), (3, .int x3), (4, .int x4)]) dX4_minutesBetween_80 rfl (by decide) (by decide) (fun _ => rfl) (fun y2 => ?_)
  refine tt_goto (tgt := 24) C dX4_minutesBetween_83 (by decide) ?_
  refine tt_sub [2, 3, 4, 5, 6, 1, 0] (L2 := [(0, .ref (ad sh)), (1, .int x1), (2, .int x2), (3, .int x3), (4, .int x4), (5, .int y1), (6, .int y2)]) rfl ?_
  exact hk24 x1 x2 x3 x4 y1 y2 μ

def fX4_minutesBetween_J55 (sh : Nat) (k24 : Int32 → Int32 → Int32 → Int32 → Int32 → Int32 → Mem → Option (Int32 × Mem)) (x1 : Int32) (x2 : Int32) (x3 : Int32) (x4 : Int32) (x5 : Int32) (x6 : Int32) (z0 : Int32) (μ : Mem) : Option (Int32 × Mem) := bi (fX4_ofHouse sh x6 (0 : Int32) μ) fun v2 m1 => if z0 = (0 : Int32) then (fX4_minutesBetween_J76 sh k24 x1 x2 x3 x4 x6 x5 v2 (1 : Int32) m1) else (fX4_minutesBetween_J76 sh k24 x1 x2 x3 x4 x6 x5 v2 (2 : Int32) m1)
set_option maxHeartbeats 4000000 in
set_option maxRecDepth 100000 in
theorem wX4_minutesBetween_J55 {p : Program} {l : Launch} {e : Env} {s : State} {m : MethodId} {args : Array Value} {below : List Frame} {meth : Method} {c : Code} {A : Nat → Prop} {D : va_G} {ad : Nat → Nat} {cA : Nat → ClassId} (C : Cx p s m args meth c cX4_minutesBetween RX4 8 A dsX D ad cA (EX A ad)) (hr : meth.sig.returnType = some .int) (sh : Nat) (hsh : isShop sh) (k24 : Int32 → Int32 → Int32 → Int32 → Int32 → Int32 → Mem → Option (Int32 × Mem)) (hk24 : ∀ (x1 : Int32) (x2 : Int32) (x3 : Int32) (x4 : Int32) (x5 : Int32) (x6 : Int32) (μ : Mem), T p l e (rmD 1) s m args below meth c 8 A dsX D ad cA enI (k24 x1 x2 x3 x4 x5 x6 μ) 24 [(0, .ref (ad sh)), (1, .int x1), (2, .int x2), (3, .int x3), (4, .int x4), (5, .int x5), (6, .int x6)] [] μ) (x1 : Int32) (x2 : Int32) (x3 : Int32) (x4 : Int32) (x5 : Int32) (x6 : Int32) (z0 : Int32) (μ : Mem) : T p l e (rmD 1) s m args below meth c 8 A dsX D ad cA enI (fX4_minutesBetween_J55 sh k24 x1 x2 x3 x4 x5 x6 z0 μ) 55 [(0, .ref (ad sh)), (1, .int x1), (2, .int x2), (3, .int x3), (4, .int x4), (5, .int x5), (6, .int x6)] [.int z0] μ := by
  unfold fX4_minutesBetween_J55
  refine tt_istore (L2 := [(7, .int z0), (0, .ref (ad sh)), (1, .int x1), (2, .int x2), (3, .int x3), (4, .int x4), (5, .int x5), (6, .int x6)]) C dX4_minutesBetween_55 (by decide) rfl ?_
  refine tt_iload C 6 dX4_minutesBetween_57 rfl ?_
  refine tt_aload_n C 1 dX4_minutesBetween_59 rfl rfl ?_
  refine tt_iload C 7 dX4_minutesBetween_60 rfl ?_
  refine tt_iconst (v := (0 : Int32)) C dX4_minutesBetween_62 (by decide) ?_
  refine tt_bi (fun v2 m1 h1 => ?_)
  refine tt_callV (st := [.int x5]) (As := [.int x6, .int (0 : Int32)]) C (kX4_ofHouse C.2.2.2.2.2.2.2.1 sh hsh h1) mi_X4_ofHouse ml_RX4_55 mv_X4_ofHouse ms_X4_ofHouse (q := (RX4, TX4, 8)) hsh.1 rfl rfl (by decide) (by decide) (Nat.le_of_ble_eq_true rfl) dX4_minutesBetween_63 ?_
  refine tt_iload C 0 dX4_minutesBetween_66 rfl ?_
  refine tt_if (fun h2 => ?_) (fun h2 => ?_)
  · refine tt_if_eqT (tgt := 75) C h2 dX4_minutesBetween_68 (by decide) ?_
    refine tt_iconst (v := (1 : Int32)) C dX4_minutesBetween_75 (by decide) ?_
    refine tt_sub [1, 2, 3, 4, 5, 7] (L2 := [(0, .ref (ad sh)), (1, .int x1), (2, .int x2), (3, .int x3), (4, .int x4), (6, .int x6)]) rfl ?_
    exact wX4_minutesBetween_J76 C hr sh hsh k24 hk24 x1 x2 x3 x4 x6 x5 v2 (1 : Int32) m1
  · refine tt_if_eqF C 75 h2 dX4_minutesBetween_68 (by decide) ?_
    refine tt_iconst (v := (2 : Int32)) C dX4_minutesBetween_71 (by decide) ?_
    refine tt_goto (tgt := 76) C dX4_minutesBetween_72 (by decide) ?_
    refine tt_sub [1, 2, 3, 4, 5, 7] (L2 := [(0, .ref (ad sh)), (1, .int x1), (2, .int x2), (3, .int x3), (4, .int x4), (6, .int x6)]) rfl ?_
    exact wX4_minutesBetween_J76 C hr sh hsh k24 hk24 x1 x2 x3 x4 x6 x5 v2 (2 : Int32) m1

def fX4_minutesBetween_J54 (sh : Nat) (k24 : Int32 → Int32 → Int32 → Int32 → Int32 → Int32 → Mem → Option (Int32 × Mem)) (x1 : Int32) (x2 : Int32) (x3 : Int32) (x4 : Int32) (x5 : Int32) (x6 : Int32) (μ : Mem) : Option (Int32 × Mem) := fX4_minutesBetween_J55 sh k24 x1 x2 x3 x4 x5 x6 (0 : Int32) μ
set_option maxHeartbeats 4000000 in
set_option maxRecDepth 100000 in
theorem wX4_minutesBetween_J54 {p : Program} {l : Launch} {e : Env} {s : State} {m : MethodId} {args : Array Value} {below : List Frame} {meth : Method} {c : Code} {A : Nat → Prop} {D : va_G} {ad : Nat → Nat} {cA : Nat → ClassId} (C : Cx p s m args meth c cX4_minutesBetween RX4 8 A dsX D ad cA (EX A ad)) (hr : meth.sig.returnType = some .int) (sh : Nat) (hsh : isShop sh) (k24 : Int32 → Int32 → Int32 → Int32 → Int32 → Int32 → Mem → Option (Int32 × Mem)) (hk24 : ∀ (x1 : Int32) (x2 : Int32) (x3 : Int32) (x4 : Int32) (x5 : Int32) (x6 : Int32) (μ : Mem), T p l e (rmD 1) s m args below meth c 8 A dsX D ad cA enI (k24 x1 x2 x3 x4 x5 x6 μ) 24 [(0, .ref (ad sh)), (1, .int x1), (2, .int x2), (3, .int x3), (4, .int x4), (5, .int x5), (6, .int x6)] [] μ) (x1 : Int32) (x2 : Int32) (x3 : Int32) (x4 : Int32) (x5 : Int32) (x6 : Int32) (μ : Mem) : T p l e (rmD 1) s m args below meth c 8 A dsX D ad cA enI (fX4_minutesBetween_J54 sh k24 x1 x2 x3 x4 x5 x6 μ) 54 [(0, .ref (ad sh)), (1, .int x1), (2, .int x2), (3, .int x3), (4, .int x4), (5, .int x5), (6, .int x6)] [] μ := by
  unfold fX4_minutesBetween_J54
  refine tt_iconst (v := (0 : Int32)) C dX4_minutesBetween_54 (by decide) ?_
  refine tt_sub [0, 1, 2, 3, 4, 5, 6] (L2 := [(0, .ref (ad sh)), (1, .int x1), (2, .int x2), (3, .int x3), (4, .int x4), (5, .int x5), (6, .int x6)]) rfl ?_
  exact wX4_minutesBetween_J55 C hr sh hsh k24 hk24 x1 x2 x3 x4 x5 x6 (0 : Int32) μ

def fX4_minutesBetween_L24 (sh : Nat) : Nat → Int32 → Int32 → Int32 → Int32 → Int32 → Int32 → Mem → Option (Int32 × Mem)
  | 0, _, _, _, _, _, _, _ => none
  | fu + 1, x1, x2, x3, x4, x5, x6, μ => if (imax x1 x2) < x6 then (some (x5, μ)) else (if x3 = (0 : Int32) then (fX4_minutesBetween_J54 sh (fun x1 x2 x3 x4 x5 x6 μ => fX4_minutesBetween_L24 sh fu x1 x2 x3 x4 x5 x6 μ) x1 x2 x3 x4 x5 x6 μ) else (bi (fX4_ofHouse sh x6 (1 : Int32) μ) fun v2 m1 => if v2 = x4 then (fX4_minutesBetween_J55 sh (fun x1 x2 x3 x4 x5 x6 μ => fX4_minutesBetween_L24 sh fu x1 x2 x3 x4 x5 x6 μ) x1 x2 x3 x4 x5 x6 (1 : Int32) m1) else (fX4_minutesBetween_J54 sh (fun x1 x2 x3 x4 x5 x6 μ => fX4_minutesBetween_L24 sh fu x1 x2 x3 x4 x5 x6 μ) x1 x2 x3 x4 x5 x6 m1)))
set_option maxHeartbeats 4000000 in
set_option maxRecDepth 100000 in
theorem wX4_minutesBetween_L24 {p : Program} {l : Launch} {e : Env} {s : State} {m : MethodId} {args : Array Value} {below : List Frame} {meth : Method} {c : Code} {A : Nat → Prop} {D : va_G} {ad : Nat → Nat} {cA : Nat → ClassId} (C : Cx p s m args meth c cX4_minutesBetween RX4 8 A dsX D ad cA (EX A ad)) (hr : meth.sig.returnType = some .int) (sh : Nat) (hsh : isShop sh) : ∀ (fu : Nat) (x1 : Int32) (x2 : Int32) (x3 : Int32) (x4 : Int32) (x5 : Int32) (x6 : Int32) (μ : Mem), T p l e (rmD 1) s m args below meth c 8 A dsX D ad cA enI (fX4_minutesBetween_L24 sh fu x1 x2 x3 x4 x5 x6 μ) 24 [(0, .ref (ad sh)), (1, .int x1), (2, .int x2), (3, .int x3), (4, .int x4), (5, .int x5), (6, .int x6)] [] μ
  | 0, _, _, _, _, _, _, _ => tt_none
  | fu + 1, x1, x2, x3, x4, x5, x6, μ => by
    have ih := fun (x1 : Int32) (x2 : Int32) (x3 : Int32) (x4 : Int32) (x5 : Int32) (x6 : Int32) (μ : Mem) => wX4_minutesBetween_L24 (l := l) (e := e) (below := below) C hr sh hsh fu x1 x2 x3 x4 x5 x6 μ
    show T p l e (rmD 1) s m args below meth c 8 A dsX D ad cA enI (if (imax x1 x2) < x6 then (some (x5, μ)) else (if x3 = (0 : Int32) then (fX4_minutesBetween_J54 sh (fun x1 x2 x3 x4 x5 x6 μ => fX4_minutesBetween_L24 sh fu x1 x2 x3 x4 x5 x6 μ) x1 x2 x3 x4 x5 x6 μ) else (bi (fX4_ofHouse sh x6 (1 : Int32) μ) fun v2 m1 => if v2 = x4 then (fX4_minutesBetween_J55 sh (fun x1 x2 x3 x4 x5 x6 μ => fX4_minutesBetween_L24 sh fu x1 x2 x3 x4 x5 x6 μ) x1 x2 x3 x4 x5 x6 (1 : Int32) m1) else (fX4_minutesBetween_J54 sh (fun x1 x2 x3 x4 x5 x6 μ => fX4_minutesBetween_L24 sh fu x1 x2 x3 x4 x5 x6 μ) x1 x2 x3 x4 x5 x6 m1)))) 24 [(0, .ref (ad sh)), (1, .int x1), (2, .int x2), (3, .int x3), (4, .int x4), (5, .int x5), (6, .int x6)] [] μ
    refine tt_iload C 6 dX4_minutesBetween_24 rfl ?_
    refine tt_iload_n C 1 dX4_minutesBetween_26 rfl rfl ?_
    refine tt_iload_n C 2 dX4_minutesBetween_27 rfl rfl ?_
    refine tt_mmax (st := [.int x6]) C mm_RX4_52 (by decide) (by decide) (Nat.le_of_ble_eq_true rfl) dX4_minutesBetween_28 ?_
    refine tt_if (fun h1 => ?_) (fun h1 => ?_)
    · refine tt_icmp_gtT (tgt := 86) C h1 dX4_minutesBetween_31 (by decide) ?_
      refine tt_iload C 5 dX4_minutesBetween_86 rfl ?_
      exact tt_iret rfl C hr dX4_minutesBetween_88
    · refine tt_icmp_gtF C 86 h1 dX4_minutesBetween_31 (by decide) ?_
      refine tt_iload_n C 3 dX4_minutesBetween_34 rfl rfl ?_
      refine tt_if (fun h2 => ?_) (fun h2 => ?_)
      · refine tt_if_eqT (tgt := 54) C h2 dX4_minutesBetween_35 (by decide) ?_
        refine tt_sub [0, 1, 2, 3, 4, 5, 6] (L2 := [(0, .ref (ad sh)), (1, .int x1), (2, .int x2), (3, .int x3), (4, .int x4), (5, .int x5), (6, .int x6)]) rfl ?_
        exact wX4_minutesBetween_J54 C hr sh hsh (fun x1 x2 x3 x4 x5 x6 μ => fX4_minutesBetween_L24 sh fu x1 x2 x3 x4 x5 x6 μ) (fun x1 x2 x3 x4 x5 x6 μ => ih x1 x2 x3 x4 x5 x6 μ) x1 x2 x3 x4 x5 x6 μ
      · refine tt_if_eqF C 54 h2 dX4_minutesBetween_35 (by decide) ?_
        refine tt_aload_n C 0 dX4_minutesBetween_38 rfl rfl ?_
        refine tt_iload C 6 dX4_minutesBetween_39 rfl ?_
        refine tt_iconst (v := (1 : Int32)) C dX4_minutesBetween_41 (by decide) ?_
        refine tt_bi (fun v2 m1 h3 => ?_)
        refine tt_callV (st := []) (As := [.int x6, .int (1 : Int32)]) C (kX4_ofHouse C.2.2.2.2.2.2.2.1 sh hsh h3) mi_X4_ofHouse ml_RX4_55 mv_X4_ofHouse ms_X4_ofHouse (q := (RX4, TX4, 8)) hsh.1 rfl rfl (by decide) (by decide) (Nat.le_of_ble_eq_true rfl) dX4_minutesBetween_42 ?_
        refine tt_iload C 4 dX4_minutesBetween_45 rfl ?_
        refine tt_if (fun h4 => ?_) (fun h4 => ?_)
        · refine tt_icmp_neF C 54 h4 dX4_minutesBetween_47 (by decide) ?_
          refine tt_iconst (v := (1 : Int32)) C dX4_minutesBetween_50 (by decide) ?_
          refine tt_goto (tgt := 55) C dX4_minutesBetween_51 (by decide) ?_
          refine tt_sub [0, 1, 2, 3, 4, 5, 6] (L2 := [(0, .ref (ad sh)), (1, .int x1), (2, .int x2), (3, .int x3), (4, .int x4), (5, .int x5), (6, .int x6)]) rfl ?_
          exact wX4_minutesBetween_J55 C hr sh hsh (fun x1 x2 x3 x4 x5 x6 μ => fX4_minutesBetween_L24 sh fu x1 x2 x3 x4 x5 x6 μ) (fun x1 x2 x3 x4 x5 x6 μ => ih x1 x2 x3 x4 x5 x6 μ) x1 x2 x3 x4 x5 x6 (1 : Int32) m1
        · refine tt_icmp_neT (tgt := 54) C h4 dX4_minutesBetween_47 (by decide) ?_
          refine tt_sub [0, 1, 2, 3, 4, 5, 6] (L2 := [(0, .ref (ad sh)), (1, .int x1), (2, .int x2), (3, .int x3), (4, .int x4), (5, .int x5), (6, .int x6)]) rfl ?_
          exact wX4_minutesBetween_J54 C hr sh hsh (fun x1 x2 x3 x4 x5 x6 μ => fX4_minutesBetween_L24 sh fu x1 x2 x3 x4 x5 x6 μ) (fun x1 x2 x3 x4 x5 x6 μ => ih x1 x2 x3 x4 x5 x6 μ) x1 x2 x3 x4 x5 x6 m1

def fX4_minutesBetween_J10 (sh : Nat) (x1 : Int32) (x2 : Int32) (x3 : Int32) (z0 : Int32) (μ : Mem) : Option (Int32 × Mem) := lb (0 : Int32) fun (y1 : Int32) => lb ((imin x1 x2) + (1 : Int32)) fun (y2 : Int32) => fX4_minutesBetween_L24 sh FU x1 x2 x3 z0 y1 y2 μ
set_option maxHeartbeats 4000000 in
set_option maxRecDepth 100000 in
theorem wX4_minutesBetween_J10 {p : Program} {l : Launch} {e : Env} {s : State} {m : MethodId} {args : Array Value} {below : List Frame} {meth : Method} {c : Code} {A : Nat → Prop} {D : va_G} {ad : Nat → Nat} {cA : Nat → ClassId} (C : Cx p s m args meth c cX4_minutesBetween RX4 8 A dsX D ad cA (EX A ad)) (hr : meth.sig.returnType = some .int) (sh : Nat) (hsh : isShop sh) (x1 : Int32) (x2 : Int32) (x3 : Int32) (z0 : Int32) (μ : Mem) : T p l e (rmD 1) s m args below meth c 8 A dsX D ad cA enI (fX4_minutesBetween_J10 sh x1 x2 x3 z0 μ) 10 [(0, .ref (ad sh)), (1, .int x1), (2, .int x2), (3, .int x3)] [.int z0] μ := by
  unfold fX4_minutesBetween_J10
  refine tt_istore (L2 := [(4, .int z0), (0, .ref (ad sh)), (1, .int x1), (2, .int x2), (3, .int x3)]) C dX4_minutesBetween_10 (by decide) rfl ?_
  refine tt_iconst (v := (0 : Int32)) C dX4_minutesBetween_12 (by decide) ?_
  refine tt_lbi (fun y1 => ?_)
  refine tt_istore (L2 := [(5, .int y1), (4, .int z0), (0, .ref (ad sh)), (1, .int x1), (2, .int x2), (3, .int x3)]) C dX4_minutesBetween_13 (by decide) rfl ?_
  refine tt_iload_n C 3 dX4_minutesBetween_15 rfl rfl ?_
  refine tt_iload_n C 4 dX4_minutesBetween_16 rfl rfl ?_
  refine tt_mmin (st := []) C mm_RX4_47 (by decide) (by decide) (Nat.le_of_ble_eq_true rfl) dX4_minutesBetween_17 ?_
  refine tt_iconst (v := (1 : Int32)) C dX4_minutesBetween_20 (by decide) ?_
  refine tt_iadd C dX4_minutesBetween_21 ?_
  refine tt_lbi (fun y2 => ?_)
  refine tt_istore (L2 := [(6, .int y2), (5, .int y1), (4, .int z0), (0, .ref (ad sh)), (1, .int x1), (2, .int x2), (3, .int x3)]) C dX4_minutesBetween_22 (by decide) rfl ?_
  refine tt_sub [3, 4, 5, 6, 2, 1, 0] (L2 := [(0, .ref (ad sh)), (1, .int x1), (2, .int x2), (3, .int x3), (4, .int z0), (5, .int y1), (6, .int y2)]) rfl ?_
  exact wX4_minutesBetween_L24 C hr sh hsh FU x1 x2 x3 z0 y1 y2 μ

def fX4_minutesBetween (sh : Nat) (x1 : Int32) (x2 : Int32) (x3 : Int32) (μ : Mem) : Option (Int32 × Mem) := if x2 ≤ x1 then (fX4_minutesBetween_J10 sh x1 x2 x3 (2 : Int32) μ) else (fX4_minutesBetween_J10 sh x1 x2 x3 (1 : Int32) μ)
set_option maxHeartbeats 4000000 in
set_option maxRecDepth 100000 in
theorem wX4_minutesBetween {p : Program} {l : Launch} {e : Env} {s : State} {m : MethodId} {args : Array Value} {below : List Frame} {meth : Method} {c : Code} {A : Nat → Prop} {D : va_G} {ad : Nat → Nat} {cA : Nat → ClassId} (C : Cx p s m args meth c cX4_minutesBetween RX4 8 A dsX D ad cA (EX A ad)) (hr : meth.sig.returnType = some .int) (sh : Nat) (hsh : isShop sh) (x1 : Int32) (x2 : Int32) (x3 : Int32) (μ : Mem) : T p l e (rmD 1) s m args below meth c 8 A dsX D ad cA enI (fX4_minutesBetween sh x1 x2 x3 μ) 0 [(0, .ref (ad sh)), (1, .int x1), (2, .int x2), (3, .int x3)] [] μ := by
  unfold fX4_minutesBetween
  refine tt_iload_n C 1 dX4_minutesBetween_0 rfl rfl ?_
  refine tt_iload_n C 2 dX4_minutesBetween_1 rfl rfl ?_
  refine tt_if (fun h1 => ?_) (fun h1 => ?_)
  · refine tt_icmp_geT (tgt := 9) C h1 dX4_minutesBetween_2 (by decide) ?_
    refine tt_iconst (v := (2 : Int32)) C dX4_minutesBetween_9 (by decide) ?_
    refine tt_sub [0, 1, 2, 3] (L2 := [(0, .ref (ad sh)), (1, .int x1), (2, .int x2), (3, .int x3)]) rfl ?_
    exact wX4_minutesBetween_J10 C hr sh hsh x1 x2 x3 (2 : Int32) μ
  · refine tt_icmp_geF C 9 h1 dX4_minutesBetween_2 (by decide) ?_
    refine tt_iconst (v := (1 : Int32)) C dX4_minutesBetween_5 (by decide) ?_
    refine tt_goto (tgt := 10) C dX4_minutesBetween_6 (by decide) ?_
    refine tt_sub [0, 1, 2, 3] (L2 := [(0, .ref (ad sh)), (1, .int x1), (2, .int x2), (3, .int x3)]) rfl ?_
    exact wX4_minutesBetween_J10 C hr sh hsh x1 x2 x3 (1 : Int32) μ
theorem kX4_minutesBetween {l : Launch} {A : Nat → Prop} {D : va_G} {ad : Nat → Nat} {cA : Nat → ClassId} (hPk : Pk A dsX ad cA (EX A ad)) (sh : Nat) (hsh : isShop sh) {x1 : Int32} {x2 : Int32} {x3 : Int32} {μ : Mem} {v : Int32} {ν : Mem} (h : fX4_minutesBetween sh x1 x2 x3 μ = some (v, ν)) : Ct l A dsX D ad cA (EX A ad) yX4_minutesBetween cX4_minutesBetween 8 (some .int) 1 [.ref (ad sh), .int x1, .int x2, .int x3] μ (enI (v, ν)) :=
  ct_of (by decide) (Nat.le_of_ble_eq_true rfl) hPk rfl (fun p e s m args below meth c C hr => wX4_minutesBetween C hr sh hsh x1 x2 x3 μ) h

/-! BasketRound$Shop.penniesOf(I)I -/
def fX4_penniesOf_J30 (sh : Nat) (k4 : Int32 → Int32 → Int32 → Mem → Option (Int32 × Mem)) (x1 : Int32) (x2 : Int32) (x3 : Int32) (μ : Mem) : Option (Int32 × Mem) := lb (x3 + (1 : Int32)) fun (y1 : Int32) => k4 x1 x2 y1 μ
set_option maxHeartbeats 4000000 in
set_option maxRecDepth 100000 in
theorem wX4_penniesOf_J30 {p : Program} {l : Launch} {e : Env} {s : State} {m : MethodId} {args : Array Value} {below : List Frame} {meth : Method} {c : Code} {A : Nat → Prop} {D : va_G} {ad : Nat → Nat} {cA : Nat → ClassId} (C : Cx p s m args meth c cX4_penniesOf RX4 4 A dsX D ad cA (EX A ad)) (hr : meth.sig.returnType = some .int) (sh : Nat) (hsh : isShop sh) (k4 : Int32 → Int32 → Int32 → Mem → Option (Int32 × Mem)) (hk4 : ∀ (x1 : Int32) (x2 : Int32) (x3 : Int32) (μ : Mem), T p l e (rmD 1) s m args below meth c 4 A dsX D ad cA enI (k4 x1 x2 x3 μ) 4 [(0, .ref (ad sh)), (1, .int x1), (2, .int x2), (3, .int x3)] [] μ) (x1 : Int32) (x2 : Int32) (x3 : Int32) (μ : Mem) : T p l e (rmD 1) s m args below meth c 4 A dsX D ad cA enI (fX4_penniesOf_J30 sh k4 x1 x2 x3 μ) 30 [(0, .ref (ad sh)), (1, .int x1), (2, .int x2), (3, .int x3)] [] μ := by
  unfold fX4_penniesOf_J30
  refine tt_iincB (d := (1 : Int32)) C 3 (fun y1 => [(3, .int y1), (0, .ref (ad sh)), (1, .int x1), (2, .int x2)]) dX4_penniesOf_30 rfl (by decide) (by decide) (fun _ => rfl) (fun y1 => ?_)
  refine tt_goto (tgt := 4) C dX4_penniesOf_33 (by decide) ?_
  refine tt_sub [1, 2, 3, 0] (L2 := [(0, .ref (ad sh)), (1, .int x1), (2, .int x2), (3, .int y1)]) rfl ?_
  exact hk4 x1 x2 y1 μ

def fX4_penniesOf_L4 (sh : Nat) : Nat → Int32 → Int32 → Int32 → Mem → Option (Int32 × Mem)
  | 0, _, _, _, _ => none
  | fu + 1, x1, x2, x3, μ => if (μ sh 5) ≤ x3 then (some (x2, μ)) else (if ((x1 >>> (x3 &&& 31)) &&& (1 : Int32)) = (1 : Int32) then (bi (fX4_ofOrder sh x3 (3 : Int32) μ) fun v2 m1 => lb (x2 + v2) fun (y3 : Int32) => fX4_penniesOf_J30 sh (fun x1 x2 x3 μ => fX4_penniesOf_L4 sh fu x1 x2 x3 μ) x1 y3 x3 m1) else (fX4_penniesOf_J30 sh (fun x1 x2 x3 μ => fX4_penniesOf_L4 sh fu x1 x2 x3 μ) x1 x2 x3 μ))
set_option maxHeartbeats 4000000 in
set_option maxRecDepth 100000 in
theorem wX4_penniesOf_L4 {p : Program} {l : Launch} {e : Env} {s : State} {m : MethodId} {args : Array Value} {below : List Frame} {meth : Method} {c : Code} {A : Nat → Prop} {D : va_G} {ad : Nat → Nat} {cA : Nat → ClassId} (C : Cx p s m args meth c cX4_penniesOf RX4 4 A dsX D ad cA (EX A ad)) (hr : meth.sig.returnType = some .int) (sh : Nat) (hsh : isShop sh) : ∀ (fu : Nat) (x1 : Int32) (x2 : Int32) (x3 : Int32) (μ : Mem), T p l e (rmD 1) s m args below meth c 4 A dsX D ad cA enI (fX4_penniesOf_L4 sh fu x1 x2 x3 μ) 4 [(0, .ref (ad sh)), (1, .int x1), (2, .int x2), (3, .int x3)] [] μ
  | 0, _, _, _, _ => tt_none
  | fu + 1, x1, x2, x3, μ => by
    have ih := fun (x1 : Int32) (x2 : Int32) (x3 : Int32) (μ : Mem) => wX4_penniesOf_L4 (l := l) (e := e) (below := below) C hr sh hsh fu x1 x2 x3 μ
    show T p l e (rmD 1) s m args below meth c 4 A dsX D ad cA enI (if (μ sh 5) ≤ x3 then (some (x2, μ)) else (if ((x1 >>> (x3 &&& 31)) &&& (1 : Int32)) = (1 : Int32) then (bi (fX4_ofOrder sh x3 (3 : Int32) μ) fun v2 m1 => lb (x2 + v2) fun (y3 : Int32) => fX4_penniesOf_J30 sh (fun x1 x2 x3 μ => fX4_penniesOf_L4 sh fu x1 x2 x3 μ) x1 y3 x3 m1) else (fX4_penniesOf_J30 sh (fun x1 x2 x3 μ => fX4_penniesOf_L4 sh fu x1 x2 x3 μ) x1 x2 x3 μ))) 4 [(0, .ref (ad sh)), (1, .int x1), (2, .int x2), (3, .int x3)] [] μ
    refine tt_iload_n C 3 dX4_penniesOf_4 rfl rfl ?_
    refine tt_aload_n C 0 dX4_penniesOf_5 rfl rfl ?_
    refine tt_getI C (j := 5) hsh.1 rfl fl_RX4_31 dX4_penniesOf_6 ?_
    refine tt_if (fun h1 => ?_) (fun h1 => ?_)
    · refine tt_icmp_geT (tgt := 36) C h1 dX4_penniesOf_9 (by decide) ?_
      refine tt_iload_n C 2 dX4_penniesOf_36 rfl rfl ?_
      exact tt_iret rfl C hr dX4_penniesOf_37
    · refine tt_icmp_geF C 36 h1 dX4_penniesOf_9 (by decide) ?_
      refine tt_iload_n C 1 dX4_penniesOf_12 rfl rfl ?_
      refine tt_iload_n C 3 dX4_penniesOf_13 rfl rfl ?_
      refine tt_ishr C dX4_penniesOf_14 ?_
      refine tt_iconst (v := (1 : Int32)) C dX4_penniesOf_15 (by decide) ?_
      refine tt_iand C dX4_penniesOf_16 ?_
      refine tt_iconst (v := (1 : Int32)) C dX4_penniesOf_17 (by decide) ?_
      refine tt_if (fun h2 => ?_) (fun h2 => ?_)
      · refine tt_icmp_neF C 30 h2 dX4_penniesOf_18 (by decide) ?_
        refine tt_iload_n C 2 dX4_penniesOf_21 rfl rfl ?_
        refine tt_aload_n C 0 dX4_penniesOf_22 rfl rfl ?_
        refine tt_iload_n C 3 dX4_penniesOf_23 rfl rfl ?_
        refine tt_iconst (v := (3 : Int32)) C dX4_penniesOf_24 (by decide) ?_
        refine tt_bi (fun v2 m1 h3 => ?_)
        refine tt_callV (st := [.int x2]) (As := [.int x3, .int (3 : Int32)]) C (kX4_ofOrder C.2.2.2.2.2.2.2.1 sh hsh h3) mi_X4_ofOrder ml_RX4_43 mv_X4_ofOrder ms_X4_ofOrder (q := (RX4, TX4, 8)) hsh.1 rfl rfl (by decide) (by decide) (Nat.le_of_ble_eq_true rfl) dX4_penniesOf_25 ?_
        refine tt_iadd C dX4_penniesOf_28 ?_
        refine tt_lbi (fun y3 => ?_)
        refine tt_istore_n (L2 := [(2, .int y3), (0, .ref (ad sh)), (1, .int x1), (3, .int x3)]) C dX4_penniesOf_29 rfl (by decide) rfl ?_
        refine tt_sub [1, 2, 0, 3] (L2 := [(0, .ref (ad sh)), (1, .int x1), (2, .int y3), (3, .int x3)]) rfl ?_
        exact wX4_penniesOf_J30 C hr sh hsh (fun x1 x2 x3 μ => fX4_penniesOf_L4 sh fu x1 x2 x3 μ) (fun x1 x2 x3 μ => ih x1 x2 x3 μ) x1 y3 x3 m1
      · refine tt_icmp_neT (tgt := 30) C h2 dX4_penniesOf_18 (by decide) ?_
        refine tt_sub [0, 1, 2, 3] (L2 := [(0, .ref (ad sh)), (1, .int x1), (2, .int x2), (3, .int x3)]) rfl ?_
        exact wX4_penniesOf_J30 C hr sh hsh (fun x1 x2 x3 μ => fX4_penniesOf_L4 sh fu x1 x2 x3 μ) (fun x1 x2 x3 μ => ih x1 x2 x3 μ) x1 x2 x3 μ

def fX4_penniesOf (sh : Nat) (x1 : Int32) (μ : Mem) : Option (Int32 × Mem) := lb (0 : Int32) fun (y1 : Int32) => lb (0 : Int32) fun (y2 : Int32) => fX4_penniesOf_L4 sh FU x1 y1 y2 μ
set_option maxHeartbeats 4000000 in
set_option maxRecDepth 100000 in
theorem wX4_penniesOf {p : Program} {l : Launch} {e : Env} {s : State} {m : MethodId} {args : Array Value} {below : List Frame} {meth : Method} {c : Code} {A : Nat → Prop} {D : va_G} {ad : Nat → Nat} {cA : Nat → ClassId} (C : Cx p s m args meth c cX4_penniesOf RX4 4 A dsX D ad cA (EX A ad)) (hr : meth.sig.returnType = some .int) (sh : Nat) (hsh : isShop sh) (x1 : Int32) (μ : Mem) : T p l e (rmD 1) s m args below meth c 4 A dsX D ad cA enI (fX4_penniesOf sh x1 μ) 0 [(0, .ref (ad sh)), (1, .int x1)] [] μ := by
  unfold fX4_penniesOf
  refine tt_iconst (v := (0 : Int32)) C dX4_penniesOf_0 (by decide) ?_
  refine tt_lbi (fun y1 => ?_)
  refine tt_istore_n (L2 := [(2, .int y1), (0, .ref (ad sh)), (1, .int x1)]) C dX4_penniesOf_1 rfl (by decide) rfl ?_
  refine tt_iconst (v := (0 : Int32)) C dX4_penniesOf_2 (by decide) ?_
  refine tt_lbi (fun y2 => ?_)
  refine tt_istore_n (L2 := [(3, .int y2), (2, .int y1), (0, .ref (ad sh)), (1, .int x1)]) C dX4_penniesOf_3 rfl (by decide) rfl ?_
  refine tt_sub [2, 3, 1, 0] (L2 := [(0, .ref (ad sh)), (1, .int x1), (2, .int y1), (3, .int y2)]) rfl ?_
  exact wX4_penniesOf_L4 C hr sh hsh FU x1 y1 y2 μ
theorem kX4_penniesOf {l : Launch} {A : Nat → Prop} {D : va_G} {ad : Nat → Nat} {cA : Nat → ClassId} (hPk : Pk A dsX ad cA (EX A ad)) (sh : Nat) (hsh : isShop sh) {x1 : Int32} {μ : Mem} {v : Int32} {ν : Mem} (h : fX4_penniesOf sh x1 μ = some (v, ν)) : Ct l A dsX D ad cA (EX A ad) yX4_penniesOf cX4_penniesOf 4 (some .int) 1 [.ref (ad sh), .int x1] μ (enI (v, ν)) :=
  ct_of (by decide) (Nat.le_of_ble_eq_true rfl) hPk rfl (fun p e s m args below meth c C hr => wX4_penniesOf C hr sh hsh x1 μ) h

/-! BasketRound$Shop.sum(I)I -/
def fX4_sum_L4 (sh : Nat) : Nat → Int32 → Int32 → Int32 → Mem → Option (Int32 × Mem)
  | 0, _, _, _, _ => none
  | fu + 1, x1, x2, x3, μ => if (μ sh 5) ≤ x3 then (some (x2, μ)) else (bi (fX4_ofOrder sh x3 x1 μ) fun v2 m1 => lb (x2 + v2) fun (y3 : Int32) => lb (x3 + (1 : Int32)) fun (y4 : Int32) => fX4_sum_L4 sh fu x1 y3 y4 m1)
set_option maxHeartbeats 4000000 in
set_option maxRecDepth 100000 in
theorem wX4_sum_L4 {p : Program} {l : Launch} {e : Env} {s : State} {m : MethodId} {args : Array Value} {below : List Frame} {meth : Method} {c : Code} {A : Nat → Prop} {D : va_G} {ad : Nat → Nat} {cA : Nat → ClassId} (C : Cx p s m args meth c cX4_sum RX4 4 A dsX D ad cA (EX A ad)) (hr : meth.sig.returnType = some .int) (sh : Nat) (hsh : isShop sh) : ∀ (fu : Nat) (x1 : Int32) (x2 : Int32) (x3 : Int32) (μ : Mem), T p l e (rmD 1) s m args below meth c 4 A dsX D ad cA enI (fX4_sum_L4 sh fu x1 x2 x3 μ) 4 [(0, .ref (ad sh)), (1, .int x1), (2, .int x2), (3, .int x3)] [] μ
  | 0, _, _, _, _ => tt_none
  | fu + 1, x1, x2, x3, μ => by
    have ih := fun (x1 : Int32) (x2 : Int32) (x3 : Int32) (μ : Mem) => wX4_sum_L4 (l := l) (e := e) (below := below) C hr sh hsh fu x1 x2 x3 μ
    show T p l e (rmD 1) s m args below meth c 4 A dsX D ad cA enI (if (μ sh 5) ≤ x3 then (some (x2, μ)) else (bi (fX4_ofOrder sh x3 x1 μ) fun v2 m1 => lb (x2 + v2) fun (y3 : Int32) => lb (x3 + (1 : Int32)) fun (y4 : Int32) => fX4_sum_L4 sh fu x1 y3 y4 m1)) 4 [(0, .ref (ad sh)), (1, .int x1), (2, .int x2), (3, .int x3)] [] μ
    refine tt_iload_n C 3 dX4_sum_4 rfl rfl ?_
    refine tt_aload_n C 0 dX4_sum_5 rfl rfl ?_
    refine tt_getI C (j := 5) hsh.1 rfl fl_RX4_31 dX4_sum_6 ?_
    refine tt_if (fun h1 => ?_) (fun h1 => ?_)
    · refine tt_icmp_geT (tgt := 27) C h1 dX4_sum_9 (by decide) ?_
      refine tt_iload_n C 2 dX4_sum_27 rfl rfl ?_
      exact tt_iret rfl C hr dX4_sum_28
    · refine tt_icmp_geF C 27 h1 dX4_sum_9 (by decide) ?_
      refine tt_iload_n C 2 dX4_sum_12 rfl rfl ?_
      refine tt_aload_n C 0 dX4_sum_13 rfl rfl ?_
      refine tt_iload_n C 3 dX4_sum_14 rfl rfl ?_
      refine tt_iload_n C 1 dX4_sum_15 rfl rfl ?_
      refine tt_bi (fun v2 m1 h2 => ?_)
      refine tt_callV (st := [.int x2]) (As := [.int x3, .int x1]) C (kX4_ofOrder C.2.2.2.2.2.2.2.1 sh hsh h2) mi_X4_ofOrder ml_RX4_43 mv_X4_ofOrder ms_X4_ofOrder (q := (RX4, TX4, 8)) hsh.1 rfl rfl (by decide) (by decide) (Nat.le_of_ble_eq_true rfl) dX4_sum_16 ?_
      refine tt_iadd C dX4_sum_19 ?_
      refine tt_lbi (fun y3 => ?_)
      refine tt_istore_n (L2 := [(2, .int y3), (0, .ref (ad sh)), (1, .int x1), (3, .int x3)]) C dX4_sum_20 rfl (by decide) rfl ?_
      refine tt_iincB (d := (1 : Int32)) C 3 (fun y4 => [(3, .int y4), (2, .int y3), (0, .ref (ad sh)), (1, .int x1)]) dX4_sum_21 rfl (by decide) (by decide) (fun _ => rfl) (fun y4 => ?_)
      refine tt_goto (tgt := 4) C dX4_sum_24 (by decide) ?_
      refine tt_sub [2, 3, 1, 0] (L2 := [(0, .ref (ad sh)), (1, .int x1), (2, .int y3), (3, .int y4)]) rfl ?_
      exact ih x1 y3 y4 m1

def fX4_sum (sh : Nat) (x1 : Int32) (μ : Mem) : Option (Int32 × Mem) := lb (0 : Int32) fun (y1 : Int32) => lb (0 : Int32) fun (y2 : Int32) => fX4_sum_L4 sh FU x1 y1 y2 μ
set_option maxHeartbeats 4000000 in
set_option maxRecDepth 100000 in
theorem wX4_sum {p : Program} {l : Launch} {e : Env} {s : State} {m : MethodId} {args : Array Value} {below : List Frame} {meth : Method} {c : Code} {A : Nat → Prop} {D : va_G} {ad : Nat → Nat} {cA : Nat → ClassId} (C : Cx p s m args meth c cX4_sum RX4 4 A dsX D ad cA (EX A ad)) (hr : meth.sig.returnType = some .int) (sh : Nat) (hsh : isShop sh) (x1 : Int32) (μ : Mem) : T p l e (rmD 1) s m args below meth c 4 A dsX D ad cA enI (fX4_sum sh x1 μ) 0 [(0, .ref (ad sh)), (1, .int x1)] [] μ := by
  unfold fX4_sum
  refine tt_iconst (v := (0 : Int32)) C dX4_sum_0 (by decide) ?_
  refine tt_lbi (fun y1 => ?_)
  refine tt_istore_n (L2 := [(2, .int y1), (0, .ref (ad sh)), (1, .int x1)]) C dX4_sum_1 rfl (by decide) rfl ?_
  refine tt_iconst (v := (0 : Int32)) C dX4_sum_2 (by decide) ?_
  refine tt_lbi (fun y2 => ?_)
  refine tt_istore_n (L2 := [(3, .int y2), (2, .int y1), (0, .ref (ad sh)), (1, .int x1)]) C dX4_sum_3 rfl (by decide) rfl ?_
  refine tt_sub [2, 3, 1, 0] (L2 := [(0, .ref (ad sh)), (1, .int x1), (2, .int y1), (3, .int y2)]) rfl ?_
  exact wX4_sum_L4 C hr sh hsh FU x1 y1 y2 μ
theorem kX4_sum {l : Launch} {A : Nat → Prop} {D : va_G} {ad : Nat → Nat} {cA : Nat → ClassId} (hPk : Pk A dsX ad cA (EX A ad)) (sh : Nat) (hsh : isShop sh) {x1 : Int32} {μ : Mem} {v : Int32} {ν : Mem} (h : fX4_sum sh x1 μ = some (v, ν)) : Ct l A dsX D ad cA (EX A ad) yX4_sum cX4_sum 4 (some .int) 1 [.ref (ad sh), .int x1] μ (enI (v, ν)) :=
  ct_of (by decide) (Nat.le_of_ble_eq_true rfl) hPk rfl (fun p e s m args below meth c C hr => wX4_sum C hr sh hsh x1 μ) h

/-! BasketRound$Trip.paidBits()I -/
def fX6_paidBits_L4 : Nat → Int32 → Int32 → Mem → Option (Int32 × Mem)
  | 0, _, _, _ => none
  | fu + 1, x1, x2, μ => if (μ 24 6) ≤ x2 then (some (((x1 &&& ((μ 24 14) ^^^ (-1 : Int32))) &&& ((μ 24 15) ^^^ (-1 : Int32))), μ)) else (gr x2 5 <| lb (x1 ||| ((1 : Int32) <<< ((μ 25 x2.toNatClampNeg) &&& 31))) fun (y1 : Int32) => lb (x2 + (1 : Int32)) fun (y2 : Int32) => fX6_paidBits_L4 fu y1 y2 μ)
set_option maxHeartbeats 4000000 in
set_option maxRecDepth 100000 in
theorem wX6_paidBits_L4 {p : Program} {l : Launch} {e : Env} {s : State} {m : MethodId} {args : Array Value} {below : List Frame} {meth : Method} {c : Code} {A : Nat → Prop} {D : va_G} {ad : Nat → Nat} {cA : Nat → ClassId} (C : Cx p s m args meth c cX6_paidBits RX6 3 A dsX D ad cA (EX A ad)) (hr : meth.sig.returnType = some .int) : ∀ (fu : Nat) (x1 : Int32) (x2 : Int32) (μ : Mem), T p l e (rmD 0) s m args below meth c 3 A dsX D ad cA enI (fX6_paidBits_L4 fu x1 x2 μ) 4 [(0, .ref (ad 24)), (1, .int x1), (2, .int x2)] [] μ
  | 0, _, _, _ => tt_none
  | fu + 1, x1, x2, μ => by
    have ih := fun (x1 : Int32) (x2 : Int32) (μ : Mem) => wX6_paidBits_L4 (l := l) (e := e) (below := below) C hr fu x1 x2 μ
    show T p l e (rmD 0) s m args below meth c 3 A dsX D ad cA enI (if (μ 24 6) ≤ x2 then (some (((x1 &&& ((μ 24 14) ^^^ (-1 : Int32))) &&& ((μ 24 15) ^^^ (-1 : Int32))), μ)) else (gr x2 5 <| lb (x1 ||| ((1 : Int32) <<< ((μ 25 x2.toNatClampNeg) &&& 31))) fun (y1 : Int32) => lb (x2 + (1 : Int32)) fun (y2 : Int32) => fX6_paidBits_L4 fu y1 y2 μ)) 4 [(0, .ref (ad 24)), (1, .int x1), (2, .int x2)] [] μ
    refine tt_iload_n C 2 dX6_paidBits_4 rfl rfl ?_
    refine tt_aload_n C 0 dX6_paidBits_5 rfl rfl ?_
    refine tt_getI C (j := 6) dX_24 rfl fl_RX6_48 dX6_paidBits_6 ?_
    refine tt_if (fun h1 => ?_) (fun h1 => ?_)
    · refine tt_icmp_geT (tgt := 29) C h1 dX6_paidBits_9 (by decide) ?_
      refine tt_iload_n C 1 dX6_paidBits_29 rfl rfl ?_
      refine tt_aload_n C 0 dX6_paidBits_30 rfl rfl ?_
      refine tt_getI C (j := 14) dX_24 rfl fl_RX6_83 dX6_paidBits_31 ?_
      refine tt_iconst (v := (-1 : Int32)) C dX6_paidBits_34 (by decide) ?_
      refine tt_ixor C dX6_paidBits_35 ?_
      refine tt_iand C dX6_paidBits_36 ?_
      refine tt_aload_n C 0 dX6_paidBits_37 rfl rfl ?_
      refine tt_getI C (j := 15) dX_24 rfl fl_RX6_86 dX6_paidBits_38 ?_
      refine tt_iconst (v := (-1 : Int32)) C dX6_paidBits_41 (by decide) ?_
      refine tt_ixor C dX6_paidBits_42 ?_
      refine tt_iand C dX6_paidBits_43 ?_
      exact tt_iret rfl C hr dX6_paidBits_44
    · refine tt_icmp_geF C 29 h1 dX6_paidBits_9 (by decide) ?_
      refine tt_iload_n C 1 dX6_paidBits_12 rfl rfl ?_
      refine tt_iconst (v := (1 : Int32)) C dX6_paidBits_13 (by decide) ?_
      refine tt_aload_n C 0 dX6_paidBits_14 rfl rfl ?_
      refine tt_getR C (j := 1) (r0 := 25) dX_24 rfl fl_RX6_9 dX6_paidBits_15 ?_
      refine tt_iload_n C 2 dX6_paidBits_18 rfl rfl ?_
      refine tt_gr (fun h2 => ?_)
      refine tt_iald C dX_25 h2 dX6_paidBits_19 ?_
      refine tt_ishl C dX6_paidBits_20 ?_
      refine tt_ior C dX6_paidBits_21 ?_
      refine tt_lbi (fun y1 => ?_)
      refine tt_istore_n (L2 := [(1, .int y1), (0, .ref (ad 24)), (2, .int x2)]) C dX6_paidBits_22 rfl (by decide) rfl ?_
      refine tt_iincB (d := (1 : Int32)) C 2 (fun y2 => [(2, .int y2), (1, .int y1), (0, .ref (ad 24))]) dX6_paidBits_23 rfl (by decide) (by decide) (fun _ => rfl) (fun y2 => ?_)
      refine tt_goto (tgt := 4) C dX6_paidBits_26 (by decide) ?_
      refine tt_sub [2, 1, 0] (L2 := [(0, .ref (ad 24)), (1, .int y1), (2, .int y2)]) rfl ?_
      exact ih y1 y2 μ

def fX6_paidBits (μ : Mem) : Option (Int32 × Mem) := lb (0 : Int32) fun (y1 : Int32) => lb (0 : Int32) fun (y2 : Int32) => fX6_paidBits_L4 FU y1 y2 μ
set_option maxHeartbeats 4000000 in
set_option maxRecDepth 100000 in
theorem wX6_paidBits {p : Program} {l : Launch} {e : Env} {s : State} {m : MethodId} {args : Array Value} {below : List Frame} {meth : Method} {c : Code} {A : Nat → Prop} {D : va_G} {ad : Nat → Nat} {cA : Nat → ClassId} (C : Cx p s m args meth c cX6_paidBits RX6 3 A dsX D ad cA (EX A ad)) (hr : meth.sig.returnType = some .int) (μ : Mem) : T p l e (rmD 0) s m args below meth c 3 A dsX D ad cA enI (fX6_paidBits μ) 0 [(0, .ref (ad 24))] [] μ := by
  unfold fX6_paidBits
  refine tt_iconst (v := (0 : Int32)) C dX6_paidBits_0 (by decide) ?_
  refine tt_lbi (fun y1 => ?_)
  refine tt_istore_n (L2 := [(1, .int y1), (0, .ref (ad 24))]) C dX6_paidBits_1 rfl (by decide) rfl ?_
  refine tt_iconst (v := (0 : Int32)) C dX6_paidBits_2 (by decide) ?_
  refine tt_lbi (fun y2 => ?_)
  refine tt_istore_n (L2 := [(2, .int y2), (1, .int y1), (0, .ref (ad 24))]) C dX6_paidBits_3 rfl (by decide) rfl ?_
  refine tt_sub [2, 1, 0] (L2 := [(0, .ref (ad 24)), (1, .int y1), (2, .int y2)]) rfl ?_
  exact wX6_paidBits_L4 C hr FU y1 y2 μ
theorem kX6_paidBits {l : Launch} {A : Nat → Prop} {D : va_G} {ad : Nat → Nat} {cA : Nat → ClassId} (hPk : Pk A dsX ad cA (EX A ad)) {μ : Mem} {v : Int32} {ν : Mem} (h : fX6_paidBits μ = some (v, ν)) : Ct l A dsX D ad cA (EX A ad) yX6_paidBits cX6_paidBits 3 (some .int) 0 [.ref (ad 24)] μ (enI (v, ν)) :=
  ct_of (by decide) (Nat.le_of_ble_eq_true rfl) hPk rfl (fun p e s m args below meth c C hr => wX6_paidBits C hr μ) h

/-! BasketRound$Trip.finish()V -/
def fX6_finish_J180 (k49 : Int32 → Int32 → Mem → Option (Mem)) (x1 : Int32) (x2 : Int32) (μ : Mem) : Option (Mem) := lb (x2 + (1 : Int32)) fun (y1 : Int32) => k49 x1 y1 μ
set_option maxHeartbeats 4000000 in
set_option maxRecDepth 100000 in
theorem wX6_finish_J180 {p : Program} {l : Launch} {e : Env} {s : State} {m : MethodId} {args : Array Value} {below : List Frame} {meth : Method} {c : Code} {A : Nat → Prop} {D : va_G} {ad : Nat → Nat} {cA : Nat → ClassId} (C : Cx p s m args meth c cX6_finish RX6 4 A dsX D ad cA (EX A ad)) (hr : meth.sig.returnType = none) (k49 : Int32 → Int32 → Mem → Option (Mem)) (hk49 : ∀ (x1 : Int32) (x2 : Int32) (μ : Mem), T p l e (rmD 2) s m args below meth c 4 A dsX D ad cA enV (k49 x1 x2 μ) 49 [(0, .ref (ad 24)), (1, .int x1), (2, .int x2)] [] μ) (x1 : Int32) (x2 : Int32) (μ : Mem) : T p l e (rmD 2) s m args below meth c 4 A dsX D ad cA enV (fX6_finish_J180 k49 x1 x2 μ) 180 [(0, .ref (ad 24)), (1, .int x1), (2, .int x2)] [] μ := by
  unfold fX6_finish_J180
  refine tt_iincB (d := (1 : Int32)) C 2 (fun y1 => [(2, .int y1), (0, .ref (ad 24)), (1, .int x1)]) dX6_finish_180 rfl (by decide) (by decide) (fun _ => rfl) (fun y1 => ?_)
  refine tt_goto (tgt := 49) C dX6_finish_183 (by decide) ?_
  refine tt_sub [1, 2, 0] (L2 := [(0, .ref (ad 24)), (1, .int x1), (2, .int y1)]) rfl ?_
  exact hk49 x1 y1 μ

def fX6_finish_J150 (k49 : Int32 → Int32 → Mem → Option (Mem)) (x1 : Int32) (x2 : Int32) (x3 : Int32) (μ : Mem) : Option (Mem) := gr x3 5 <| bi (fX4_ofOrder 3 x3 (4 : Int32) μ) fun v2 m1 => if (μ 29 x3.toNatClampNeg) ≤ v2 then (fX6_finish_J180 k49 x1 x2 m1) else (lb (wr m1 24 15 ((m1 24 15) ||| ((1 : Int32) <<< (x3 &&& 31)))) fun m3 => fX6_finish_J180 k49 x1 x2 m3)
set_option maxHeartbeats 4000000 in
set_option maxRecDepth 100000 in
theorem wX6_finish_J150 {p : Program} {l : Launch} {e : Env} {s : State} {m : MethodId} {args : Array Value} {below : List Frame} {meth : Method} {c : Code} {A : Nat → Prop} {D : va_G} {ad : Nat → Nat} {cA : Nat → ClassId} (C : Cx p s m args meth c cX6_finish RX6 4 A dsX D ad cA (EX A ad)) (hr : meth.sig.returnType = none) (k49 : Int32 → Int32 → Mem → Option (Mem)) (hk49 : ∀ (x1 : Int32) (x2 : Int32) (μ : Mem), T p l e (rmD 2) s m args below meth c 4 A dsX D ad cA enV (k49 x1 x2 μ) 49 [(0, .ref (ad 24)), (1, .int x1), (2, .int x2)] [] μ) (x1 : Int32) (x2 : Int32) (x3 : Int32) (μ : Mem) : T p l e (rmD 2) s m args below meth c 4 A dsX D ad cA enV (fX6_finish_J150 k49 x1 x2 x3 μ) 150 [(0, .ref (ad 24)), (1, .int x1), (2, .int x2), (3, .int x3)] [] μ := by
  unfold fX6_finish_J150
  refine tt_aload_n C 0 dX6_finish_150 rfl rfl ?_
  refine tt_getR C (j := 5) (r0 := 29) dX_24 rfl fl_RX6_24 dX6_finish_151 ?_
  refine tt_iload_n C 3 dX6_finish_154 rfl rfl ?_
  refine tt_gr (fun h1 => ?_)
  refine tt_iald C dX_29 h1 dX6_finish_155 ?_
  refine tt_aload_n C 0 dX6_finish_156 rfl rfl ?_
  refine tt_getR C (j := 0) (r0 := 3) dX_24 rfl fl_RX6_27 dX6_finish_157 ?_
  refine tt_iload_n C 3 dX6_finish_160 rfl rfl ?_
  refine tt_iconst (v := (4 : Int32)) C dX6_finish_161 (by decide) ?_
  refine tt_bi (fun v2 m1 h2 => ?_)
  refine tt_callV (st := [.int (μ 29 x3.toNatClampNeg)]) (As := [.int x3, .int (4 : Int32)]) C (kX4_ofOrder C.2.2.2.2.2.2.2.1 3 hSh_3 h2) mi_X4_ofOrder ml_RX6_57 mv_X4_ofOrder ms_X4_ofOrder (q := (RX4, TX4, 8)) dX_3 rfl rfl (by decide) (by decide) (Nat.le_of_ble_eq_true rfl) dX6_finish_162 ?_
  refine tt_if (fun h3 => ?_) (fun h3 => ?_)
  · refine tt_icmp_leT (tgt := 180) C h3 dX6_finish_165 (by decide) ?_
    refine tt_sub [0, 1, 2] (L2 := [(0, .ref (ad 24)), (1, .int x1), (2, .int x2)]) rfl ?_
    exact wX6_finish_J180 C hr k49 hk49 x1 x2 m1
  · refine tt_icmp_leF C 180 h3 dX6_finish_165 (by decide) ?_
    refine tt_aload_n C 0 dX6_finish_168 rfl rfl ?_
    refine tt_dup C dX6_finish_169 rfl ?_
    refine tt_getI C (j := 15) dX_24 rfl fl_RX6_86 dX6_finish_170 ?_
    refine tt_iconst (v := (1 : Int32)) C dX6_finish_173 (by decide) ?_
    refine tt_iload_n C 3 dX6_finish_174 rfl rfl ?_
    refine tt_ishl C dX6_finish_175 ?_
    refine tt_ior C dX6_finish_176 ?_
    refine tt_putI C (j := 15) dX_24 rfl fl_RX6_86 fw_6_15 dX6_finish_177 ?_
    refine tt_lbm (fun m3 => ?_)
    refine tt_sub [0, 1, 2] (L2 := [(0, .ref (ad 24)), (1, .int x1), (2, .int x2)]) rfl ?_
    exact wX6_finish_J180 C hr k49 hk49 x1 x2 m3

def fX6_finish_L49 : Nat → Int32 → Int32 → Mem → Option (Mem)
  | 0, _, _, _ => none
  | fu + 1, x1, x2, μ => if (μ 24 6) ≤ x2 then (lb (wr μ 24 13 ((((μ 24 8) + (μ 24 10)) + (μ 24 11)) + (μ 24 12))) fun m1 => bi (fX6_paidBits m1) fun v3 m2 => bi (fX4_penniesOf 3 v3 m2) fun v5 m4 => lb (wr m4 24 16 v5) fun m6 => some m6) else (gr x2 5 <| lb (μ 25 x2.toNatClampNeg) fun (y7 : Int32) => gr y7 5 <| bi (fJ6_bitCount_0f7a4 ((μ 28 y7.toNatClampNeg) &&& x1) μ) fun v9 m8 => lb (wr m8 24 12 ((μ 24 12) + v9)) fun m10 => lb (x1 &&& (((1 : Int32) <<< (y7 &&& 31)) ^^^ (-1 : Int32))) fun (y11 : Int32) => gr x2 5 <| gr y7 5 <| lb (wr m10 29 y7.toNatClampNeg ((m10 27 x2.toNatClampNeg) + (m10 24 12))) fun m12 => bi (fX4_ofOrder 3 y7 (0 : Int32) m12) fun v14 m13 => if v14 = (2 : Int32) then (gr y7 5 <| if ((m13 29 y7.toNatClampNeg) - (m13 24 8)) ≤ (20 : Int32) then (fX6_finish_J150 (fun x1 x2 μ => fX6_finish_L49 fu x1 x2 μ) y11 x2 y7 m13) else (lb (wr m13 24 14 ((m13 24 14) ||| ((1 : Int32) <<< (y7 &&& 31)))) fun m15 => fX6_finish_J150 (fun x1 x2 μ => fX6_finish_L49 fu x1 x2 μ) y11 x2 y7 m15)) else (fX6_finish_J150 (fun x1 x2 μ => fX6_finish_L49 fu x1 x2 μ) y11 x2 y7 m13))
set_option maxHeartbeats 4000000 in
set_option maxRecDepth 100000 in
theorem wX6_finish_L49 {p : Program} {l : Launch} {e : Env} {s : State} {m : MethodId} {args : Array Value} {below : List Frame} {meth : Method} {c : Code} {A : Nat → Prop} {D : va_G} {ad : Nat → Nat} {cA : Nat → ClassId} (C : Cx p s m args meth c cX6_finish RX6 4 A dsX D ad cA (EX A ad)) (hr : meth.sig.returnType = none) : ∀ (fu : Nat) (x1 : Int32) (x2 : Int32) (μ : Mem), T p l e (rmD 2) s m args below meth c 4 A dsX D ad cA enV (fX6_finish_L49 fu x1 x2 μ) 49 [(0, .ref (ad 24)), (1, .int x1), (2, .int x2)] [] μ
  | 0, _, _, _ => tt_none
  | fu + 1, x1, x2, μ => by
    have ih := fun (x1 : Int32) (x2 : Int32) (μ : Mem) => wX6_finish_L49 (l := l) (e := e) (below := below) C hr fu x1 x2 μ
    show T p l e (rmD 2) s m args below meth c 4 A dsX D ad cA enV (if (μ 24 6) ≤ x2 then (lb (wr μ 24 13 ((((μ 24 8) + (μ 24 10)) + (μ 24 11)) + (μ 24 12))) fun m1 => bi (fX6_paidBits m1) fun v3 m2 => bi (fX4_penniesOf 3 v3 m2) fun v5 m4 => lb (wr m4 24 16 v5) fun m6 => some m6) else (gr x2 5 <| lb (μ 25 x2.toNatClampNeg) fun (y7 : Int32) => gr y7 5 <| bi (fJ6_bitCount_0f7a4 ((μ 28 y7.toNatClampNeg) &&& x1) μ) fun v9 m8 => lb (wr m8 24 12 ((μ 24 12) + v9)) fun m10 => lb (x1 &&& (((1 : Int32) <<< (y7 &&& 31)) ^^^ (-1 : Int32))) fun (y11 : Int32) => gr x2 5 <| gr y7 5 <| lb (wr m10 29 y7.toNatClampNeg ((m10 27 x2.toNatClampNeg) + (m10 24 12))) fun m12 => bi (fX4_ofOrder 3 y7 (0 : Int32) m12) fun v14 m13 => if v14 = (2 : Int32) then (gr y7 5 <| if ((m13 29 y7.toNatClampNeg) - (m13 24 8)) ≤ (20 : Int32) then (fX6_finish_J150 (fun x1 x2 μ => fX6_finish_L49 fu x1 x2 μ) y11 x2 y7 m13) else (lb (wr m13 24 14 ((m13 24 14) ||| ((1 : Int32) <<< (y7 &&& 31)))) fun m15 => fX6_finish_J150 (fun x1 x2 μ => fX6_finish_L49 fu x1 x2 μ) y11 x2 y7 m15)) else (fX6_finish_J150 (fun x1 x2 μ => fX6_finish_L49 fu x1 x2 μ) y11 x2 y7 m13))) 49 [(0, .ref (ad 24)), (1, .int x1), (2, .int x2)] [] μ
    refine tt_iload_n C 2 dX6_finish_49 rfl rfl ?_
    refine tt_aload_n C 0 dX6_finish_50 rfl rfl ?_
    refine tt_getI C (j := 6) dX_24 rfl fl_RX6_48 dX6_finish_51 ?_
    refine tt_if (fun h1 => ?_) (fun h1 => ?_)
    · refine tt_icmp_geT (tgt := 186) C h1 dX6_finish_54 (by decide) ?_
      refine tt_aload_n C 0 dX6_finish_186 rfl rfl ?_
      refine tt_aload_n C 0 dX6_finish_187 rfl rfl ?_
      refine tt_getI C (j := 8) dX_24 rfl fl_RX6_38 dX6_finish_188 ?_
      refine tt_aload_n C 0 dX6_finish_191 rfl rfl ?_
      refine tt_getI C (j := 10) dX_24 rfl fl_RX6_61 dX6_finish_192 ?_
      refine tt_iadd C dX6_finish_195 ?_
      refine tt_aload_n C 0 dX6_finish_196 rfl rfl ?_
      refine tt_getI C (j := 11) dX_24 rfl fl_RX6_64 dX6_finish_197 ?_
      refine tt_iadd C dX6_finish_200 ?_
      refine tt_aload_n C 0 dX6_finish_201 rfl rfl ?_
      refine tt_getI C (j := 12) dX_24 rfl fl_RX6_80 dX6_finish_202 ?_
      refine tt_iadd C dX6_finish_205 ?_
      refine tt_putI C (j := 13) dX_24 rfl fl_RX6_95 fw_6_13 dX6_finish_206 ?_
      refine tt_lbm (fun m1 => ?_)
      refine tt_aload_n C 0 dX6_finish_209 rfl rfl ?_
      refine tt_aload_n C 0 dX6_finish_210 rfl rfl ?_
      refine tt_getR C (j := 0) (r0 := 3) dX_24 rfl fl_RX6_27 dX6_finish_211 ?_
      refine tt_aload_n C 0 dX6_finish_214 rfl rfl ?_
      refine tt_bi (fun v3 m2 h2 => ?_)
      refine tt_callV (st := [.ref (ad 3), .ref (ad 24)]) (As := []) C (kX6_paidBits C.2.2.2.2.2.2.2.1 h2) mi_X6_paidBits ml_RX6_98 mv_X6_paidBits ms_X6_paidBits (q := (RX6, TX6, 17)) dX_24 rfl rfl (by decide) (by decide) (Nat.le_of_ble_eq_true rfl) dX6_finish_215 ?_
      refine tt_bi (fun v5 m4 h3 => ?_)
      refine tt_callV (st := [.ref (ad 24)]) (As := [.int v3]) C (kX4_penniesOf C.2.2.2.2.2.2.2.1 3 hSh_3 h3) mi_X4_penniesOf ml_RX6_102 mv_X4_penniesOf ms_X4_penniesOf (q := (RX4, TX4, 8)) dX_3 rfl rfl (by decide) (by decide) (Nat.le_of_ble_eq_true rfl) dX6_finish_218 ?_
      refine tt_putI C (j := 16) dX_24 rfl fl_RX6_105 fw_6_16 dX6_finish_221 ?_
      refine tt_lbm (fun m6 => ?_)
      exact tt_vret rfl C hr dX6_finish_224
    · refine tt_icmp_geF C 186 h1 dX6_finish_54 (by decide) ?_
      refine tt_aload_n C 0 dX6_finish_57 rfl rfl ?_
      refine tt_getR C (j := 1) (r0 := 25) dX_24 rfl fl_RX6_9 dX6_finish_58 ?_
      refine tt_iload_n C 2 dX6_finish_61 rfl rfl ?_
      refine tt_gr (fun h4 => ?_)
      refine tt_iald C dX_25 h4 dX6_finish_62 ?_
      refine tt_lbi (fun y7 => ?_)
      refine tt_istore_n (L2 := [(3, .int y7), (0, .ref (ad 24)), (1, .int x1), (2, .int x2)]) C dX6_finish_63 rfl (by decide) rfl ?_
      refine tt_aload_n C 1 dX6_finish_64 rfl rfl ?_
      refine tt_dup C dX6_finish_65 rfl ?_
      refine tt_getI C (j := 12) dX_24 rfl fl_RX6_80 dX6_finish_66 ?_
      refine tt_aload_n C 1 dX6_finish_69 rfl rfl ?_
      refine tt_getR C (j := 4) (r0 := 28) dX_24 rfl fl_RX6_21 dX6_finish_70 ?_
      refine tt_iload_n C 0 dX6_finish_73 rfl rfl ?_
      refine tt_gr (fun h5 => ?_)
      refine tt_iald C dX_28 h5 dX6_finish_74 ?_
      refine tt_iload_n C 2 dX6_finish_75 rfl rfl ?_
      refine tt_iand C dX6_finish_76 ?_
      refine tt_bi (fun v9 m8 h6 => ?_)
      refine tt_callS (st := [.int (μ 24 12), .ref (ad 24)]) (As := [.int ((μ 28 y7.toNatClampNeg) &&& x1)]) C (kJ6_bitCount_0f7a4 C.2.2.2.2.2.2.2.1 h6) mi_J6_bitCount_0f7a4 ml_RX6_89 mt_J6_bitCount_0f7a4 rfl (by decide) (by decide) (Nat.le_of_ble_eq_true rfl) dX6_finish_77 ?_
      refine tt_iadd C dX6_finish_80 ?_
      refine tt_putI C (j := 12) dX_24 rfl fl_RX6_80 fw_6_12 dX6_finish_81 ?_
      refine tt_lbm (fun m10 => ?_)
      refine tt_iload_n C 2 dX6_finish_84 rfl rfl ?_
      refine tt_iconst (v := (1 : Int32)) C dX6_finish_85 (by decide) ?_
      refine tt_iload_n C 0 dX6_finish_86 rfl rfl ?_
      refine tt_ishl C dX6_finish_87 ?_
      refine tt_iconst (v := (-1 : Int32)) C dX6_finish_88 (by decide) ?_
      refine tt_ixor C dX6_finish_89 ?_
      refine tt_iand C dX6_finish_90 ?_
      refine tt_lbi (fun y11 => ?_)
      refine tt_istore_n (L2 := [(1, .int y11), (3, .int y7), (0, .ref (ad 24)), (2, .int x2)]) C dX6_finish_91 rfl (by decide) rfl ?_
      refine tt_aload_n C 2 dX6_finish_92 rfl rfl ?_
      refine tt_getR C (j := 5) (r0 := 29) dX_24 rfl fl_RX6_24 dX6_finish_93 ?_
      refine tt_iload_n C 1 dX6_finish_96 rfl rfl ?_
      refine tt_aload_n C 2 dX6_finish_97 rfl rfl ?_
      refine tt_getR C (j := 3) (r0 := 27) dX_24 rfl fl_RX6_18 dX6_finish_98 ?_
      refine tt_iload_n C 3 dX6_finish_101 rfl rfl ?_
      refine tt_gr (fun h7 => ?_)
      refine tt_iald C dX_27 h7 dX6_finish_102 ?_
      refine tt_aload_n C 2 dX6_finish_103 rfl rfl ?_
      refine tt_getI C (j := 12) dX_24 rfl fl_RX6_80 dX6_finish_104 ?_
      refine tt_iadd C dX6_finish_107 ?_
      refine tt_gr (fun h8 => ?_)
      refine tt_iast C dX_29 h8 dX6_finish_108 ?_
      refine tt_lbm (fun m12 => ?_)
      refine tt_aload_n C 2 dX6_finish_109 rfl rfl ?_
      refine tt_getR C (j := 0) (r0 := 3) dX_24 rfl fl_RX6_27 dX6_finish_110 ?_
      refine tt_iload_n C 1 dX6_finish_113 rfl rfl ?_
      refine tt_iconst (v := (0 : Int32)) C dX6_finish_114 (by decide) ?_
      refine tt_bi (fun v14 m13 h9 => ?_)
      refine tt_callV (st := []) (As := [.int y7, .int (0 : Int32)]) C (kX4_ofOrder C.2.2.2.2.2.2.2.1 3 hSh_3 h9) mi_X4_ofOrder ml_RX6_57 mv_X4_ofOrder ms_X4_ofOrder (q := (RX4, TX4, 8)) dX_3 rfl rfl (by decide) (by decide) (Nat.le_of_ble_eq_true rfl) dX6_finish_115 ?_
      refine tt_iconst (v := (2 : Int32)) C dX6_finish_118 (by decide) ?_
      refine tt_if (fun h10 => ?_) (fun h10 => ?_)
      · refine tt_icmp_neF C 150 h10 dX6_finish_119 (by decide) ?_
        refine tt_aload_n C 2 dX6_finish_122 rfl rfl ?_
        refine tt_getR C (j := 5) (r0 := 29) dX_24 rfl fl_RX6_24 dX6_finish_123 ?_
        refine tt_iload_n C 1 dX6_finish_126 rfl rfl ?_
        refine tt_gr (fun h11 => ?_)
        refine tt_iald C dX_29 h11 dX6_finish_127 ?_
        refine tt_aload_n C 2 dX6_finish_128 rfl rfl ?_
        refine tt_getI C (j := 8) dX_24 rfl fl_RX6_38 dX6_finish_129 ?_
        refine tt_isub C dX6_finish_132 ?_
        refine tt_bipush (v := (20 : Int32)) C dX6_finish_133 (by decide) ?_
        refine tt_if (fun h12 => ?_) (fun h12 => ?_)
        · refine tt_icmp_leT (tgt := 150) C h12 dX6_finish_135 (by decide) ?_
          refine tt_sub [2, 0, 3, 1] (L2 := [(0, .ref (ad 24)), (1, .int y11), (2, .int x2), (3, .int y7)]) rfl ?_
          exact wX6_finish_J150 C hr (fun x1 x2 μ => fX6_finish_L49 fu x1 x2 μ) (fun x1 x2 μ => ih x1 x2 μ) y11 x2 y7 m13
        · refine tt_icmp_leF C 150 h12 dX6_finish_135 (by decide) ?_
          refine tt_aload_n C 2 dX6_finish_138 rfl rfl ?_
          refine tt_dup C dX6_finish_139 rfl ?_
          refine tt_getI C (j := 14) dX_24 rfl fl_RX6_83 dX6_finish_140 ?_
          refine tt_iconst (v := (1 : Int32)) C dX6_finish_143 (by decide) ?_
          refine tt_iload_n C 1 dX6_finish_144 rfl rfl ?_
          refine tt_ishl C dX6_finish_145 ?_
          refine tt_ior C dX6_finish_146 ?_
          refine tt_putI C (j := 14) dX_24 rfl fl_RX6_83 fw_6_14 dX6_finish_147 ?_
          refine tt_lbm (fun m15 => ?_)
          refine tt_sub [2, 0, 3, 1] (L2 := [(0, .ref (ad 24)), (1, .int y11), (2, .int x2), (3, .int y7)]) rfl ?_
          exact wX6_finish_J150 C hr (fun x1 x2 μ => fX6_finish_L49 fu x1 x2 μ) (fun x1 x2 μ => ih x1 x2 μ) y11 x2 y7 m15
      · refine tt_icmp_neT (tgt := 150) C h10 dX6_finish_119 (by decide) ?_
        refine tt_sub [2, 0, 3, 1] (L2 := [(0, .ref (ad 24)), (1, .int y11), (2, .int x2), (3, .int y7)]) rfl ?_
        exact wX6_finish_J150 C hr (fun x1 x2 μ => fX6_finish_L49 fu x1 x2 μ) (fun x1 x2 μ => ih x1 x2 μ) y11 x2 y7 m13

def fX6_finish_L4 : Nat → Int32 → Int32 → Mem → Option (Mem)
  | 0, _, _, _ => none
  | fu + 1, x1, x2, μ => if (μ 24 6) ≤ x2 then (lb (wr μ 24 12 (0 : Int32)) fun m1 => lb (wr m1 24 14 (m1 24 9)) fun m2 => lb (wr m2 24 15 (0 : Int32)) fun m3 => lb (0 : Int32) fun (y4 : Int32) => fX6_finish_L49 FU x1 y4 m3) else (gr x2 5 <| lb (x1 ||| ((1 : Int32) <<< ((μ 25 x2.toNatClampNeg) &&& 31))) fun (y5 : Int32) => lb (x2 + (1 : Int32)) fun (y6 : Int32) => fX6_finish_L4 fu y5 y6 μ)
set_option maxHeartbeats 4000000 in
set_option maxRecDepth 100000 in
theorem wX6_finish_L4 {p : Program} {l : Launch} {e : Env} {s : State} {m : MethodId} {args : Array Value} {below : List Frame} {meth : Method} {c : Code} {A : Nat → Prop} {D : va_G} {ad : Nat → Nat} {cA : Nat → ClassId} (C : Cx p s m args meth c cX6_finish RX6 4 A dsX D ad cA (EX A ad)) (hr : meth.sig.returnType = none) : ∀ (fu : Nat) (x1 : Int32) (x2 : Int32) (μ : Mem), T p l e (rmD 2) s m args below meth c 4 A dsX D ad cA enV (fX6_finish_L4 fu x1 x2 μ) 4 [(0, .ref (ad 24)), (1, .int x1), (2, .int x2)] [] μ
  | 0, _, _, _ => tt_none
  | fu + 1, x1, x2, μ => by
    have ih := fun (x1 : Int32) (x2 : Int32) (μ : Mem) => wX6_finish_L4 (l := l) (e := e) (below := below) C hr fu x1 x2 μ
    show T p l e (rmD 2) s m args below meth c 4 A dsX D ad cA enV (if (μ 24 6) ≤ x2 then (lb (wr μ 24 12 (0 : Int32)) fun m1 => lb (wr m1 24 14 (m1 24 9)) fun m2 => lb (wr m2 24 15 (0 : Int32)) fun m3 => lb (0 : Int32) fun (y4 : Int32) => fX6_finish_L49 FU x1 y4 m3) else (gr x2 5 <| lb (x1 ||| ((1 : Int32) <<< ((μ 25 x2.toNatClampNeg) &&& 31))) fun (y5 : Int32) => lb (x2 + (1 : Int32)) fun (y6 : Int32) => fX6_finish_L4 fu y5 y6 μ)) 4 [(0, .ref (ad 24)), (1, .int x1), (2, .int x2)] [] μ
    refine tt_iload_n C 2 dX6_finish_4 rfl rfl ?_
    refine tt_aload_n C 0 dX6_finish_5 rfl rfl ?_
    refine tt_getI C (j := 6) dX_24 rfl fl_RX6_48 dX6_finish_6 ?_
    refine tt_if (fun h1 => ?_) (fun h1 => ?_)
    · refine tt_icmp_geT (tgt := 29) C h1 dX6_finish_9 (by decide) ?_
      refine tt_aload_n C 0 dX6_finish_29 rfl rfl ?_
      refine tt_iconst (v := (0 : Int32)) C dX6_finish_30 (by decide) ?_
      refine tt_putI C (j := 12) dX_24 rfl fl_RX6_80 fw_6_12 dX6_finish_31 ?_
      refine tt_lbm (fun m1 => ?_)
      refine tt_aload_n C 0 dX6_finish_34 rfl rfl ?_
      refine tt_aload_n C 0 dX6_finish_35 rfl rfl ?_
      refine tt_getI C (j := 9) dX_24 rfl fl_RX6_71 dX6_finish_36 ?_
      refine tt_putI C (j := 14) dX_24 rfl fl_RX6_83 fw_6_14 dX6_finish_39 ?_
      refine tt_lbm (fun m2 => ?_)
      refine tt_aload_n C 0 dX6_finish_42 rfl rfl ?_
      refine tt_iconst (v := (0 : Int32)) C dX6_finish_43 (by decide) ?_
      refine tt_putI C (j := 15) dX_24 rfl fl_RX6_86 fw_6_15 dX6_finish_44 ?_
      refine tt_lbm (fun m3 => ?_)
      refine tt_iconst (v := (0 : Int32)) C dX6_finish_47 (by decide) ?_
      refine tt_lbi (fun y4 => ?_)
      refine tt_istore_n (L2 := [(2, .int y4), (0, .ref (ad 24)), (1, .int x1)]) C dX6_finish_48 rfl (by decide) rfl ?_
      refine tt_sub [1, 2, 0] (L2 := [(0, .ref (ad 24)), (1, .int x1), (2, .int y4)]) rfl ?_
      exact wX6_finish_L49 C hr FU x1 y4 m3
    · refine tt_icmp_geF C 29 h1 dX6_finish_9 (by decide) ?_
      refine tt_iload_n C 1 dX6_finish_12 rfl rfl ?_
      refine tt_iconst (v := (1 : Int32)) C dX6_finish_13 (by decide) ?_
      refine tt_aload_n C 0 dX6_finish_14 rfl rfl ?_
      refine tt_getR C (j := 1) (r0 := 25) dX_24 rfl fl_RX6_9 dX6_finish_15 ?_
      refine tt_iload_n C 2 dX6_finish_18 rfl rfl ?_
      refine tt_gr (fun h2 => ?_)
      refine tt_iald C dX_25 h2 dX6_finish_19 ?_
      refine tt_ishl C dX6_finish_20 ?_
      refine tt_ior C dX6_finish_21 ?_
      refine tt_lbi (fun y5 => ?_)
      refine tt_istore_n (L2 := [(1, .int y5), (0, .ref (ad 24)), (2, .int x2)]) C dX6_finish_22 rfl (by decide) rfl ?_
      refine tt_iincB (d := (1 : Int32)) C 2 (fun y6 => [(2, .int y6), (1, .int y5), (0, .ref (ad 24))]) dX6_finish_23 rfl (by decide) (by decide) (fun _ => rfl) (fun y6 => ?_)
      refine tt_goto (tgt := 4) C dX6_finish_26 (by decide) ?_
      refine tt_sub [2, 1, 0] (L2 := [(0, .ref (ad 24)), (1, .int y5), (2, .int y6)]) rfl ?_
      exact ih y5 y6 μ

def fX6_finish (μ : Mem) : Option (Mem) := lb (0 : Int32) fun (y1 : Int32) => lb (0 : Int32) fun (y2 : Int32) => fX6_finish_L4 FU y1 y2 μ
set_option maxHeartbeats 4000000 in
set_option maxRecDepth 100000 in
theorem wX6_finish {p : Program} {l : Launch} {e : Env} {s : State} {m : MethodId} {args : Array Value} {below : List Frame} {meth : Method} {c : Code} {A : Nat → Prop} {D : va_G} {ad : Nat → Nat} {cA : Nat → ClassId} (C : Cx p s m args meth c cX6_finish RX6 4 A dsX D ad cA (EX A ad)) (hr : meth.sig.returnType = none) (μ : Mem) : T p l e (rmD 2) s m args below meth c 4 A dsX D ad cA enV (fX6_finish μ) 0 [(0, .ref (ad 24))] [] μ := by
  unfold fX6_finish
  refine tt_iconst (v := (0 : Int32)) C dX6_finish_0 (by decide) ?_
  refine tt_lbi (fun y1 => ?_)
  refine tt_istore_n (L2 := [(1, .int y1), (0, .ref (ad 24))]) C dX6_finish_1 rfl (by decide) rfl ?_
  refine tt_iconst (v := (0 : Int32)) C dX6_finish_2 (by decide) ?_
  refine tt_lbi (fun y2 => ?_)
  refine tt_istore_n (L2 := [(2, .int y2), (1, .int y1), (0, .ref (ad 24))]) C dX6_finish_3 rfl (by decide) rfl ?_
  refine tt_sub [2, 1, 0] (L2 := [(0, .ref (ad 24)), (1, .int y1), (2, .int y2)]) rfl ?_
  exact wX6_finish_L4 C hr FU y1 y2 μ
theorem kX6_finish {l : Launch} {A : Nat → Prop} {D : va_G} {ad : Nat → Nat} {cA : Nat → ClassId} (hPk : Pk A dsX ad cA (EX A ad)) {μ : Mem} {ν : Mem} (h : fX6_finish μ = some ν) : Ct l A dsX D ad cA (EX A ad) yX6_finish cX6_finish 4 none 2 [.ref (ad 24)] μ (enV ν) :=
  ct_of (by decide) (Nat.le_of_ble_eq_true rfl) hPk rfl (fun p e s m args below meth c C hr => wX6_finish C hr μ) h

/-! BasketRound$Trip.pick([II[I)I -/
def fX6_pick_J41 (a1 : Nat) (a2 : Nat) (k6 : Int32 → Int32 → Int32 → Mem → Option (Int32 × Mem)) (x2 : Int32) (x4 : Int32) (x5 : Int32) (μ : Mem) : Option (Int32 × Mem) := lb (x5 + (1 : Int32)) fun (y1 : Int32) => k6 x2 x4 y1 μ
set_option maxHeartbeats 4000000 in
set_option maxRecDepth 100000 in
theorem wX6_pick_J41 {p : Program} {l : Launch} {e : Env} {s : State} {m : MethodId} {args : Array Value} {below : List Frame} {meth : Method} {c : Code} {A : Nat → Prop} {D : va_G} {ad : Nat → Nat} {cA : Nat → ClassId} (C : Cx p s m args meth c cX6_pick RX6 6 A dsX D ad cA (EX A ad)) (hr : meth.sig.returnType = some .int) (a1 : Nat) (a2 : Nat) (ha1 : dsX[a1]? = some (0, 5, [])) (ha2 : dsX[a2]? = some (0, 5, [])) (k6 : Int32 → Int32 → Int32 → Mem → Option (Int32 × Mem)) (hk6 : ∀ (x2 : Int32) (x4 : Int32) (x5 : Int32) (μ : Mem), T p l e (rmD 0) s m args below meth c 6 A dsX D ad cA enI (k6 x2 x4 x5 μ) 6 [(0, .ref (ad 24)), (1, .ref (ad a1)), (2, .int x2), (3, .ref (ad a2)), (4, .int x4), (5, .int x5)] [] μ) (x2 : Int32) (x4 : Int32) (x5 : Int32) (μ : Mem) : T p l e (rmD 0) s m args below meth c 6 A dsX D ad cA enI (fX6_pick_J41 a1 a2 k6 x2 x4 x5 μ) 41 [(0, .ref (ad 24)), (1, .ref (ad a1)), (2, .int x2), (3, .ref (ad a2)), (4, .int x4), (5, .int x5)] [] μ := by
  unfold fX6_pick_J41
  refine tt_iincB (d := (1 : Int32)) C 5 (fun y1 => [(5, .int y1), (0, .ref (ad 24)), (1, .ref (ad a1)), (2, .int x2), (3, .ref (ad a2)), (4, .int x4)]) dX6_pick_41 rfl (by decide) (by decide) (fun _ => rfl) (fun y1 => ?_)
  refine tt_goto (tgt := 6) C dX6_pick_44 (by decide) ?_
  refine tt_sub [1, 2, 3, 4, 5, 0] (L2 := [(0, .ref (ad 24)), (1, .ref (ad a1)), (2, .int x2), (3, .ref (ad a2)), (4, .int x4), (5, .int y1)]) rfl ?_
  exact hk6 x2 x4 y1 μ

def fX6_pick_L6 (a1 : Nat) (a2 : Nat) : Nat → Int32 → Int32 → Int32 → Mem → Option (Int32 × Mem)
  | 0, _, _, _, _ => none
  | fu + 1, x2, x4, x5, μ => if (μ 3 5) ≤ x5 then (some (x4, μ)) else (gr x5 5 <| if ((x2 >>> ((μ a1 x5.toNatClampNeg) &&& 31)) &&& (1 : Int32)) = (1 : Int32) then (gr x5 5 <| gr x4 5 <| lb (wr μ a2 x4.toNatClampNeg (μ a1 x5.toNatClampNeg)) fun m1 => lb (x4 + (1 : Int32)) fun (y2 : Int32) => fX6_pick_J41 a1 a2 (fun x2 x4 x5 μ => fX6_pick_L6 a1 a2 fu x2 x4 x5 μ) x2 y2 x5 m1) else (fX6_pick_J41 a1 a2 (fun x2 x4 x5 μ => fX6_pick_L6 a1 a2 fu x2 x4 x5 μ) x2 x4 x5 μ))
set_option maxHeartbeats 4000000 in
set_option maxRecDepth 100000 in
theorem wX6_pick_L6 {p : Program} {l : Launch} {e : Env} {s : State} {m : MethodId} {args : Array Value} {below : List Frame} {meth : Method} {c : Code} {A : Nat → Prop} {D : va_G} {ad : Nat → Nat} {cA : Nat → ClassId} (C : Cx p s m args meth c cX6_pick RX6 6 A dsX D ad cA (EX A ad)) (hr : meth.sig.returnType = some .int) (a1 : Nat) (a2 : Nat) (ha1 : dsX[a1]? = some (0, 5, [])) (ha2 : dsX[a2]? = some (0, 5, [])) : ∀ (fu : Nat) (x2 : Int32) (x4 : Int32) (x5 : Int32) (μ : Mem), T p l e (rmD 0) s m args below meth c 6 A dsX D ad cA enI (fX6_pick_L6 a1 a2 fu x2 x4 x5 μ) 6 [(0, .ref (ad 24)), (1, .ref (ad a1)), (2, .int x2), (3, .ref (ad a2)), (4, .int x4), (5, .int x5)] [] μ
  | 0, _, _, _, _ => tt_none
  | fu + 1, x2, x4, x5, μ => by
    have ih := fun (x2 : Int32) (x4 : Int32) (x5 : Int32) (μ : Mem) => wX6_pick_L6 (l := l) (e := e) (below := below) C hr a1 a2 ha1 ha2 fu x2 x4 x5 μ
    show T p l e (rmD 0) s m args below meth c 6 A dsX D ad cA enI (if (μ 3 5) ≤ x5 then (some (x4, μ)) else (gr x5 5 <| if ((x2 >>> ((μ a1 x5.toNatClampNeg) &&& 31)) &&& (1 : Int32)) = (1 : Int32) then (gr x5 5 <| gr x4 5 <| lb (wr μ a2 x4.toNatClampNeg (μ a1 x5.toNatClampNeg)) fun m1 => lb (x4 + (1 : Int32)) fun (y2 : Int32) => fX6_pick_J41 a1 a2 (fun x2 x4 x5 μ => fX6_pick_L6 a1 a2 fu x2 x4 x5 μ) x2 y2 x5 m1) else (fX6_pick_J41 a1 a2 (fun x2 x4 x5 μ => fX6_pick_L6 a1 a2 fu x2 x4 x5 μ) x2 x4 x5 μ))) 6 [(0, .ref (ad 24)), (1, .ref (ad a1)), (2, .int x2), (3, .ref (ad a2)), (4, .int x4), (5, .int x5)] [] μ
    refine tt_iload C 5 dX6_pick_6 rfl ?_
    refine tt_aload_n C 0 dX6_pick_8 rfl rfl ?_
    refine tt_getR C (j := 0) (r0 := 3) dX_24 rfl fl_RX6_27 dX6_pick_9 ?_
    refine tt_getI C (j := 5) dX_3 rfl fl_RX6_54 dX6_pick_12 ?_
    refine tt_if (fun h1 => ?_) (fun h1 => ?_)
    · refine tt_icmp_geT (tgt := 47) C h1 dX6_pick_15 (by decide) ?_
      refine tt_iload C 4 dX6_pick_47 rfl ?_
      exact tt_iret rfl C hr dX6_pick_49
    · refine tt_icmp_geF C 47 h1 dX6_pick_15 (by decide) ?_
      refine tt_iload_n C 2 dX6_pick_18 rfl rfl ?_
      refine tt_aload_n C 1 dX6_pick_19 rfl rfl ?_
      refine tt_iload C 5 dX6_pick_20 rfl ?_
      refine tt_gr (fun h2 => ?_)
      refine tt_iald C ha1 h2 dX6_pick_22 ?_
      refine tt_ishr C dX6_pick_23 ?_
      refine tt_iconst (v := (1 : Int32)) C dX6_pick_24 (by decide) ?_
      refine tt_iand C dX6_pick_25 ?_
      refine tt_iconst (v := (1 : Int32)) C dX6_pick_26 (by decide) ?_
      refine tt_if (fun h3 => ?_) (fun h3 => ?_)
      · refine tt_icmp_neF C 41 h3 dX6_pick_27 (by decide) ?_
        refine tt_aload_n C 3 dX6_pick_30 rfl rfl ?_
        refine tt_iload C 4 dX6_pick_31 rfl ?_
        refine tt_aload_n C 1 dX6_pick_33 rfl rfl ?_
        refine tt_iload C 5 dX6_pick_34 rfl ?_
        refine tt_gr (fun h4 => ?_)
        refine tt_iald C ha1 h4 dX6_pick_36 ?_
        refine tt_gr (fun h5 => ?_)
        refine tt_iast C ha2 h5 dX6_pick_37 ?_
        refine tt_lbm (fun m1 => ?_)
        refine tt_iincB (d := (1 : Int32)) C 4 (fun y2 => [(4, .int y2), (0, .ref (ad 24)), (1, .ref (ad a1)), (2, .int x2), (3, .ref (ad a2)), (5, .int x5)]) dX6_pick_38 rfl (by decide) (by decide) (fun _ => rfl) (fun y2 => ?_)
        refine tt_sub [1, 2, 3, 4, 0, 5] (L2 := [(0, .ref (ad 24)), (1, .ref (ad a1)), (2, .int x2), (3, .ref (ad a2)), (4, .int y2), (5, .int x5)]) rfl ?_
        exact wX6_pick_J41 C hr a1 a2 ha1 ha2 (fun x2 x4 x5 μ => fX6_pick_L6 a1 a2 fu x2 x4 x5 μ) (fun x2 x4 x5 μ => ih x2 x4 x5 μ) x2 y2 x5 m1
      · refine tt_icmp_neT (tgt := 41) C h3 dX6_pick_27 (by decide) ?_
        refine tt_sub [0, 1, 2, 3, 4, 5] (L2 := [(0, .ref (ad 24)), (1, .ref (ad a1)), (2, .int x2), (3, .ref (ad a2)), (4, .int x4), (5, .int x5)]) rfl ?_
        exact wX6_pick_J41 C hr a1 a2 ha1 ha2 (fun x2 x4 x5 μ => fX6_pick_L6 a1 a2 fu x2 x4 x5 μ) (fun x2 x4 x5 μ => ih x2 x4 x5 μ) x2 x4 x5 μ

def fX6_pick (a1 : Nat) (a2 : Nat) (x2 : Int32) (μ : Mem) : Option (Int32 × Mem) := lb (0 : Int32) fun (y1 : Int32) => lb (0 : Int32) fun (y2 : Int32) => fX6_pick_L6 a1 a2 FU x2 y1 y2 μ
set_option maxHeartbeats 4000000 in
set_option maxRecDepth 100000 in
theorem wX6_pick {p : Program} {l : Launch} {e : Env} {s : State} {m : MethodId} {args : Array Value} {below : List Frame} {meth : Method} {c : Code} {A : Nat → Prop} {D : va_G} {ad : Nat → Nat} {cA : Nat → ClassId} (C : Cx p s m args meth c cX6_pick RX6 6 A dsX D ad cA (EX A ad)) (hr : meth.sig.returnType = some .int) (a1 : Nat) (a2 : Nat) (ha1 : dsX[a1]? = some (0, 5, [])) (ha2 : dsX[a2]? = some (0, 5, [])) (x2 : Int32) (μ : Mem) : T p l e (rmD 0) s m args below meth c 6 A dsX D ad cA enI (fX6_pick a1 a2 x2 μ) 0 [(0, .ref (ad 24)), (1, .ref (ad a1)), (2, .int x2), (3, .ref (ad a2))] [] μ := by
  unfold fX6_pick
  refine tt_iconst (v := (0 : Int32)) C dX6_pick_0 (by decide) ?_
  refine tt_lbi (fun y1 => ?_)
  refine tt_istore (L2 := [(4, .int y1), (0, .ref (ad 24)), (1, .ref (ad a1)), (2, .int x2), (3, .ref (ad a2))]) C dX6_pick_1 (by decide) rfl ?_
  refine tt_iconst (v := (0 : Int32)) C dX6_pick_3 (by decide) ?_
  refine tt_lbi (fun y2 => ?_)
  refine tt_istore (L2 := [(5, .int y2), (4, .int y1), (0, .ref (ad 24)), (1, .ref (ad a1)), (2, .int x2), (3, .ref (ad a2))]) C dX6_pick_4 (by decide) rfl ?_
  refine tt_sub [2, 3, 4, 5, 1, 0] (L2 := [(0, .ref (ad 24)), (1, .ref (ad a1)), (2, .int x2), (3, .ref (ad a2)), (4, .int y1), (5, .int y2)]) rfl ?_
  exact wX6_pick_L6 C hr a1 a2 ha1 ha2 FU x2 y1 y2 μ
theorem kX6_pick {l : Launch} {A : Nat → Prop} {D : va_G} {ad : Nat → Nat} {cA : Nat → ClassId} (hPk : Pk A dsX ad cA (EX A ad)) (a1 : Nat) (a2 : Nat) (ha1 : dsX[a1]? = some (0, 5, [])) (ha2 : dsX[a2]? = some (0, 5, [])) {x2 : Int32} {μ : Mem} {v : Int32} {ν : Mem} (h : fX6_pick a1 a2 x2 μ = some (v, ν)) : Ct l A dsX D ad cA (EX A ad) yX6_pick cX6_pick 6 (some .int) 0 [.ref (ad 24), .ref (ad a1), .int x2, .ref (ad a2)] μ (enI (v, ν)) :=
  ct_of (by decide) (Nat.le_of_ble_eq_true rfl) hPk rfl (fun p e s m args below meth c C hr => wX6_pick C hr a1 a2 ha1 ha2 x2 μ) h

/-! BasketRound$Trip.ride()V -/
def fX6_ride_J207 (z1 : Int32) (z3 : Int32) (z4 : Int32) (z5 : Int32) (μ : Mem) : Option (Mem) := bi (fX4_minutesBetween 3 z3 z4 z5 μ) fun v2 m1 => lb (wr m1 24 10 (z1 + v2)) fun m3 => some m3
set_option maxHeartbeats 4000000 in
set_option maxRecDepth 100000 in
theorem wX6_ride_J207 {p : Program} {l : Launch} {e : Env} {s : State} {m : MethodId} {args : Array Value} {below : List Frame} {meth : Method} {c : Code} {A : Nat → Prop} {D : va_G} {ad : Nat → Nat} {cA : Nat → ClassId} (C : Cx p s m args meth c cX6_ride RX6 5 A dsX D ad cA (EX A ad)) (hr : meth.sig.returnType = none) (z1 : Int32) (z3 : Int32) (z4 : Int32) (z5 : Int32) (μ : Mem) : T p l e (rmD 2) s m args below meth c 5 A dsX D ad cA enV (fX6_ride_J207 z1 z3 z4 z5 μ) 207 [] [.int z5, .int z4, .int z3, .ref (ad 3), .int z1, .ref (ad 24)] μ := by
  unfold fX6_ride_J207
  refine tt_bi (fun v2 m1 h1 => ?_)
  refine tt_callV (st := [.int z1, .ref (ad 24)]) (As := [.int z3, .int z4, .int z5]) C (kX4_minutesBetween C.2.2.2.2.2.2.2.1 3 hSh_3 h1) mi_X4_minutesBetween ml_RX6_67 mv_X4_minutesBetween ms_X4_minutesBetween (q := (RX4, TX4, 8)) dX_3 rfl rfl (by decide) (by decide) (Nat.le_of_ble_eq_true rfl) dX6_ride_207 ?_
  refine tt_iadd C dX6_ride_210 ?_
  refine tt_putI C (j := 10) dX_24 rfl fl_RX6_61 fw_6_10 dX6_ride_211 ?_
  refine tt_lbm (fun m3 => ?_)
  exact tt_vret rfl C hr dX6_ride_214

def fX6_ride_J129 (k49 : Int32 → Int32 → Int32 → Mem → Option (Mem)) (x1 : Int32) (x3 : Int32) (x4 : Int32) (z1 : Int32) (z2 : Int32) (μ : Mem) : Option (Mem) := lb (wr μ 24 11 (z1 + z2)) fun m1 => gr x3 5 <| lb (wr m1 27 x3.toNatClampNeg (((m1 24 8) + (m1 24 10)) + (m1 24 11))) fun m2 => bi (fX4_ofOrder 3 x4 (2 : Int32) m2) fun v4 m3 => lb (x1 - v4) fun (y5 : Int32) => bi (fX4_ofOrder 3 x4 (1 : Int32) m3) fun v7 m6 => lb (x3 + (1 : Int32)) fun (y8 : Int32) => k49 y5 v7 y8 m6
set_option maxHeartbeats 4000000 in
set_option maxRecDepth 100000 in
theorem wX6_ride_J129 {p : Program} {l : Launch} {e : Env} {s : State} {m : MethodId} {args : Array Value} {below : List Frame} {meth : Method} {c : Code} {A : Nat → Prop} {D : va_G} {ad : Nat → Nat} {cA : Nat → ClassId} (C : Cx p s m args meth c cX6_ride RX6 5 A dsX D ad cA (EX A ad)) (hr : meth.sig.returnType = none) (k49 : Int32 → Int32 → Int32 → Mem → Option (Mem)) (hk49 : ∀ (x1 : Int32) (x2 : Int32) (x3 : Int32) (μ : Mem), T p l e (rmD 2) s m args below meth c 5 A dsX D ad cA enV (k49 x1 x2 x3 μ) 49 [(0, .ref (ad 24)), (1, .int x1), (2, .int x2), (3, .int x3)] [] μ) (x1 : Int32) (x3 : Int32) (x4 : Int32) (z1 : Int32) (z2 : Int32) (μ : Mem) : T p l e (rmD 2) s m args below meth c 5 A dsX D ad cA enV (fX6_ride_J129 k49 x1 x3 x4 z1 z2 μ) 129 [(0, .ref (ad 24)), (1, .int x1), (3, .int x3), (4, .int x4)] [.int z2, .int z1, .ref (ad 24)] μ := by
  unfold fX6_ride_J129
  refine tt_iadd C dX6_ride_129 ?_
  refine tt_putI C (j := 11) dX_24 rfl fl_RX6_64 fw_6_11 dX6_ride_130 ?_
  refine tt_lbm (fun m1 => ?_)
  refine tt_aload_n C 0 dX6_ride_133 rfl rfl ?_
  refine tt_getR C (j := 3) (r0 := 27) dX_24 rfl fl_RX6_18 dX6_ride_134 ?_
  refine tt_iload_n C 2 dX6_ride_137 rfl rfl ?_
  refine tt_aload_n C 0 dX6_ride_138 rfl rfl ?_
  refine tt_getI C (j := 8) dX_24 rfl fl_RX6_38 dX6_ride_139 ?_
  refine tt_aload_n C 0 dX6_ride_142 rfl rfl ?_
  refine tt_getI C (j := 10) dX_24 rfl fl_RX6_61 dX6_ride_143 ?_
  refine tt_iadd C dX6_ride_146 ?_
  refine tt_aload_n C 0 dX6_ride_147 rfl rfl ?_
  refine tt_getI C (j := 11) dX_24 rfl fl_RX6_64 dX6_ride_148 ?_
  refine tt_iadd C dX6_ride_151 ?_
  refine tt_gr (fun h1 => ?_)
  refine tt_iast C dX_27 h1 dX6_ride_152 ?_
  refine tt_lbm (fun m2 => ?_)
  refine tt_iload_n C 1 dX6_ride_153 rfl rfl ?_
  refine tt_aload_n C 0 dX6_ride_154 rfl rfl ?_
  refine tt_getR C (j := 0) (r0 := 3) dX_24 rfl fl_RX6_27 dX6_ride_155 ?_
  refine tt_iload C 3 dX6_ride_158 rfl ?_
  refine tt_iconst (v := (2 : Int32)) C dX6_ride_160 (by decide) ?_
  refine tt_bi (fun v4 m3 h2 => ?_)
  refine tt_callV (st := [.int x1]) (As := [.int x4, .int (2 : Int32)]) C (kX4_ofOrder C.2.2.2.2.2.2.2.1 3 hSh_3 h2) mi_X4_ofOrder ml_RX6_57 mv_X4_ofOrder ms_X4_ofOrder (q := (RX4, TX4, 8)) dX_3 rfl rfl (by decide) (by decide) (Nat.le_of_ble_eq_true rfl) dX6_ride_161 ?_
  refine tt_isub C dX6_ride_164 ?_
  refine tt_lbi (fun y5 => ?_)
  refine tt_istore_n (L2 := [(1, .int y5), (0, .ref (ad 24)), (3, .int x3), (4, .int x4)]) C dX6_ride_165 rfl (by decide) rfl ?_
  refine tt_aload_n C 1 dX6_ride_166 rfl rfl ?_
  refine tt_getR C (j := 0) (r0 := 3) dX_24 rfl fl_RX6_27 dX6_ride_167 ?_
  refine tt_iload C 3 dX6_ride_170 rfl ?_
  refine tt_iconst (v := (1 : Int32)) C dX6_ride_172 (by decide) ?_
  refine tt_bi (fun v7 m6 h3 => ?_)
  refine tt_callV (st := []) (As := [.int x4, .int (1 : Int32)]) C (kX4_ofOrder C.2.2.2.2.2.2.2.1 3 hSh_3 h3) mi_X4_ofOrder ml_RX6_57 mv_X4_ofOrder ms_X4_ofOrder (q := (RX4, TX4, 8)) dX_3 rfl rfl (by decide) (by decide) (Nat.le_of_ble_eq_true rfl) dX6_ride_173 ?_
  refine tt_istore_n (L2 := [(2, .int v7), (1, .int y5), (0, .ref (ad 24)), (3, .int x3), (4, .int x4)]) C dX6_ride_176 rfl (by decide) rfl ?_
  refine tt_iincB (d := (1 : Int32)) C 3 (fun y8 => [(3, .int y8), (2, .int v7), (1, .int y5), (0, .ref (ad 24)), (4, .int x4)]) dX6_ride_177 rfl (by decide) (by decide) (fun _ => rfl) (fun y8 => ?_)
  refine tt_goto (tgt := 49) C dX6_ride_180 (by decide) ?_
  refine tt_sub [3, 2, 1, 0] (L2 := [(0, .ref (ad 24)), (1, .int y5), (2, .int v7), (3, .int y8)]) rfl ?_
  exact hk49 y5 v7 y8 m6

def fX6_ride_J98 (k49 : Int32 → Int32 → Int32 → Mem → Option (Mem)) (x1 : Int32) (x3 : Int32) (x4 : Int32) (z1 : Int32) (z3 : Int32) (z4 : Int32) (z5 : Int32) (μ : Mem) : Option (Mem) := bi (fX4_minutesBetween 3 z3 z4 z5 μ) fun v2 m1 => lb (wr m1 24 10 (z1 + v2)) fun m3 => bi (fX4_ofOrder 3 x4 (0 : Int32) m3) fun v5 m4 => if v5 = (3 : Int32) then (fX6_ride_J129 k49 x1 x3 x4 (m3 24 11) (2 : Int32) m4) else (fX6_ride_J129 k49 x1 x3 x4 (m3 24 11) (1 : Int32) m4)
set_option maxHeartbeats 4000000 in
set_option maxRecDepth 100000 in
theorem wX6_ride_J98 {p : Program} {l : Launch} {e : Env} {s : State} {m : MethodId} {args : Array Value} {below : List Frame} {meth : Method} {c : Code} {A : Nat → Prop} {D : va_G} {ad : Nat → Nat} {cA : Nat → ClassId} (C : Cx p s m args meth c cX6_ride RX6 5 A dsX D ad cA (EX A ad)) (hr : meth.sig.returnType = none) (k49 : Int32 → Int32 → Int32 → Mem → Option (Mem)) (hk49 : ∀ (x1 : Int32) (x2 : Int32) (x3 : Int32) (μ : Mem), T p l e (rmD 2) s m args below meth c 5 A dsX D ad cA enV (k49 x1 x2 x3 μ) 49 [(0, .ref (ad 24)), (1, .int x1), (2, .int x2), (3, .int x3)] [] μ) (x1 : Int32) (x3 : Int32) (x4 : Int32) (z1 : Int32) (z3 : Int32) (z4 : Int32) (z5 : Int32) (μ : Mem) : T p l e (rmD 2) s m args below meth c 5 A dsX D ad cA enV (fX6_ride_J98 k49 x1 x3 x4 z1 z3 z4 z5 μ) 98 [(0, .ref (ad 24)), (1, .int x1), (3, .int x3), (4, .int x4)] [.int z5, .int z4, .int z3, .ref (ad 3), .int z1, .ref (ad 24)] μ := by
  unfold fX6_ride_J98
  refine tt_bi (fun v2 m1 h1 => ?_)
  refine tt_callV (st := [.int z1, .ref (ad 24)]) (As := [.int z3, .int z4, .int z5]) C (kX4_minutesBetween C.2.2.2.2.2.2.2.1 3 hSh_3 h1) mi_X4_minutesBetween ml_RX6_67 mv_X4_minutesBetween ms_X4_minutesBetween (q := (RX4, TX4, 8)) dX_3 rfl rfl (by decide) (by decide) (Nat.le_of_ble_eq_true rfl) dX6_ride_98 ?_
  refine tt_iadd C dX6_ride_101 ?_
  refine tt_putI C (j := 10) dX_24 rfl fl_RX6_61 fw_6_10 dX6_ride_102 ?_
  refine tt_lbm (fun m3 => ?_)
  refine tt_aload_n C 0 dX6_ride_105 rfl rfl ?_
  refine tt_dup C dX6_ride_106 rfl ?_
  refine tt_getI C (j := 11) dX_24 rfl fl_RX6_64 dX6_ride_107 ?_
  refine tt_aload_n C 0 dX6_ride_110 rfl rfl ?_
  refine tt_getR C (j := 0) (r0 := 3) dX_24 rfl fl_RX6_27 dX6_ride_111 ?_
  refine tt_iload C 3 dX6_ride_114 rfl ?_
  refine tt_iconst (v := (0 : Int32)) C dX6_ride_116 (by decide) ?_
  refine tt_bi (fun v5 m4 h2 => ?_)
  refine tt_callV (st := [.int (m3 24 11), .ref (ad 24)]) (As := [.int x4, .int (0 : Int32)]) C (kX4_ofOrder C.2.2.2.2.2.2.2.1 3 hSh_3 h2) mi_X4_ofOrder ml_RX6_57 mv_X4_ofOrder ms_X4_ofOrder (q := (RX4, TX4, 8)) dX_3 rfl rfl (by decide) (by decide) (Nat.le_of_ble_eq_true rfl) dX6_ride_117 ?_
  refine tt_iconst (v := (3 : Int32)) C dX6_ride_120 (by decide) ?_
  refine tt_if (fun h3 => ?_) (fun h3 => ?_)
  · refine tt_icmp_neF C 128 h3 dX6_ride_121 (by decide) ?_
    refine tt_iconst (v := (2 : Int32)) C dX6_ride_124 (by decide) ?_
    refine tt_goto (tgt := 129) C dX6_ride_125 (by decide) ?_
    refine tt_sub [0, 1, 2, 3] (L2 := [(0, .ref (ad 24)), (1, .int x1), (3, .int x3), (4, .int x4)]) rfl ?_
    exact wX6_ride_J129 C hr k49 hk49 x1 x3 x4 (m3 24 11) (2 : Int32) m4
  · refine tt_icmp_neT (tgt := 128) C h3 dX6_ride_121 (by decide) ?_
    refine tt_iconst (v := (1 : Int32)) C dX6_ride_128 (by decide) ?_
    refine tt_sub [0, 1, 2, 3] (L2 := [(0, .ref (ad 24)), (1, .int x1), (3, .int x3), (4, .int x4)]) rfl ?_
    exact wX6_ride_J129 C hr k49 hk49 x1 x3 x4 (m3 24 11) (1 : Int32) m4

def fX6_ride_L49 : Nat → Int32 → Int32 → Int32 → Mem → Option (Mem)
  | 0, _, _, _, _ => none
  | fu + 1, x1, x2, x3, μ => if (μ 24 6) ≤ x3 then (if x1 ≤ (μ 24 7) then (fX6_ride_J207 (μ 24 10) x2 (0 : Int32) (0 : Int32) μ) else (fX6_ride_J207 (μ 24 10) x2 (0 : Int32) (1 : Int32) μ)) else (gr x3 5 <| lb (μ 25 x3.toNatClampNeg) fun (y1 : Int32) => bi (fX4_ofOrder 3 y1 (1 : Int32) μ) fun v3 m2 => if x1 ≤ (m2 24 7) then (fX6_ride_J98 (fun x1 x2 x3 μ => fX6_ride_L49 fu x1 x2 x3 μ) x1 x3 y1 (μ 24 10) x2 v3 (0 : Int32) m2) else (fX6_ride_J98 (fun x1 x2 x3 μ => fX6_ride_L49 fu x1 x2 x3 μ) x1 x3 y1 (μ 24 10) x2 v3 (1 : Int32) m2))
set_option maxHeartbeats 4000000 in
set_option maxRecDepth 100000 in
theorem wX6_ride_L49 {p : Program} {l : Launch} {e : Env} {s : State} {m : MethodId} {args : Array Value} {below : List Frame} {meth : Method} {c : Code} {A : Nat → Prop} {D : va_G} {ad : Nat → Nat} {cA : Nat → ClassId} (C : Cx p s m args meth c cX6_ride RX6 5 A dsX D ad cA (EX A ad)) (hr : meth.sig.returnType = none) : ∀ (fu : Nat) (x1 : Int32) (x2 : Int32) (x3 : Int32) (μ : Mem), T p l e (rmD 2) s m args below meth c 5 A dsX D ad cA enV (fX6_ride_L49 fu x1 x2 x3 μ) 49 [(0, .ref (ad 24)), (1, .int x1), (2, .int x2), (3, .int x3)] [] μ
  | 0, _, _, _, _ => tt_none
  | fu + 1, x1, x2, x3, μ => by
    have ih := fun (x1 : Int32) (x2 : Int32) (x3 : Int32) (μ : Mem) => wX6_ride_L49 (l := l) (e := e) (below := below) C hr fu x1 x2 x3 μ
    show T p l e (rmD 2) s m args below meth c 5 A dsX D ad cA enV (if (μ 24 6) ≤ x3 then (if x1 ≤ (μ 24 7) then (fX6_ride_J207 (μ 24 10) x2 (0 : Int32) (0 : Int32) μ) else (fX6_ride_J207 (μ 24 10) x2 (0 : Int32) (1 : Int32) μ)) else (gr x3 5 <| lb (μ 25 x3.toNatClampNeg) fun (y1 : Int32) => bi (fX4_ofOrder 3 y1 (1 : Int32) μ) fun v3 m2 => if x1 ≤ (m2 24 7) then (fX6_ride_J98 (fun x1 x2 x3 μ => fX6_ride_L49 fu x1 x2 x3 μ) x1 x3 y1 (μ 24 10) x2 v3 (0 : Int32) m2) else (fX6_ride_J98 (fun x1 x2 x3 μ => fX6_ride_L49 fu x1 x2 x3 μ) x1 x3 y1 (μ 24 10) x2 v3 (1 : Int32) m2))) 49 [(0, .ref (ad 24)), (1, .int x1), (2, .int x2), (3, .int x3)] [] μ
    refine tt_iload_n C 3 dX6_ride_49 rfl rfl ?_
    refine tt_aload_n C 0 dX6_ride_50 rfl rfl ?_
    refine tt_getI C (j := 6) dX_24 rfl fl_RX6_48 dX6_ride_51 ?_
    refine tt_if (fun h1 => ?_) (fun h1 => ?_)
    · refine tt_icmp_geT (tgt := 183) C h1 dX6_ride_54 (by decide) ?_
      refine tt_aload_n C 0 dX6_ride_183 rfl rfl ?_
      refine tt_dup C dX6_ride_184 rfl ?_
      refine tt_getI C (j := 10) dX_24 rfl fl_RX6_61 dX6_ride_185 ?_
      refine tt_aload_n C 0 dX6_ride_188 rfl rfl ?_
      refine tt_getR C (j := 0) (r0 := 3) dX_24 rfl fl_RX6_27 dX6_ride_189 ?_
      refine tt_iload_n C 2 dX6_ride_192 rfl rfl ?_
      refine tt_iconst (v := (0 : Int32)) C dX6_ride_193 (by decide) ?_
      refine tt_iload_n C 1 dX6_ride_194 rfl rfl ?_
      refine tt_aload_n C 0 dX6_ride_195 rfl rfl ?_
      refine tt_getI C (j := 7) dX_24 rfl fl_RX6_37 dX6_ride_196 ?_
      refine tt_if (fun h2 => ?_) (fun h2 => ?_)
      · refine tt_icmp_leT (tgt := 206) C h2 dX6_ride_199 (by decide) ?_
        refine tt_iconst (v := (0 : Int32)) C dX6_ride_206 (by decide) ?_
        refine tt_sub [] (L2 := []) rfl ?_
        exact wX6_ride_J207 C hr (μ 24 10) x2 (0 : Int32) (0 : Int32) μ
      · refine tt_icmp_leF C 206 h2 dX6_ride_199 (by decide) ?_
        refine tt_iconst (v := (1 : Int32)) C dX6_ride_202 (by decide) ?_
        refine tt_goto (tgt := 207) C dX6_ride_203 (by decide) ?_
        refine tt_sub [] (L2 := []) rfl ?_
        exact wX6_ride_J207 C hr (μ 24 10) x2 (0 : Int32) (1 : Int32) μ
    · refine tt_icmp_geF C 183 h1 dX6_ride_54 (by decide) ?_
      refine tt_aload_n C 0 dX6_ride_57 rfl rfl ?_
      refine tt_getR C (j := 1) (r0 := 25) dX_24 rfl fl_RX6_9 dX6_ride_58 ?_
      refine tt_iload_n C 3 dX6_ride_61 rfl rfl ?_
      refine tt_gr (fun h3 => ?_)
      refine tt_iald C dX_25 h3 dX6_ride_62 ?_
      refine tt_lbi (fun y1 => ?_)
      refine tt_istore (L2 := [(4, .int y1), (0, .ref (ad 24)), (1, .int x1), (2, .int x2), (3, .int x3)]) C dX6_ride_63 (by decide) rfl ?_
      refine tt_aload_n C 1 dX6_ride_65 rfl rfl ?_
      refine tt_dup C dX6_ride_66 rfl ?_
      refine tt_getI C (j := 10) dX_24 rfl fl_RX6_61 dX6_ride_67 ?_
      refine tt_aload_n C 1 dX6_ride_70 rfl rfl ?_
      refine tt_getR C (j := 0) (r0 := 3) dX_24 rfl fl_RX6_27 dX6_ride_71 ?_
      refine tt_iload_n C 3 dX6_ride_74 rfl rfl ?_
      refine tt_aload_n C 1 dX6_ride_75 rfl rfl ?_
      refine tt_getR C (j := 0) (r0 := 3) dX_24 rfl fl_RX6_27 dX6_ride_76 ?_
      refine tt_iload C 0 dX6_ride_79 rfl ?_
      refine tt_iconst (v := (1 : Int32)) C dX6_ride_81 (by decide) ?_
      refine tt_bi (fun v3 m2 h4 => ?_)
      refine tt_callV (st := [.int x2, .ref (ad 3), .int (μ 24 10), .ref (ad 24)]) (As := [.int y1, .int (1 : Int32)]) C (kX4_ofOrder C.2.2.2.2.2.2.2.1 3 hSh_3 h4) mi_X4_ofOrder ml_RX6_57 mv_X4_ofOrder ms_X4_ofOrder (q := (RX4, TX4, 8)) dX_3 rfl rfl (by decide) (by decide) (Nat.le_of_ble_eq_true rfl) dX6_ride_82 ?_
      refine tt_iload_n C 2 dX6_ride_85 rfl rfl ?_
      refine tt_aload_n C 1 dX6_ride_86 rfl rfl ?_
      refine tt_getI C (j := 7) dX_24 rfl fl_RX6_37 dX6_ride_87 ?_
      refine tt_if (fun h5 => ?_) (fun h5 => ?_)
      · refine tt_icmp_leT (tgt := 97) C h5 dX6_ride_90 (by decide) ?_
        refine tt_iconst (v := (0 : Int32)) C dX6_ride_97 (by decide) ?_
        refine tt_sub [1, 2, 4, 0] (L2 := [(0, .ref (ad 24)), (1, .int x1), (3, .int x3), (4, .int y1)]) rfl ?_
        exact wX6_ride_J98 C hr (fun x1 x2 x3 μ => fX6_ride_L49 fu x1 x2 x3 μ) (fun x1 x2 x3 μ => ih x1 x2 x3 μ) x1 x3 y1 (μ 24 10) x2 v3 (0 : Int32) m2
      · refine tt_icmp_leF C 97 h5 dX6_ride_90 (by decide) ?_
        refine tt_iconst (v := (1 : Int32)) C dX6_ride_93 (by decide) ?_
        refine tt_goto (tgt := 98) C dX6_ride_94 (by decide) ?_
        refine tt_sub [1, 2, 4, 0] (L2 := [(0, .ref (ad 24)), (1, .int x1), (3, .int x3), (4, .int y1)]) rfl ?_
        exact wX6_ride_J98 C hr (fun x1 x2 x3 μ => fX6_ride_L49 fu x1 x2 x3 μ) (fun x1 x2 x3 μ => ih x1 x2 x3 μ) x1 x3 y1 (μ 24 10) x2 v3 (1 : Int32) m2

def fX6_ride_L4 : Nat → Int32 → Int32 → Mem → Option (Mem)
  | 0, _, _, _ => none
  | fu + 1, x1, x2, μ => if (μ 24 6) ≤ x2 then (lb (wr μ 24 10 (0 : Int32)) fun m1 => lb (wr m1 24 11 (0 : Int32)) fun m2 => lb (0 : Int32) fun (y3 : Int32) => lb (0 : Int32) fun (y4 : Int32) => fX6_ride_L49 FU x1 y3 y4 m2) else (gr x2 5 <| bi (fX4_ofOrder 3 (μ 25 x2.toNatClampNeg) (2 : Int32) μ) fun v6 m5 => lb (x1 + v6) fun (y7 : Int32) => lb (x2 + (1 : Int32)) fun (y8 : Int32) => fX6_ride_L4 fu y7 y8 m5)
set_option maxHeartbeats 4000000 in
set_option maxRecDepth 100000 in
theorem wX6_ride_L4 {p : Program} {l : Launch} {e : Env} {s : State} {m : MethodId} {args : Array Value} {below : List Frame} {meth : Method} {c : Code} {A : Nat → Prop} {D : va_G} {ad : Nat → Nat} {cA : Nat → ClassId} (C : Cx p s m args meth c cX6_ride RX6 5 A dsX D ad cA (EX A ad)) (hr : meth.sig.returnType = none) : ∀ (fu : Nat) (x1 : Int32) (x2 : Int32) (μ : Mem), T p l e (rmD 2) s m args below meth c 5 A dsX D ad cA enV (fX6_ride_L4 fu x1 x2 μ) 4 [(0, .ref (ad 24)), (1, .int x1), (2, .int x2)] [] μ
  | 0, _, _, _ => tt_none
  | fu + 1, x1, x2, μ => by
    have ih := fun (x1 : Int32) (x2 : Int32) (μ : Mem) => wX6_ride_L4 (l := l) (e := e) (below := below) C hr fu x1 x2 μ
    show T p l e (rmD 2) s m args below meth c 5 A dsX D ad cA enV (if (μ 24 6) ≤ x2 then (lb (wr μ 24 10 (0 : Int32)) fun m1 => lb (wr m1 24 11 (0 : Int32)) fun m2 => lb (0 : Int32) fun (y3 : Int32) => lb (0 : Int32) fun (y4 : Int32) => fX6_ride_L49 FU x1 y3 y4 m2) else (gr x2 5 <| bi (fX4_ofOrder 3 (μ 25 x2.toNatClampNeg) (2 : Int32) μ) fun v6 m5 => lb (x1 + v6) fun (y7 : Int32) => lb (x2 + (1 : Int32)) fun (y8 : Int32) => fX6_ride_L4 fu y7 y8 m5)) 4 [(0, .ref (ad 24)), (1, .int x1), (2, .int x2)] [] μ
    refine tt_iload_n C 2 dX6_ride_4 rfl rfl ?_
    refine tt_aload_n C 0 dX6_ride_5 rfl rfl ?_
    refine tt_getI C (j := 6) dX_24 rfl fl_RX6_48 dX6_ride_6 ?_
    refine tt_if (fun h1 => ?_) (fun h1 => ?_)
    · refine tt_icmp_geT (tgt := 35) C h1 dX6_ride_9 (by decide) ?_
      refine tt_aload_n C 0 dX6_ride_35 rfl rfl ?_
      refine tt_iconst (v := (0 : Int32)) C dX6_ride_36 (by decide) ?_
      refine tt_putI C (j := 10) dX_24 rfl fl_RX6_61 fw_6_10 dX6_ride_37 ?_
      refine tt_lbm (fun m1 => ?_)
      refine tt_aload_n C 0 dX6_ride_40 rfl rfl ?_
      refine tt_iconst (v := (0 : Int32)) C dX6_ride_41 (by decide) ?_
      refine tt_putI C (j := 11) dX_24 rfl fl_RX6_64 fw_6_11 dX6_ride_42 ?_
      refine tt_lbm (fun m2 => ?_)
      refine tt_iconst (v := (0 : Int32)) C dX6_ride_45 (by decide) ?_
      refine tt_lbi (fun y3 => ?_)
      refine tt_istore_n (L2 := [(2, .int y3), (0, .ref (ad 24)), (1, .int x1)]) C dX6_ride_46 rfl (by decide) rfl ?_
      refine tt_iconst (v := (0 : Int32)) C dX6_ride_47 (by decide) ?_
      refine tt_lbi (fun y4 => ?_)
      refine tt_istore_n (L2 := [(3, .int y4), (2, .int y3), (0, .ref (ad 24)), (1, .int x1)]) C dX6_ride_48 rfl (by decide) rfl ?_
      refine tt_sub [2, 3, 1, 0] (L2 := [(0, .ref (ad 24)), (1, .int x1), (2, .int y3), (3, .int y4)]) rfl ?_
      exact wX6_ride_L49 C hr FU x1 y3 y4 m2
    · refine tt_icmp_geF C 35 h1 dX6_ride_9 (by decide) ?_
      refine tt_iload_n C 1 dX6_ride_12 rfl rfl ?_
      refine tt_aload_n C 0 dX6_ride_13 rfl rfl ?_
      refine tt_getR C (j := 0) (r0 := 3) dX_24 rfl fl_RX6_27 dX6_ride_14 ?_
      refine tt_aload_n C 0 dX6_ride_17 rfl rfl ?_
      refine tt_getR C (j := 1) (r0 := 25) dX_24 rfl fl_RX6_9 dX6_ride_18 ?_
      refine tt_iload_n C 2 dX6_ride_21 rfl rfl ?_
      refine tt_gr (fun h2 => ?_)
      refine tt_iald C dX_25 h2 dX6_ride_22 ?_
      refine tt_iconst (v := (2 : Int32)) C dX6_ride_23 (by decide) ?_
      refine tt_bi (fun v6 m5 h3 => ?_)
      refine tt_callV (st := [.int x1]) (As := [.int (μ 25 x2.toNatClampNeg), .int (2 : Int32)]) C (kX4_ofOrder C.2.2.2.2.2.2.2.1 3 hSh_3 h3) mi_X4_ofOrder ml_RX6_57 mv_X4_ofOrder ms_X4_ofOrder (q := (RX4, TX4, 8)) dX_3 rfl rfl (by decide) (by decide) (Nat.le_of_ble_eq_true rfl) dX6_ride_24 ?_
      refine tt_iadd C dX6_ride_27 ?_
      refine tt_lbi (fun y7 => ?_)
      refine tt_istore_n (L2 := [(1, .int y7), (0, .ref (ad 24)), (2, .int x2)]) C dX6_ride_28 rfl (by decide) rfl ?_
      refine tt_iincB (d := (1 : Int32)) C 2 (fun y8 => [(2, .int y8), (1, .int y7), (0, .ref (ad 24))]) dX6_ride_29 rfl (by decide) (by decide) (fun _ => rfl) (fun y8 => ?_)
      refine tt_goto (tgt := 4) C dX6_ride_32 (by decide) ?_
      refine tt_sub [2, 1, 0] (L2 := [(0, .ref (ad 24)), (1, .int y7), (2, .int y8)]) rfl ?_
      exact ih y7 y8 m5

def fX6_ride (μ : Mem) : Option (Mem) := lb (0 : Int32) fun (y1 : Int32) => lb (0 : Int32) fun (y2 : Int32) => fX6_ride_L4 FU y1 y2 μ
set_option maxHeartbeats 4000000 in
set_option maxRecDepth 100000 in
theorem wX6_ride {p : Program} {l : Launch} {e : Env} {s : State} {m : MethodId} {args : Array Value} {below : List Frame} {meth : Method} {c : Code} {A : Nat → Prop} {D : va_G} {ad : Nat → Nat} {cA : Nat → ClassId} (C : Cx p s m args meth c cX6_ride RX6 5 A dsX D ad cA (EX A ad)) (hr : meth.sig.returnType = none) (μ : Mem) : T p l e (rmD 2) s m args below meth c 5 A dsX D ad cA enV (fX6_ride μ) 0 [(0, .ref (ad 24))] [] μ := by
  unfold fX6_ride
  refine tt_iconst (v := (0 : Int32)) C dX6_ride_0 (by decide) ?_
  refine tt_lbi (fun y1 => ?_)
  refine tt_istore_n (L2 := [(1, .int y1), (0, .ref (ad 24))]) C dX6_ride_1 rfl (by decide) rfl ?_
  refine tt_iconst (v := (0 : Int32)) C dX6_ride_2 (by decide) ?_
  refine tt_lbi (fun y2 => ?_)
  refine tt_istore_n (L2 := [(2, .int y2), (1, .int y1), (0, .ref (ad 24))]) C dX6_ride_3 rfl (by decide) rfl ?_
  refine tt_sub [2, 1, 0] (L2 := [(0, .ref (ad 24)), (1, .int y1), (2, .int y2)]) rfl ?_
  exact wX6_ride_L4 C hr FU y1 y2 μ
theorem kX6_ride {l : Launch} {A : Nat → Prop} {D : va_G} {ad : Nat → Nat} {cA : Nat → ClassId} (hPk : Pk A dsX ad cA (EX A ad)) {μ : Mem} {ν : Mem} (h : fX6_ride μ = some ν) : Ct l A dsX D ad cA (EX A ad) yX6_ride cX6_ride 5 none 2 [.ref (ad 24)] μ (enV ν) :=
  ct_of (by decide) (Nat.le_of_ble_eq_true rfl) hPk rfl (fun p e s m args below meth c C hr => wX6_ride C hr μ) h

/-! BasketRound$Trip.stow()V -/
def fX6_stow_J111 (k14 : Int32 → Int32 → Int32 → Int32 → Mem → Option (Mem)) (x1 : Int32) (x2 : Int32) (x4 : Int32) (z0 : Int32) (μ : Mem) : Option (Mem) := lb (x4 + (1 : Int32)) fun (y1 : Int32) => k14 x1 x2 z0 y1 μ
set_option maxHeartbeats 4000000 in
set_option maxRecDepth 100000 in
theorem wX6_stow_J111 {p : Program} {l : Launch} {e : Env} {s : State} {m : MethodId} {args : Array Value} {below : List Frame} {meth : Method} {c : Code} {A : Nat → Prop} {D : va_G} {ad : Nat → Nat} {cA : Nat → ClassId} (C : Cx p s m args meth c cX6_stow RX6 7 A dsX D ad cA (EX A ad)) (hr : meth.sig.returnType = none) (k14 : Int32 → Int32 → Int32 → Int32 → Mem → Option (Mem)) (hk14 : ∀ (x1 : Int32) (x2 : Int32) (x3 : Int32) (x4 : Int32) (μ : Mem), T p l e (rmD 1) s m args below meth c 7 A dsX D ad cA enV (k14 x1 x2 x3 x4 μ) 14 [(0, .ref (ad 24)), (1, .int x1), (2, .int x2), (3, .int x3), (4, .int x4)] [] μ) (x1 : Int32) (x2 : Int32) (x4 : Int32) (z0 : Int32) (μ : Mem) : T p l e (rmD 1) s m args below meth c 7 A dsX D ad cA enV (fX6_stow_J111 k14 x1 x2 x4 z0 μ) 111 [(0, .ref (ad 24)), (1, .int x1), (2, .int x2), (4, .int x4)] [.int z0] μ := by
  unfold fX6_stow_J111
  refine tt_istore_n (L2 := [(3, .int z0), (0, .ref (ad 24)), (1, .int x1), (2, .int x2), (4, .int x4)]) C dX6_stow_111 rfl (by decide) rfl ?_
  refine tt_iincB (d := (1 : Int32)) C 4 (fun y1 => [(4, .int y1), (3, .int z0), (0, .ref (ad 24)), (1, .int x1), (2, .int x2)]) dX6_stow_112 rfl (by decide) (by decide) (fun _ => rfl) (fun y1 => ?_)
  refine tt_goto (tgt := 14) C dX6_stow_115 (by decide) ?_
  refine tt_sub [2, 3, 4, 1, 0] (L2 := [(0, .ref (ad 24)), (1, .int x1), (2, .int x2), (3, .int z0), (4, .int y1)]) rfl ?_
  exact hk14 x1 x2 z0 y1 μ

def fX6_stow_J72 (k14 : Int32 → Int32 → Int32 → Int32 → Mem → Option (Mem)) (x1 : Int32) (x2 : Int32) (x4 : Int32) (x5 : Int32) (x6 : Int32) (μ : Mem) : Option (Mem) := gr x5 5 <| lb (wr μ 28 x5.toNatClampNeg x2) fun m1 => lb (x2 ||| ((1 : Int32) <<< (x5 &&& 31))) fun (y2 : Int32) => bi (fX4_ofOrder 3 x5 (2 : Int32) m1) fun v4 m3 => lb (x1 + v4) fun (y5 : Int32) => if x6 = (4 : Int32) then (fX6_stow_J111 k14 y5 y2 x4 (1 : Int32) m3) else (fX6_stow_J111 k14 y5 y2 x4 (0 : Int32) m3)
set_option maxHeartbeats 4000000 in
set_option maxRecDepth 100000 in
theorem wX6_stow_J72 {p : Program} {l : Launch} {e : Env} {s : State} {m : MethodId} {args : Array Value} {below : List Frame} {meth : Method} {c : Code} {A : Nat → Prop} {D : va_G} {ad : Nat → Nat} {cA : Nat → ClassId} (C : Cx p s m args meth c cX6_stow RX6 7 A dsX D ad cA (EX A ad)) (hr : meth.sig.returnType = none) (k14 : Int32 → Int32 → Int32 → Int32 → Mem → Option (Mem)) (hk14 : ∀ (x1 : Int32) (x2 : Int32) (x3 : Int32) (x4 : Int32) (μ : Mem), T p l e (rmD 1) s m args below meth c 7 A dsX D ad cA enV (k14 x1 x2 x3 x4 μ) 14 [(0, .ref (ad 24)), (1, .int x1), (2, .int x2), (3, .int x3), (4, .int x4)] [] μ) (x1 : Int32) (x2 : Int32) (x4 : Int32) (x5 : Int32) (x6 : Int32) (μ : Mem) : T p l e (rmD 1) s m args below meth c 7 A dsX D ad cA enV (fX6_stow_J72 k14 x1 x2 x4 x5 x6 μ) 72 [(0, .ref (ad 24)), (1, .int x1), (2, .int x2), (4, .int x4), (5, .int x5), (6, .int x6)] [] μ := by
  unfold fX6_stow_J72
  refine tt_aload_n C 0 dX6_stow_72 rfl rfl ?_
  refine tt_getR C (j := 4) (r0 := 28) dX_24 rfl fl_RX6_21 dX6_stow_73 ?_
  refine tt_iload C 4 dX6_stow_76 rfl ?_
  refine tt_iload_n C 2 dX6_stow_78 rfl rfl ?_
  refine tt_gr (fun h1 => ?_)
  refine tt_iast C dX_28 h1 dX6_stow_79 ?_
  refine tt_lbm (fun m1 => ?_)
  refine tt_iload_n C 2 dX6_stow_80 rfl rfl ?_
  refine tt_iconst (v := (1 : Int32)) C dX6_stow_81 (by decide) ?_
  refine tt_iload C 4 dX6_stow_82 rfl ?_
  refine tt_ishl C dX6_stow_84 ?_
  refine tt_ior C dX6_stow_85 ?_
  refine tt_lbi (fun y2 => ?_)
  refine tt_istore_n (L2 := [(2, .int y2), (0, .ref (ad 24)), (1, .int x1), (4, .int x4), (5, .int x5), (6, .int x6)]) C dX6_stow_86 rfl (by decide) rfl ?_
  refine tt_iload_n C 2 dX6_stow_87 rfl rfl ?_
  refine tt_aload_n C 1 dX6_stow_88 rfl rfl ?_
  refine tt_getR C (j := 0) (r0 := 3) dX_24 rfl fl_RX6_27 dX6_stow_89 ?_
  refine tt_iload C 4 dX6_stow_92 rfl ?_
  refine tt_iconst (v := (2 : Int32)) C dX6_stow_94 (by decide) ?_
  refine tt_bi (fun v4 m3 h2 => ?_)
  refine tt_callV (st := [.int x1]) (As := [.int x5, .int (2 : Int32)]) C (kX4_ofOrder C.2.2.2.2.2.2.2.1 3 hSh_3 h2) mi_X4_ofOrder ml_RX6_57 mv_X4_ofOrder ms_X4_ofOrder (q := (RX4, TX4, 8)) dX_3 rfl rfl (by decide) (by decide) (Nat.le_of_ble_eq_true rfl) dX6_stow_95 ?_
  refine tt_iadd C dX6_stow_98 ?_
  refine tt_lbi (fun y5 => ?_)
  refine tt_istore_n (L2 := [(1, .int y5), (2, .int y2), (0, .ref (ad 24)), (4, .int x4), (5, .int x5), (6, .int x6)]) C dX6_stow_99 rfl (by decide) rfl ?_
  refine tt_iload C 5 dX6_stow_100 rfl ?_
  refine tt_iconst (v := (4 : Int32)) C dX6_stow_102 (by decide) ?_
  refine tt_if (fun h3 => ?_) (fun h3 => ?_)
  · refine tt_icmp_neF C 110 h3 dX6_stow_103 (by decide) ?_
    refine tt_iconst (v := (1 : Int32)) C dX6_stow_106 (by decide) ?_
    refine tt_goto (tgt := 111) C dX6_stow_107 (by decide) ?_
    refine tt_sub [2, 0, 1, 3] (L2 := [(0, .ref (ad 24)), (1, .int y5), (2, .int y2), (4, .int x4)]) rfl ?_
    exact wX6_stow_J111 C hr k14 hk14 y5 y2 x4 (1 : Int32) m3
  · refine tt_icmp_neT (tgt := 110) C h3 dX6_stow_103 (by decide) ?_
    refine tt_iconst (v := (0 : Int32)) C dX6_stow_110 (by decide) ?_
    refine tt_sub [2, 0, 1, 3] (L2 := [(0, .ref (ad 24)), (1, .int y5), (2, .int y2), (4, .int x4)]) rfl ?_
    exact wX6_stow_J111 C hr k14 hk14 y5 y2 x4 (0 : Int32) m3

def fX6_stow_J59 (k14 : Int32 → Int32 → Int32 → Int32 → Mem → Option (Mem)) (x1 : Int32) (x2 : Int32) (x4 : Int32) (x5 : Int32) (x6 : Int32) (μ : Mem) : Option (Mem) := lb (wr μ 24 9 ((μ 24 9) ||| ((1 : Int32) <<< (x5 &&& 31)))) fun m1 => fX6_stow_J72 k14 x1 x2 x4 x5 x6 m1
set_option maxHeartbeats 4000000 in
set_option maxRecDepth 100000 in
theorem wX6_stow_J59 {p : Program} {l : Launch} {e : Env} {s : State} {m : MethodId} {args : Array Value} {below : List Frame} {meth : Method} {c : Code} {A : Nat → Prop} {D : va_G} {ad : Nat → Nat} {cA : Nat → ClassId} (C : Cx p s m args meth c cX6_stow RX6 7 A dsX D ad cA (EX A ad)) (hr : meth.sig.returnType = none) (k14 : Int32 → Int32 → Int32 → Int32 → Mem → Option (Mem)) (hk14 : ∀ (x1 : Int32) (x2 : Int32) (x3 : Int32) (x4 : Int32) (μ : Mem), T p l e (rmD 1) s m args below meth c 7 A dsX D ad cA enV (k14 x1 x2 x3 x4 μ) 14 [(0, .ref (ad 24)), (1, .int x1), (2, .int x2), (3, .int x3), (4, .int x4)] [] μ) (x1 : Int32) (x2 : Int32) (x4 : Int32) (x5 : Int32) (x6 : Int32) (μ : Mem) : T p l e (rmD 1) s m args below meth c 7 A dsX D ad cA enV (fX6_stow_J59 k14 x1 x2 x4 x5 x6 μ) 59 [(0, .ref (ad 24)), (1, .int x1), (2, .int x2), (4, .int x4), (5, .int x5), (6, .int x6)] [] μ := by
  unfold fX6_stow_J59
  refine tt_aload_n C 0 dX6_stow_59 rfl rfl ?_
  refine tt_dup C dX6_stow_60 rfl ?_
  refine tt_getI C (j := 9) dX_24 rfl fl_RX6_71 dX6_stow_61 ?_
  refine tt_iconst (v := (1 : Int32)) C dX6_stow_64 (by decide) ?_
  refine tt_iload C 4 dX6_stow_65 rfl ?_
  refine tt_ishl C dX6_stow_67 ?_
  refine tt_ior C dX6_stow_68 ?_
  refine tt_putI C (j := 9) dX_24 rfl fl_RX6_71 fw_6_9 dX6_stow_69 ?_
  refine tt_lbm (fun m1 => ?_)
  refine tt_sub [0, 1, 2, 3, 4, 5] (L2 := [(0, .ref (ad 24)), (1, .int x1), (2, .int x2), (4, .int x4), (5, .int x5), (6, .int x6)]) rfl ?_
  exact wX6_stow_J72 C hr k14 hk14 x1 x2 x4 x5 x6 m1

def fX6_stow_L14 : Nat → Int32 → Int32 → Int32 → Int32 → Mem → Option (Mem)
  | 0, _, _, _, _, _ => none
  | fu + 1, x1, x2, x3, x4, μ => if (μ 24 6) ≤ x4 then (some μ) else (gr x4 5 <| lb (μ 26 x4.toNatClampNeg) fun (y1 : Int32) => bi (fX4_ofOrder 3 y1 (0 : Int32) μ) fun v3 m2 => if x3 = (0 : Int32) then (if v3 = (1 : Int32) then (if x1 ≤ (5 : Int32) then (fX6_stow_J72 (fun x1 x2 x3 x4 μ => fX6_stow_L14 fu x1 x2 x3 x4 μ) x1 x2 x4 y1 v3 m2) else (fX6_stow_J59 (fun x1 x2 x3 x4 μ => fX6_stow_L14 fu x1 x2 x3 x4 μ) x1 x2 x4 y1 v3 m2)) else (fX6_stow_J72 (fun x1 x2 x3 x4 μ => fX6_stow_L14 fu x1 x2 x3 x4 μ) x1 x2 x4 y1 v3 m2)) else (fX6_stow_J59 (fun x1 x2 x3 x4 μ => fX6_stow_L14 fu x1 x2 x3 x4 μ) x1 x2 x4 y1 v3 m2))
set_option maxHeartbeats 4000000 in
set_option maxRecDepth 100000 in
theorem wX6_stow_L14 {p : Program} {l : Launch} {e : Env} {s : State} {m : MethodId} {args : Array Value} {below : List Frame} {meth : Method} {c : Code} {A : Nat → Prop} {D : va_G} {ad : Nat → Nat} {cA : Nat → ClassId} (C : Cx p s m args meth c cX6_stow RX6 7 A dsX D ad cA (EX A ad)) (hr : meth.sig.returnType = none) : ∀ (fu : Nat) (x1 : Int32) (x2 : Int32) (x3 : Int32) (x4 : Int32) (μ : Mem), T p l e (rmD 1) s m args below meth c 7 A dsX D ad cA enV (fX6_stow_L14 fu x1 x2 x3 x4 μ) 14 [(0, .ref (ad 24)), (1, .int x1), (2, .int x2), (3, .int x3), (4, .int x4)] [] μ
  | 0, _, _, _, _, _ => tt_none
  | fu + 1, x1, x2, x3, x4, μ => by
    have ih := fun (x1 : Int32) (x2 : Int32) (x3 : Int32) (x4 : Int32) (μ : Mem) => wX6_stow_L14 (l := l) (e := e) (below := below) C hr fu x1 x2 x3 x4 μ
    show T p l e (rmD 1) s m args below meth c 7 A dsX D ad cA enV (if (μ 24 6) ≤ x4 then (some μ) else (gr x4 5 <| lb (μ 26 x4.toNatClampNeg) fun (y1 : Int32) => bi (fX4_ofOrder 3 y1 (0 : Int32) μ) fun v3 m2 => if x3 = (0 : Int32) then (if v3 = (1 : Int32) then (if x1 ≤ (5 : Int32) then (fX6_stow_J72 (fun x1 x2 x3 x4 μ => fX6_stow_L14 fu x1 x2 x3 x4 μ) x1 x2 x4 y1 v3 m2) else (fX6_stow_J59 (fun x1 x2 x3 x4 μ => fX6_stow_L14 fu x1 x2 x3 x4 μ) x1 x2 x4 y1 v3 m2)) else (fX6_stow_J72 (fun x1 x2 x3 x4 μ => fX6_stow_L14 fu x1 x2 x3 x4 μ) x1 x2 x4 y1 v3 m2)) else (fX6_stow_J59 (fun x1 x2 x3 x4 μ => fX6_stow_L14 fu x1 x2 x3 x4 μ) x1 x2 x4 y1 v3 m2))) 14 [(0, .ref (ad 24)), (1, .int x1), (2, .int x2), (3, .int x3), (4, .int x4)] [] μ
    refine tt_iload C 4 dX6_stow_14 rfl ?_
    refine tt_aload_n C 0 dX6_stow_16 rfl rfl ?_
    refine tt_getI C (j := 6) dX_24 rfl fl_RX6_48 dX6_stow_17 ?_
    refine tt_if (fun h1 => ?_) (fun h1 => ?_)
    · refine tt_icmp_geT (tgt := 118) C h1 dX6_stow_20 (by decide) ?_
      exact tt_vret rfl C hr dX6_stow_118
    · refine tt_icmp_geF C 118 h1 dX6_stow_20 (by decide) ?_
      refine tt_aload_n C 0 dX6_stow_23 rfl rfl ?_
      refine tt_getR C (j := 2) (r0 := 26) dX_24 rfl fl_RX6_15 dX6_stow_24 ?_
      refine tt_iload C 4 dX6_stow_27 rfl ?_
      refine tt_gr (fun h2 => ?_)
      refine tt_iald C dX_26 h2 dX6_stow_29 ?_
      refine tt_lbi (fun y1 => ?_)
      refine tt_istore (L2 := [(5, .int y1), (0, .ref (ad 24)), (1, .int x1), (2, .int x2), (3, .int x3), (4, .int x4)]) C dX6_stow_30 (by decide) rfl ?_
      refine tt_aload_n C 1 dX6_stow_32 rfl rfl ?_
      refine tt_getR C (j := 0) (r0 := 3) dX_24 rfl fl_RX6_27 dX6_stow_33 ?_
      refine tt_iload C 0 dX6_stow_36 rfl ?_
      refine tt_iconst (v := (0 : Int32)) C dX6_stow_38 (by decide) ?_
      refine tt_bi (fun v3 m2 h3 => ?_)
      refine tt_callV (st := []) (As := [.int y1, .int (0 : Int32)]) C (kX4_ofOrder C.2.2.2.2.2.2.2.1 3 hSh_3 h3) mi_X4_ofOrder ml_RX6_57 mv_X4_ofOrder ms_X4_ofOrder (q := (RX4, TX4, 8)) dX_3 rfl rfl (by decide) (by decide) (Nat.le_of_ble_eq_true rfl) dX6_stow_39 ?_
      refine tt_istore (L2 := [(6, .int v3), (5, .int y1), (0, .ref (ad 24)), (1, .int x1), (2, .int x2), (3, .int x3), (4, .int x4)]) C dX6_stow_42 (by decide) rfl ?_
      refine tt_iload_n C 5 dX6_stow_44 rfl rfl ?_
      refine tt_if (fun h4 => ?_) (fun h4 => ?_)
      · refine tt_if_neF C 59 h4 dX6_stow_45 (by decide) ?_
        refine tt_iload C 0 dX6_stow_48 rfl ?_
        refine tt_iconst (v := (1 : Int32)) C dX6_stow_50 (by decide) ?_
        refine tt_if (fun h5 => ?_) (fun h5 => ?_)
        · refine tt_icmp_neF C 72 h5 dX6_stow_51 (by decide) ?_
          refine tt_iload_n C 3 dX6_stow_54 rfl rfl ?_
          refine tt_iconst (v := (5 : Int32)) C dX6_stow_55 (by decide) ?_
          refine tt_if (fun h6 => ?_) (fun h6 => ?_)
          · refine tt_icmp_leT (tgt := 72) C h6 dX6_stow_56 (by decide) ?_
            refine tt_sub [2, 3, 4, 6, 1, 0] (L2 := [(0, .ref (ad 24)), (1, .int x1), (2, .int x2), (4, .int x4), (5, .int y1), (6, .int v3)]) rfl ?_
            exact wX6_stow_J72 C hr (fun x1 x2 x3 x4 μ => fX6_stow_L14 fu x1 x2 x3 x4 μ) (fun x1 x2 x3 x4 μ => ih x1 x2 x3 x4 μ) x1 x2 x4 y1 v3 m2
          · refine tt_icmp_leF C 72 h6 dX6_stow_56 (by decide) ?_
            refine tt_sub [2, 3, 4, 6, 1, 0] (L2 := [(0, .ref (ad 24)), (1, .int x1), (2, .int x2), (4, .int x4), (5, .int y1), (6, .int v3)]) rfl ?_
            exact wX6_stow_J59 C hr (fun x1 x2 x3 x4 μ => fX6_stow_L14 fu x1 x2 x3 x4 μ) (fun x1 x2 x3 x4 μ => ih x1 x2 x3 x4 μ) x1 x2 x4 y1 v3 m2
        · refine tt_icmp_neT (tgt := 72) C h5 dX6_stow_51 (by decide) ?_
          refine tt_sub [2, 3, 4, 6, 1, 0] (L2 := [(0, .ref (ad 24)), (1, .int x1), (2, .int x2), (4, .int x4), (5, .int y1), (6, .int v3)]) rfl ?_
          exact wX6_stow_J72 C hr (fun x1 x2 x3 x4 μ => fX6_stow_L14 fu x1 x2 x3 x4 μ) (fun x1 x2 x3 x4 μ => ih x1 x2 x3 x4 μ) x1 x2 x4 y1 v3 m2
      · refine tt_if_neT (tgt := 59) C h4 dX6_stow_45 (by decide) ?_
        refine tt_sub [2, 3, 4, 6, 1, 0] (L2 := [(0, .ref (ad 24)), (1, .int x1), (2, .int x2), (4, .int x4), (5, .int y1), (6, .int v3)]) rfl ?_
        exact wX6_stow_J59 C hr (fun x1 x2 x3 x4 μ => fX6_stow_L14 fu x1 x2 x3 x4 μ) (fun x1 x2 x3 x4 μ => ih x1 x2 x3 x4 μ) x1 x2 x4 y1 v3 m2

def fX6_stow (μ : Mem) : Option (Mem) := lb (wr μ 24 9 (0 : Int32)) fun m1 => lb (0 : Int32) fun (y2 : Int32) => lb (0 : Int32) fun (y3 : Int32) => lb (0 : Int32) fun (y4 : Int32) => lb (0 : Int32) fun (y5 : Int32) => fX6_stow_L14 FU y2 y3 y4 y5 m1
set_option maxHeartbeats 4000000 in
set_option maxRecDepth 100000 in
theorem wX6_stow {p : Program} {l : Launch} {e : Env} {s : State} {m : MethodId} {args : Array Value} {below : List Frame} {meth : Method} {c : Code} {A : Nat → Prop} {D : va_G} {ad : Nat → Nat} {cA : Nat → ClassId} (C : Cx p s m args meth c cX6_stow RX6 7 A dsX D ad cA (EX A ad)) (hr : meth.sig.returnType = none) (μ : Mem) : T p l e (rmD 1) s m args below meth c 7 A dsX D ad cA enV (fX6_stow μ) 0 [(0, .ref (ad 24))] [] μ := by
  unfold fX6_stow
  refine tt_aload_n C 0 dX6_stow_0 rfl rfl ?_
  refine tt_iconst (v := (0 : Int32)) C dX6_stow_1 (by decide) ?_
  refine tt_putI C (j := 9) dX_24 rfl fl_RX6_71 fw_6_9 dX6_stow_2 ?_
  refine tt_lbm (fun m1 => ?_)
  refine tt_iconst (v := (0 : Int32)) C dX6_stow_5 (by decide) ?_
  refine tt_lbi (fun y2 => ?_)
  refine tt_istore_n (L2 := [(1, .int y2), (0, .ref (ad 24))]) C dX6_stow_6 rfl (by decide) rfl ?_
  refine tt_iconst (v := (0 : Int32)) C dX6_stow_7 (by decide) ?_
  refine tt_lbi (fun y3 => ?_)
  refine tt_istore_n (L2 := [(2, .int y3), (1, .int y2), (0, .ref (ad 24))]) C dX6_stow_8 rfl (by decide) rfl ?_
  refine tt_iconst (v := (0 : Int32)) C dX6_stow_9 (by decide) ?_
  refine tt_lbi (fun y4 => ?_)
  refine tt_istore_n (L2 := [(3, .int y4), (2, .int y3), (1, .int y2), (0, .ref (ad 24))]) C dX6_stow_10 rfl (by decide) rfl ?_
  refine tt_iconst (v := (0 : Int32)) C dX6_stow_11 (by decide) ?_
  refine tt_lbi (fun y5 => ?_)
  refine tt_istore (L2 := [(4, .int y5), (3, .int y4), (2, .int y3), (1, .int y2), (0, .ref (ad 24))]) C dX6_stow_12 (by decide) rfl ?_
  refine tt_sub [4, 3, 2, 1, 0] (L2 := [(0, .ref (ad 24)), (1, .int y2), (2, .int y3), (3, .int y4), (4, .int y5)]) rfl ?_
  exact wX6_stow_L14 C hr FU y2 y3 y4 y5 m1
theorem kX6_stow {l : Launch} {A : Nat → Prop} {D : va_G} {ad : Nat → Nat} {cA : Nat → ClassId} (hPk : Pk A dsX ad cA (EX A ad)) {μ : Mem} {ν : Mem} (h : fX6_stow μ = some ν) : Ct l A dsX D ad cA (EX A ad) yX6_stow cX6_stow 7 none 1 [.ref (ad 24)] μ (enV ν) :=
  ct_of (by decide) (Nat.le_of_ble_eq_true rfl) hPk rfl (fun p e s m args below meth c C hr => wX6_stow C hr μ) h

/-! BasketRound$Trip.stowLoose()V -/
def fX6_stowLoose (μ : Mem) : Option (Mem) := lb (wr μ 24 9 (0 : Int32)) fun m1 => bv (fJ7_fill_53178 28 5 (0 : Int32) m1) fun m2 => some m2
set_option maxHeartbeats 4000000 in
set_option maxRecDepth 100000 in
theorem wX6_stowLoose {p : Program} {l : Launch} {e : Env} {s : State} {m : MethodId} {args : Array Value} {below : List Frame} {meth : Method} {c : Code} {A : Nat → Prop} {D : va_G} {ad : Nat → Nat} {cA : Nat → ClassId} (C : Cx p s m args meth c cX6_stowLoose RX6 1 A dsX D ad cA (EX A ad)) (hr : meth.sig.returnType = none) (μ : Mem) : T p l e (rmD 1) s m args below meth c 1 A dsX D ad cA enV (fX6_stowLoose μ) 0 [(0, .ref (ad 24))] [] μ := by
  unfold fX6_stowLoose
  refine tt_aload_n C 0 dX6_stowLoose_0 rfl rfl ?_
  refine tt_iconst (v := (0 : Int32)) C dX6_stowLoose_1 (by decide) ?_
  refine tt_putI C (j := 9) dX_24 rfl fl_RX6_71 fw_6_9 dX6_stowLoose_2 ?_
  refine tt_lbm (fun m1 => ?_)
  refine tt_aload_n C 0 dX6_stowLoose_5 rfl rfl ?_
  refine tt_getR C (j := 4) (r0 := 28) dX_24 rfl fl_RX6_21 dX6_stowLoose_6 ?_
  refine tt_iconst (v := (0 : Int32)) C dX6_stowLoose_9 (by decide) ?_
  refine tt_bv (fun m2 h1 => ?_)
  refine tt_callS (st := []) (As := [.ref (ad 28), .int (0 : Int32)]) C (kJ7_fill_53178 C.2.2.2.2.2.2.2.1 28 5 dX_28 h1) mi_J7_fill_53178 ml_RX6_74 mt_J7_fill_53178 rfl (by decide) (by decide) (Nat.le_of_ble_eq_true rfl) dX6_stowLoose_10 ?_
  exact tt_vret rfl C hr dX6_stowLoose_13
theorem kX6_stowLoose {l : Launch} {A : Nat → Prop} {D : va_G} {ad : Nat → Nat} {cA : Nat → ClassId} (hPk : Pk A dsX ad cA (EX A ad)) {μ : Mem} {ν : Mem} (h : fX6_stowLoose μ = some ν) : Ct l A dsX D ad cA (EX A ad) yX6_stowLoose cX6_stowLoose 1 none 1 [.ref (ad 24)] μ (enV ν) :=
  ct_of (by decide) (Nat.le_of_ble_eq_true rfl) hPk rfl (fun p e s m args below meth c C hr => wX6_stowLoose C hr μ) h

/-! BasketRound$Trip.take(II)V -/
def fX6_take (x1 : Int32) (x2 : Int32) (μ : Mem) : Option (Mem) := lb (wr μ 24 7 (μ 3 6)) fun m1 => lb (wr m1 24 8 x2) fun m2 => bi (fX6_pick 7 25 x1 m2) fun v4 m3 => lb (wr m3 24 6 v4) fun m5 => bi (fX6_pick 6 26 x1 m5) fun v7 m6 => some m6
set_option maxHeartbeats 4000000 in
set_option maxRecDepth 100000 in
theorem wX6_take {p : Program} {l : Launch} {e : Env} {s : State} {m : MethodId} {args : Array Value} {below : List Frame} {meth : Method} {c : Code} {A : Nat → Prop} {D : va_G} {ad : Nat → Nat} {cA : Nat → ClassId} (C : Cx p s m args meth c cX6_take RX6 3 A dsX D ad cA (EX A ad)) (hr : meth.sig.returnType = none) (x1 : Int32) (x2 : Int32) (μ : Mem) : T p l e (rmD 1) s m args below meth c 3 A dsX D ad cA enV (fX6_take x1 x2 μ) 0 [(0, .ref (ad 24)), (1, .int x1), (2, .int x2)] [] μ := by
  unfold fX6_take
  refine tt_aload_n C 0 dX6_take_0 rfl rfl ?_
  refine tt_aload_n C 0 dX6_take_1 rfl rfl ?_
  refine tt_getR C (j := 0) (r0 := 3) dX_24 rfl fl_RX6_27 dX6_take_2 ?_
  refine tt_getI C (j := 6) dX_3 rfl fl_RX6_31 dX6_take_5 ?_
  refine tt_putI C (j := 7) dX_24 rfl fl_RX6_37 fw_6_7 dX6_take_8 ?_
  refine tt_lbm (fun m1 => ?_)
  refine tt_aload_n C 0 dX6_take_11 rfl rfl ?_
  refine tt_iload_n C 2 dX6_take_12 rfl rfl ?_
  refine tt_putI C (j := 8) dX_24 rfl fl_RX6_38 fw_6_8 dX6_take_13 ?_
  refine tt_lbm (fun m2 => ?_)
  refine tt_aload_n C 0 dX6_take_16 rfl rfl ?_
  refine tt_aload_n C 0 dX6_take_17 rfl rfl ?_
  refine tt_aload_n C 0 dX6_take_18 rfl rfl ?_
  refine tt_getR C (j := 0) (r0 := 3) dX_24 rfl fl_RX6_27 dX6_take_19 ?_
  refine tt_getR C (j := 3) (r0 := 7) dX_3 rfl fl_RX6_41 dX6_take_22 ?_
  refine tt_iload_n C 1 dX6_take_25 rfl rfl ?_
  refine tt_aload_n C 0 dX6_take_26 rfl rfl ?_
  refine tt_getR C (j := 1) (r0 := 25) dX_24 rfl fl_RX6_9 dX6_take_27 ?_
  refine tt_bi (fun v4 m3 h1 => ?_)
  refine tt_callV (st := [.ref (ad 24)]) (As := [.ref (ad 7), .int x1, .ref (ad 25)]) C (kX6_pick C.2.2.2.2.2.2.2.1 7 25 dX_7 dX_25 h1) mi_X6_pick ml_RX6_44 mv_X6_pick ms_X6_pick (q := (RX6, TX6, 17)) dX_24 rfl rfl (by decide) (by decide) (Nat.le_of_ble_eq_true rfl) dX6_take_30 ?_
  refine tt_putI C (j := 6) dX_24 rfl fl_RX6_48 fw_6_6 dX6_take_33 ?_
  refine tt_lbm (fun m5 => ?_)
  refine tt_aload_n C 0 dX6_take_36 rfl rfl ?_
  refine tt_aload_n C 0 dX6_take_37 rfl rfl ?_
  refine tt_getR C (j := 0) (r0 := 3) dX_24 rfl fl_RX6_27 dX6_take_38 ?_
  refine tt_getR C (j := 2) (r0 := 6) dX_3 rfl fl_RX6_51 dX6_take_41 ?_
  refine tt_iload_n C 1 dX6_take_44 rfl rfl ?_
  refine tt_aload_n C 0 dX6_take_45 rfl rfl ?_
  refine tt_getR C (j := 2) (r0 := 26) dX_24 rfl fl_RX6_15 dX6_take_46 ?_
  refine tt_bi (fun v7 m6 h2 => ?_)
  refine tt_callV (st := []) (As := [.ref (ad 6), .int x1, .ref (ad 26)]) C (kX6_pick C.2.2.2.2.2.2.2.1 6 26 dX_6 dX_26 h2) mi_X6_pick ml_RX6_44 mv_X6_pick ms_X6_pick (q := (RX6, TX6, 17)) dX_24 rfl rfl (by decide) (by decide) (Nat.le_of_ble_eq_true rfl) dX6_take_49 ?_
  refine tt_pop C dX6_take_52 rfl ?_
  exact tt_vret rfl C hr dX6_take_53
theorem kX6_take {l : Launch} {A : Nat → Prop} {D : va_G} {ad : Nat → Nat} {cA : Nat → ClassId} (hPk : Pk A dsX ad cA (EX A ad)) {x1 : Int32} {x2 : Int32} {μ : Mem} {ν : Mem} (h : fX6_take x1 x2 μ = some ν) : Ct l A dsX D ad cA (EX A ad) yX6_take cX6_take 3 none 1 [.ref (ad 24), .int x1, .int x2] μ (enV ν) :=
  ct_of (by decide) (Nat.le_of_ble_eq_true rfl) hPk rfl (fun p e s m args below meth c C hr => wX6_take C hr x1 x2 μ) h

/-! BasketRound.allBits()I -/
def fX7_allBits (μ : Mem) : Option (Int32 × Mem) := some ((((1 : Int32) <<< ((μ 3 5) &&& 31)) - (1 : Int32)), μ)
set_option maxHeartbeats 4000000 in
set_option maxRecDepth 100000 in
theorem wX7_allBits {p : Program} {l : Launch} {e : Env} {s : State} {m : MethodId} {args : Array Value} {below : List Frame} {meth : Method} {c : Code} {A : Nat → Prop} {D : va_G} {ad : Nat → Nat} {cA : Nat → ClassId} (C : Cx p s m args meth c cX7_allBits RX7 1 A dsX D ad cA (EX A ad)) (hr : meth.sig.returnType = some .int) (μ : Mem) : T p l e (rmD 0) s m args below meth c 1 A dsX D ad cA enI (fX7_allBits μ) 0 [(0, .ref (ad 0))] [] μ := by
  unfold fX7_allBits
  refine tt_iconst (v := (1 : Int32)) C dX7_allBits_0 (by decide) ?_
  refine tt_aload_n C 0 dX7_allBits_1 rfl rfl ?_
  refine tt_getR C (j := 1) (r0 := 3) dX_0 rfl fl_RX7_19 dX7_allBits_2 ?_
  refine tt_getI C (j := 5) dX_3 rfl fl_RX7_109 dX7_allBits_5 ?_
  refine tt_ishl C dX7_allBits_8 ?_
  refine tt_iconst (v := (1 : Int32)) C dX7_allBits_9 (by decide) ?_
  refine tt_isub C dX7_allBits_10 ?_
  exact tt_iret rfl C hr dX7_allBits_11
theorem kX7_allBits {l : Launch} {A : Nat → Prop} {D : va_G} {ad : Nat → Nat} {cA : Nat → ClassId} (hPk : Pk A dsX ad cA (EX A ad)) {μ : Mem} {v : Int32} {ν : Mem} (h : fX7_allBits μ = some (v, ν)) : Ct l A dsX D ad cA (EX A ad) yX7_allBits cX7_allBits 1 (some .int) 0 [.ref (ad 0)] μ (enI (v, ν)) :=
  ct_of (by decide) (Nat.le_of_ble_eq_true rfl) hPk rfl (fun p e s m args below meth c C hr => wX7_allBits C hr μ) h

/-! BasketRound.arrangements(I)I -/
def fX7_arrangements_L4 : Nat → Int32 → Int32 → Int32 → Mem → Option (Int32 × Mem)
  | 0, _, _, _, _ => none
  | fu + 1, x0, x1, x2, μ => if x0 < x2 then (some (x1, μ)) else (lb (x1 * x2) fun (y1 : Int32) => lb (x2 + (1 : Int32)) fun (y2 : Int32) => fX7_arrangements_L4 fu x0 y1 y2 μ)
set_option maxHeartbeats 4000000 in
set_option maxRecDepth 100000 in
theorem wX7_arrangements_L4 {p : Program} {l : Launch} {e : Env} {s : State} {m : MethodId} {args : Array Value} {below : List Frame} {meth : Method} {c : Code} {A : Nat → Prop} {D : va_G} {ad : Nat → Nat} {cA : Nat → ClassId} (C : Cx p s m args meth c cX7_arrangements RX7 3 A dsX D ad cA (EX A ad)) (hr : meth.sig.returnType = some .int) : ∀ (fu : Nat) (x0 : Int32) (x1 : Int32) (x2 : Int32) (μ : Mem), T p l e (rmD 0) s m args below meth c 3 A dsX D ad cA enI (fX7_arrangements_L4 fu x0 x1 x2 μ) 4 [(0, .int x0), (1, .int x1), (2, .int x2)] [] μ
  | 0, _, _, _, _ => tt_none
  | fu + 1, x0, x1, x2, μ => by
    have ih := fun (x0 : Int32) (x1 : Int32) (x2 : Int32) (μ : Mem) => wX7_arrangements_L4 (l := l) (e := e) (below := below) C hr fu x0 x1 x2 μ
    show T p l e (rmD 0) s m args below meth c 3 A dsX D ad cA enI (if x0 < x2 then (some (x1, μ)) else (lb (x1 * x2) fun (y1 : Int32) => lb (x2 + (1 : Int32)) fun (y2 : Int32) => fX7_arrangements_L4 fu x0 y1 y2 μ)) 4 [(0, .int x0), (1, .int x1), (2, .int x2)] [] μ
    refine tt_iload_n C 2 dX7_arrangements_4 rfl rfl ?_
    refine tt_iload_n C 0 dX7_arrangements_5 rfl rfl ?_
    refine tt_if (fun h1 => ?_) (fun h1 => ?_)
    · refine tt_icmp_gtT (tgt := 19) C h1 dX7_arrangements_6 (by decide) ?_
      refine tt_iload_n C 1 dX7_arrangements_19 rfl rfl ?_
      exact tt_iret rfl C hr dX7_arrangements_20
    · refine tt_icmp_gtF C 19 h1 dX7_arrangements_6 (by decide) ?_
      refine tt_iload_n C 1 dX7_arrangements_9 rfl rfl ?_
      refine tt_iload_n C 2 dX7_arrangements_10 rfl rfl ?_
      refine tt_imul C dX7_arrangements_11 ?_
      refine tt_lbi (fun y1 => ?_)
      refine tt_istore_n (L2 := [(1, .int y1), (0, .int x0), (2, .int x2)]) C dX7_arrangements_12 rfl (by decide) rfl ?_
      refine tt_iincB (d := (1 : Int32)) C 2 (fun y2 => [(2, .int y2), (1, .int y1), (0, .int x0)]) dX7_arrangements_13 rfl (by decide) (by decide) (fun _ => rfl) (fun y2 => ?_)
      refine tt_goto (tgt := 4) C dX7_arrangements_16 (by decide) ?_
      refine tt_sub [2, 1, 0] (L2 := [(0, .int x0), (1, .int y1), (2, .int y2)]) rfl ?_
      exact ih x0 y1 y2 μ

def fX7_arrangements (x0 : Int32) (μ : Mem) : Option (Int32 × Mem) := lb (1 : Int32) fun (y1 : Int32) => lb (2 : Int32) fun (y2 : Int32) => fX7_arrangements_L4 FU x0 y1 y2 μ
set_option maxHeartbeats 4000000 in
set_option maxRecDepth 100000 in
theorem wX7_arrangements {p : Program} {l : Launch} {e : Env} {s : State} {m : MethodId} {args : Array Value} {below : List Frame} {meth : Method} {c : Code} {A : Nat → Prop} {D : va_G} {ad : Nat → Nat} {cA : Nat → ClassId} (C : Cx p s m args meth c cX7_arrangements RX7 3 A dsX D ad cA (EX A ad)) (hr : meth.sig.returnType = some .int) (x0 : Int32) (μ : Mem) : T p l e (rmD 0) s m args below meth c 3 A dsX D ad cA enI (fX7_arrangements x0 μ) 0 [(0, .int x0)] [] μ := by
  unfold fX7_arrangements
  refine tt_iconst (v := (1 : Int32)) C dX7_arrangements_0 (by decide) ?_
  refine tt_lbi (fun y1 => ?_)
  refine tt_istore_n (L2 := [(1, .int y1), (0, .int x0)]) C dX7_arrangements_1 rfl (by decide) rfl ?_
  refine tt_iconst (v := (2 : Int32)) C dX7_arrangements_2 (by decide) ?_
  refine tt_lbi (fun y2 => ?_)
  refine tt_istore_n (L2 := [(2, .int y2), (1, .int y1), (0, .int x0)]) C dX7_arrangements_3 rfl (by decide) rfl ?_
  refine tt_sub [2, 1, 0] (L2 := [(0, .int x0), (1, .int y1), (2, .int y2)]) rfl ?_
  exact wX7_arrangements_L4 C hr FU x0 y1 y2 μ
theorem kX7_arrangements {l : Launch} {A : Nat → Prop} {D : va_G} {ad : Nat → Nat} {cA : Nat → ClassId} (hPk : Pk A dsX ad cA (EX A ad)) {x0 : Int32} {μ : Mem} {v : Int32} {ν : Mem} (h : fX7_arrangements x0 μ = some (v, ν)) : Ct l A dsX D ad cA (EX A ad) yX7_arrangements cX7_arrangements 3 (some .int) 0 [.int x0] μ (enI (v, ν)) :=
  ct_of (by decide) (Nat.le_of_ble_eq_true rfl) hPk rfl (fun p e s m args below meth c C hr => wX7_arrangements C hr x0 μ) h

/-! BasketRound.isOrder(I)Z -/
def fX7_isOrder (x1 : Int32) (μ : Mem) : Option (Int32 × Mem) := bi (fX7_within x1 (0 : Int32) ((μ 3 5) - (1 : Int32)) μ) fun v2 m1 => gd (v2 = (0 : Int32) ∨ v2 = (1 : Int32)) <| some (v2, m1)
set_option maxHeartbeats 4000000 in
set_option maxRecDepth 100000 in
theorem wX7_isOrder {p : Program} {l : Launch} {e : Env} {s : State} {m : MethodId} {args : Array Value} {below : List Frame} {meth : Method} {c : Code} {A : Nat → Prop} {D : va_G} {ad : Nat → Nat} {cA : Nat → ClassId} (C : Cx p s m args meth c cX7_isOrder RX7 2 A dsX D ad cA (EX A ad)) (hr : meth.sig.returnType = some .boolean) (x1 : Int32) (μ : Mem) : T p l e (rmD 1) s m args below meth c 2 A dsX D ad cA enI (fX7_isOrder x1 μ) 0 [(0, .ref (ad 0)), (1, .int x1)] [] μ := by
  unfold fX7_isOrder
  refine tt_iload_n C 1 dX7_isOrder_0 rfl rfl ?_
  refine tt_iconst (v := (0 : Int32)) C dX7_isOrder_1 (by decide) ?_
  refine tt_aload_n C 0 dX7_isOrder_2 rfl rfl ?_
  refine tt_getR C (j := 1) (r0 := 3) dX_0 rfl fl_RX7_19 dX7_isOrder_3 ?_
  refine tt_getI C (j := 5) dX_3 rfl fl_RX7_109 dX7_isOrder_6 ?_
  refine tt_iconst (v := (1 : Int32)) C dX7_isOrder_9 (by decide) ?_
  refine tt_isub C dX7_isOrder_10 ?_
  refine tt_bi (fun v2 m1 h1 => ?_)
  refine tt_callS (st := []) (As := [.int x1, .int (0 : Int32), .int ((μ 3 5) - (1 : Int32))]) C (kX7_within C.2.2.2.2.2.2.2.1 h1) mi_X7_within ml_RX7_70 mt_X7_within rfl (by decide) (by decide) (Nat.le_of_ble_eq_true rfl) dX7_isOrder_11 ?_
  refine tt_gd (fun h2 => ?_)
  exact tt_zret rfl C hr h2 dX7_isOrder_14
theorem kX7_isOrder {l : Launch} {A : Nat → Prop} {D : va_G} {ad : Nat → Nat} {cA : Nat → ClassId} (hPk : Pk A dsX ad cA (EX A ad)) {x1 : Int32} {μ : Mem} {v : Int32} {ν : Mem} (h : fX7_isOrder x1 μ = some (v, ν)) : Ct l A dsX D ad cA (EX A ad) yX7_isOrder cX7_isOrder 2 (some .boolean) 1 [.ref (ad 0), .int x1] μ (enI (v, ν)) :=
  ct_of (by decide) (Nat.le_of_ble_eq_true rfl) hPk rfl (fun p e s m args below meth c C hr => wX7_isOrder C hr x1 μ) h

