/-! BasketRound$Reader.isNamed(Ljava/lang/String;)Z -/
def fX1_isNamed_J78 (sk : Nat) (x2 : Int32) (μ : Mem) : Option (Int32 × Mem) := gd (x2 = (0 : Int32) ∨ x2 = (1 : Int32)) <| some (x2, μ)
set_option maxHeartbeats 4000000 in
set_option maxRecDepth 100000 in
theorem wX1_isNamed_J78 {p : Program} {l : Launch} {e : Env} {s : State} {m : MethodId} {args : Array Value} {below : List Frame} {meth : Method} {c : Code} {A : Nat → Prop} {D : va_G} {ad : Nat → Nat} {cA : Nat → ClassId} (C : Cx p s m args meth c cX1_isNamed RX1 4 A dsX D ad cA (EX A ad)) (hr : meth.sig.returnType = some .boolean) (sk : Nat) (hsk : sk < 13) (x2 : Int32) (μ : Mem) : T p l e (rmD 4) s m args below meth c 4 A dsX D ad cA enI (fX1_isNamed_J78 sk x2 μ) 78 [(2, .int x2)] [] μ := by
  unfold fX1_isNamed_J78
  refine tt_iload_n C 0 dX1_isNamed_78 rfl rfl ?_
  refine tt_gd (fun h1 => ?_)
  exact tt_zret rfl C hr h1 dX1_isNamed_79

def fX1_isNamed_J71 (sk : Nat) (k32 : Int32 → Int32 → Mem → Option (Int32 × Mem)) (x3 : Int32) (z0 : Int32) (μ : Mem) : Option (Int32 × Mem) := lb (x3 + (1 : Int32)) fun (y1 : Int32) => k32 z0 y1 μ
set_option maxHeartbeats 4000000 in
set_option maxRecDepth 100000 in
theorem wX1_isNamed_J71 {p : Program} {l : Launch} {e : Env} {s : State} {m : MethodId} {args : Array Value} {below : List Frame} {meth : Method} {c : Code} {A : Nat → Prop} {D : va_G} {ad : Nat → Nat} {cA : Nat → ClassId} (C : Cx p s m args meth c cX1_isNamed RX1 4 A dsX D ad cA (EX A ad)) (hr : meth.sig.returnType = some .boolean) (sk : Nat) (hsk : sk < 13) (k32 : Int32 → Int32 → Mem → Option (Int32 × Mem)) (hk32 : ∀ (x2 : Int32) (x3 : Int32) (μ : Mem), T p l e (rmD 4) s m args below meth c 4 A dsX D ad cA enI (k32 x2 x3 μ) 32 [(0, .ref (ad 23)), (1, .ref (ad (1000 + sk))), (2, .int x2), (3, .int x3)] [] μ) (x3 : Int32) (z0 : Int32) (μ : Mem) : T p l e (rmD 4) s m args below meth c 4 A dsX D ad cA enI (fX1_isNamed_J71 sk k32 x3 z0 μ) 71 [(0, .ref (ad 23)), (1, .ref (ad (1000 + sk))), (3, .int x3)] [.int z0] μ := by
  unfold fX1_isNamed_J71
  refine tt_istore_n (L2 := [(2, .int z0), (0, .ref (ad 23)), (1, .ref (ad (1000 + sk))), (3, .int x3)]) C dX1_isNamed_71 rfl (by decide) rfl ?_
  refine tt_iincB (d := (1 : Int32)) C 3 (fun y1 => [(3, .int y1), (2, .int z0), (0, .ref (ad 23)), (1, .ref (ad (1000 + sk)))]) dX1_isNamed_72 rfl (by decide) (by decide) (fun _ => rfl) (fun y1 => ?_)
  refine tt_goto (tgt := 32) C dX1_isNamed_75 (by decide) ?_
  refine tt_sub [2, 3, 1, 0] (L2 := [(0, .ref (ad 23)), (1, .ref (ad (1000 + sk))), (2, .int z0), (3, .int y1)]) rfl ?_
  exact hk32 z0 y1 μ

def fX1_isNamed_L32 (sk : Nat) : Nat → Int32 → Int32 → Mem → Option (Int32 × Mem)
  | 0, _, _, _ => none
  | fu + 1, x2, x3, μ => if x2 = (0 : Int32) then (fX1_isNamed_J78 sk x2 μ) else (bi (fJ0_length_8abf5 sk μ) fun v2 m1 => if v2 ≤ x3 then (fX1_isNamed_J78 sk x2 m1) else (gr ((m1 23 6) + x3) 160 <| bi (fJ0_charAt_5068e sk x3 m1) fun v4 m3 => if (m1 2 ((m1 23 6) + x3).toNatClampNeg) = v4 then (fX1_isNamed_J71 sk (fun x2 x3 μ => fX1_isNamed_L32 sk fu x2 x3 μ) x3 (1 : Int32) m3) else (fX1_isNamed_J71 sk (fun x2 x3 μ => fX1_isNamed_L32 sk fu x2 x3 μ) x3 (0 : Int32) m3)))
set_option maxHeartbeats 4000000 in
set_option maxRecDepth 100000 in
theorem wX1_isNamed_L32 {p : Program} {l : Launch} {e : Env} {s : State} {m : MethodId} {args : Array Value} {below : List Frame} {meth : Method} {c : Code} {A : Nat → Prop} {D : va_G} {ad : Nat → Nat} {cA : Nat → ClassId} (C : Cx p s m args meth c cX1_isNamed RX1 4 A dsX D ad cA (EX A ad)) (hr : meth.sig.returnType = some .boolean) (sk : Nat) (hsk : sk < 13) : ∀ (fu : Nat) (x2 : Int32) (x3 : Int32) (μ : Mem), T p l e (rmD 4) s m args below meth c 4 A dsX D ad cA enI (fX1_isNamed_L32 sk fu x2 x3 μ) 32 [(0, .ref (ad 23)), (1, .ref (ad (1000 + sk))), (2, .int x2), (3, .int x3)] [] μ
  | 0, _, _, _ => tt_none
  | fu + 1, x2, x3, μ => by
    have ih := fun (x2 : Int32) (x3 : Int32) (μ : Mem) => wX1_isNamed_L32 (l := l) (e := e) (below := below) C hr sk hsk fu x2 x3 μ
    show T p l e (rmD 4) s m args below meth c 4 A dsX D ad cA enI (if x2 = (0 : Int32) then (fX1_isNamed_J78 sk x2 μ) else (bi (fJ0_length_8abf5 sk μ) fun v2 m1 => if v2 ≤ x3 then (fX1_isNamed_J78 sk x2 m1) else (gr ((m1 23 6) + x3) 160 <| bi (fJ0_charAt_5068e sk x3 m1) fun v4 m3 => if (m1 2 ((m1 23 6) + x3).toNatClampNeg) = v4 then (fX1_isNamed_J71 sk (fun x2 x3 μ => fX1_isNamed_L32 sk fu x2 x3 μ) x3 (1 : Int32) m3) else (fX1_isNamed_J71 sk (fun x2 x3 μ => fX1_isNamed_L32 sk fu x2 x3 μ) x3 (0 : Int32) m3)))) 32 [(0, .ref (ad 23)), (1, .ref (ad (1000 + sk))), (2, .int x2), (3, .int x3)] [] μ
    refine tt_iload_n C 2 dX1_isNamed_32 rfl rfl ?_
    refine tt_if (fun h1 => ?_) (fun h1 => ?_)
    · refine tt_if_eqT (tgt := 78) C h1 dX1_isNamed_33 (by decide) ?_
      refine tt_sub [2] (L2 := [(2, .int x2)]) rfl ?_
      exact wX1_isNamed_J78 C hr sk hsk x2 μ
    · refine tt_if_eqF C 78 h1 dX1_isNamed_33 (by decide) ?_
      refine tt_iload_n C 3 dX1_isNamed_36 rfl rfl ?_
      refine tt_aload_n C 1 dX1_isNamed_37 rfl rfl ?_
      refine tt_bi (fun v2 m1 h2 => ?_)
      refine tt_callStr (st := [.int x3]) (As := []) C hsk (kJ0_length_8abf5 C.2.2.2.2.2.2.2.1 sk hsk h2) mi_J0_length_8abf5 ml_RX1_96 mv_J0_length_8abf5 ms_J0_length_8abf5 rfl (by decide) (by decide) (Nat.le_of_ble_eq_true rfl) dX1_isNamed_38 ?_
      refine tt_if (fun h3 => ?_) (fun h3 => ?_)
      · refine tt_icmp_geT (tgt := 78) C h3 dX1_isNamed_41 (by decide) ?_
        refine tt_sub [2] (L2 := [(2, .int x2)]) rfl ?_
        exact wX1_isNamed_J78 C hr sk hsk x2 m1
      · refine tt_icmp_geF C 78 h3 dX1_isNamed_41 (by decide) ?_
        refine tt_aload_n C 0 dX1_isNamed_44 rfl rfl ?_
        refine tt_getR C (j := 1) (r0 := 1) dX_23 rfl fl_RX1_18 dX1_isNamed_45 ?_
        refine tt_getR C (j := 0) (r0 := 2) dX_1 rfl fl_RX1_75 dX1_isNamed_48 ?_
        refine tt_aload_n C 0 dX1_isNamed_51 rfl rfl ?_
        refine tt_getI C (j := 6) dX_23 rfl fl_RX1_79 dX1_isNamed_52 ?_
        refine tt_iload_n C 3 dX1_isNamed_55 rfl rfl ?_
        refine tt_iadd C dX1_isNamed_56 ?_
        refine tt_gr (fun h4 => ?_)
        refine tt_bald C dX_2 h4 dX1_isNamed_57 ?_
        refine tt_aload_n C 1 dX1_isNamed_58 rfl rfl ?_
        refine tt_iload_n C 3 dX1_isNamed_59 rfl rfl ?_
        refine tt_bi (fun v4 m3 h5 => ?_)
        refine tt_callStr (st := [.int (m1 2 ((m1 23 6) + x3).toNatClampNeg)]) (As := [.int x3]) C hsk (kJ0_charAt_5068e C.2.2.2.2.2.2.2.1 sk hsk h5) mi_J0_charAt_5068e ml_RX1_101 mv_J0_charAt_5068e ms_J0_charAt_5068e rfl (by decide) (by decide) (Nat.le_of_ble_eq_true rfl) dX1_isNamed_60 ?_
        refine tt_if (fun h6 => ?_) (fun h6 => ?_)
        · refine tt_icmp_neF C 70 h6 dX1_isNamed_63 (by decide) ?_
          refine tt_iconst (v := (1 : Int32)) C dX1_isNamed_66 (by decide) ?_
          refine tt_goto (tgt := 71) C dX1_isNamed_67 (by decide) ?_
          refine tt_sub [0, 1, 3] (L2 := [(0, .ref (ad 23)), (1, .ref (ad (1000 + sk))), (3, .int x3)]) rfl ?_
          exact wX1_isNamed_J71 C hr sk hsk (fun x2 x3 μ => fX1_isNamed_L32 sk fu x2 x3 μ) (fun x2 x3 μ => ih x2 x3 μ) x3 (1 : Int32) m3
        · refine tt_icmp_neT (tgt := 70) C h6 dX1_isNamed_63 (by decide) ?_
          refine tt_iconst (v := (0 : Int32)) C dX1_isNamed_70 (by decide) ?_
          refine tt_sub [0, 1, 3] (L2 := [(0, .ref (ad 23)), (1, .ref (ad (1000 + sk))), (3, .int x3)]) rfl ?_
          exact wX1_isNamed_J71 C hr sk hsk (fun x2 x3 μ => fX1_isNamed_L32 sk fu x2 x3 μ) (fun x2 x3 μ => ih x2 x3 μ) x3 (0 : Int32) m3

def fX1_isNamed_J29 (sk : Nat) (z0 : Int32) (μ : Mem) : Option (Int32 × Mem) := lb (0 : Int32) fun (y1 : Int32) => fX1_isNamed_L32 sk FU z0 y1 μ
set_option maxHeartbeats 4000000 in
set_option maxRecDepth 100000 in
theorem wX1_isNamed_J29 {p : Program} {l : Launch} {e : Env} {s : State} {m : MethodId} {args : Array Value} {below : List Frame} {meth : Method} {c : Code} {A : Nat → Prop} {D : va_G} {ad : Nat → Nat} {cA : Nat → ClassId} (C : Cx p s m args meth c cX1_isNamed RX1 4 A dsX D ad cA (EX A ad)) (hr : meth.sig.returnType = some .boolean) (sk : Nat) (hsk : sk < 13) (z0 : Int32) (μ : Mem) : T p l e (rmD 4) s m args below meth c 4 A dsX D ad cA enI (fX1_isNamed_J29 sk z0 μ) 29 [(0, .ref (ad 23)), (1, .ref (ad (1000 + sk)))] [.int z0] μ := by
  unfold fX1_isNamed_J29
  refine tt_istore_n (L2 := [(2, .int z0), (0, .ref (ad 23)), (1, .ref (ad (1000 + sk)))]) C dX1_isNamed_29 rfl (by decide) rfl ?_
  refine tt_iconst (v := (0 : Int32)) C dX1_isNamed_30 (by decide) ?_
  refine tt_lbi (fun y1 => ?_)
  refine tt_istore_n (L2 := [(3, .int y1), (2, .int z0), (0, .ref (ad 23)), (1, .ref (ad (1000 + sk)))]) C dX1_isNamed_31 rfl (by decide) rfl ?_
  refine tt_sub [2, 3, 1, 0] (L2 := [(0, .ref (ad 23)), (1, .ref (ad (1000 + sk))), (2, .int z0), (3, .int y1)]) rfl ?_
  exact wX1_isNamed_L32 C hr sk hsk FU z0 y1 μ

def fX1_isNamed_J28 (sk : Nat) (μ : Mem) : Option (Int32 × Mem) := fX1_isNamed_J29 sk (0 : Int32) μ
set_option maxHeartbeats 4000000 in
set_option maxRecDepth 100000 in
theorem wX1_isNamed_J28 {p : Program} {l : Launch} {e : Env} {s : State} {m : MethodId} {args : Array Value} {below : List Frame} {meth : Method} {c : Code} {A : Nat → Prop} {D : va_G} {ad : Nat → Nat} {cA : Nat → ClassId} (C : Cx p s m args meth c cX1_isNamed RX1 4 A dsX D ad cA (EX A ad)) (hr : meth.sig.returnType = some .boolean) (sk : Nat) (hsk : sk < 13) (μ : Mem) : T p l e (rmD 4) s m args below meth c 4 A dsX D ad cA enI (fX1_isNamed_J28 sk μ) 28 [(0, .ref (ad 23)), (1, .ref (ad (1000 + sk)))] [] μ := by
  unfold fX1_isNamed_J28
  refine tt_iconst (v := (0 : Int32)) C dX1_isNamed_28 (by decide) ?_
  refine tt_sub [0, 1] (L2 := [(0, .ref (ad 23)), (1, .ref (ad (1000 + sk)))]) rfl ?_
  exact wX1_isNamed_J29 C hr sk hsk (0 : Int32) μ

def fX1_isNamed (sk : Nat) (μ : Mem) : Option (Int32 × Mem) := if (μ 23 5) = (1 : Int32) then (bi (fJ0_length_8abf5 sk μ) fun v2 m1 => if ((μ 23 7) - (μ 23 6)) = v2 then (fX1_isNamed_J29 sk (1 : Int32) m1) else (fX1_isNamed_J28 sk m1)) else (fX1_isNamed_J28 sk μ)
set_option maxHeartbeats 4000000 in
set_option maxRecDepth 100000 in
theorem wX1_isNamed {p : Program} {l : Launch} {e : Env} {s : State} {m : MethodId} {args : Array Value} {below : List Frame} {meth : Method} {c : Code} {A : Nat → Prop} {D : va_G} {ad : Nat → Nat} {cA : Nat → ClassId} (C : Cx p s m args meth c cX1_isNamed RX1 4 A dsX D ad cA (EX A ad)) (hr : meth.sig.returnType = some .boolean) (sk : Nat) (hsk : sk < 13) (μ : Mem) : T p l e (rmD 4) s m args below meth c 4 A dsX D ad cA enI (fX1_isNamed sk μ) 0 [(0, .ref (ad 23)), (1, .ref (ad (1000 + sk)))] [] μ := by
  unfold fX1_isNamed
  refine tt_aload_n C 0 dX1_isNamed_0 rfl rfl ?_
  refine tt_getI C (j := 5) dX_23 rfl fl_RX1_50 dX1_isNamed_1 ?_
  refine tt_iconst (v := (1 : Int32)) C dX1_isNamed_4 (by decide) ?_
  refine tt_if (fun h1 => ?_) (fun h1 => ?_)
  · refine tt_icmp_neF C 28 h1 dX1_isNamed_5 (by decide) ?_
    refine tt_aload_n C 0 dX1_isNamed_8 rfl rfl ?_
    refine tt_getI C (j := 7) dX_23 rfl fl_RX1_35 dX1_isNamed_9 ?_
    refine tt_aload_n C 0 dX1_isNamed_12 rfl rfl ?_
    refine tt_getI C (j := 6) dX_23 rfl fl_RX1_79 dX1_isNamed_13 ?_
    refine tt_isub C dX1_isNamed_16 ?_
    refine tt_aload_n C 1 dX1_isNamed_17 rfl rfl ?_
    refine tt_bi (fun v2 m1 h2 => ?_)
    refine tt_callStr (st := [.int ((μ 23 7) - (μ 23 6))]) (As := []) C hsk (kJ0_length_8abf5 C.2.2.2.2.2.2.2.1 sk hsk h2) mi_J0_length_8abf5 ml_RX1_96 mv_J0_length_8abf5 ms_J0_length_8abf5 rfl (by decide) (by decide) (Nat.le_of_ble_eq_true rfl) dX1_isNamed_18 ?_
    refine tt_if (fun h3 => ?_) (fun h3 => ?_)
    · refine tt_icmp_neF C 28 h3 dX1_isNamed_21 (by decide) ?_
      refine tt_iconst (v := (1 : Int32)) C dX1_isNamed_24 (by decide) ?_
      refine tt_goto (tgt := 29) C dX1_isNamed_25 (by decide) ?_
      refine tt_sub [0, 1] (L2 := [(0, .ref (ad 23)), (1, .ref (ad (1000 + sk)))]) rfl ?_
      exact wX1_isNamed_J29 C hr sk hsk (1 : Int32) m1
    · refine tt_icmp_neT (tgt := 28) C h3 dX1_isNamed_21 (by decide) ?_
      refine tt_sub [0, 1] (L2 := [(0, .ref (ad 23)), (1, .ref (ad (1000 + sk)))]) rfl ?_
      exact wX1_isNamed_J28 C hr sk hsk m1
  · refine tt_icmp_neT (tgt := 28) C h1 dX1_isNamed_5 (by decide) ?_
    refine tt_sub [0, 1] (L2 := [(0, .ref (ad 23)), (1, .ref (ad (1000 + sk)))]) rfl ?_
    exact wX1_isNamed_J28 C hr sk hsk μ
theorem kX1_isNamed {l : Launch} {A : Nat → Prop} {D : va_G} {ad : Nat → Nat} {cA : Nat → ClassId} (hPk : Pk A dsX ad cA (EX A ad)) (sk : Nat) (hsk : sk < 13) {μ : Mem} {v : Int32} {ν : Mem} (h : fX1_isNamed sk μ = some (v, ν)) : Ct l A dsX D ad cA (EX A ad) yX1_isNamed cX1_isNamed 4 (some .boolean) 4 [.ref (ad 23), .ref (ad (1000 + sk))] μ (enI (v, ν)) :=
  ct_of (by decide) (Nat.le_of_ble_eq_true rfl) hPk rfl (fun p e s m args below meth c C hr => wX1_isNamed C hr sk hsk μ) h

/-! BasketRound$Reader.kindNamed()I -/
def fX1_kindNamed_J58 (z0 : Int32) (μ : Mem) : Option (Int32 × Mem) := some (z0, μ)
set_option maxHeartbeats 4000000 in
set_option maxRecDepth 100000 in
theorem wX1_kindNamed_J58 {p : Program} {l : Launch} {e : Env} {s : State} {m : MethodId} {args : Array Value} {below : List Frame} {meth : Method} {c : Code} {A : Nat → Prop} {D : va_G} {ad : Nat → Nat} {cA : Nat → ClassId} (C : Cx p s m args meth c cX1_kindNamed RX1 1 A dsX D ad cA (EX A ad)) (hr : meth.sig.returnType = some .int) (z0 : Int32) (μ : Mem) : T p l e (rmD 5) s m args below meth c 1 A dsX D ad cA enI (fX1_kindNamed_J58 z0 μ) 58 [] [.int z0] μ := by
  unfold fX1_kindNamed_J58
  exact tt_iret rfl C hr dX1_kindNamed_58

def fX1_kindNamed (μ : Mem) : Option (Int32 × Mem) := bi (fX1_isNamed 4 μ) fun v2 m1 => if v2 = (0 : Int32) then (bi (fX1_isNamed 5 m1) fun v4 m3 => if v4 = (0 : Int32) then (bi (fX1_isNamed 6 m3) fun v6 m5 => if v6 = (0 : Int32) then (bi (fX1_isNamed 7 m5) fun v8 m7 => if v8 = (0 : Int32) then (bi (fX1_isNamed 8 m7) fun v10 m9 => if v10 = (0 : Int32) then (fX1_kindNamed_J58 (-1 : Int32) m9) else (fX1_kindNamed_J58 (4 : Int32) m9)) else (some ((3 : Int32), m7))) else (some ((2 : Int32), m5))) else (some ((1 : Int32), m3))) else (some ((0 : Int32), m1))
set_option maxHeartbeats 4000000 in
set_option maxRecDepth 100000 in
theorem wX1_kindNamed {p : Program} {l : Launch} {e : Env} {s : State} {m : MethodId} {args : Array Value} {below : List Frame} {meth : Method} {c : Code} {A : Nat → Prop} {D : va_G} {ad : Nat → Nat} {cA : Nat → ClassId} (C : Cx p s m args meth c cX1_kindNamed RX1 1 A dsX D ad cA (EX A ad)) (hr : meth.sig.returnType = some .int) (μ : Mem) : T p l e (rmD 5) s m args below meth c 1 A dsX D ad cA enI (fX1_kindNamed μ) 0 [(0, .ref (ad 23))] [] μ := by
  unfold fX1_kindNamed
  refine tt_aload_n C 0 dX1_kindNamed_0 rfl rfl ?_
  refine tt_ldcS C (k := 4) (index := 173) ⟨by decide, rfl⟩ dX1_kindNamed_1 ?_
  refine tt_bi (fun v2 m1 h1 => ?_)
  refine tt_callV (st := []) (As := [.ref (ad 1004)]) C (kX1_isNamed C.2.2.2.2.2.2.2.1 4 (by decide) h1) mi_X1_isNamed ml_RX1_107 mv_X1_isNamed ms_X1_isNamed (q := (RX1, TX1, 12)) dX_23 rfl rfl (by decide) (by decide) (Nat.le_of_ble_eq_true rfl) dX1_kindNamed_3 ?_
  refine tt_if (fun h2 => ?_) (fun h2 => ?_)
  · refine tt_if_eqT (tgt := 11) C h2 dX1_kindNamed_6 (by decide) ?_
    refine tt_aload_n C 0 dX1_kindNamed_11 rfl rfl ?_
    refine tt_ldcS C (k := 5) (index := 175) ⟨by decide, rfl⟩ dX1_kindNamed_12 ?_
    refine tt_bi (fun v4 m3 h3 => ?_)
    refine tt_callV (st := []) (As := [.ref (ad 1005)]) C (kX1_isNamed C.2.2.2.2.2.2.2.1 5 (by decide) h3) mi_X1_isNamed ml_RX1_107 mv_X1_isNamed ms_X1_isNamed (q := (RX1, TX1, 12)) dX_23 rfl rfl (by decide) (by decide) (Nat.le_of_ble_eq_true rfl) dX1_kindNamed_14 ?_
    refine tt_if (fun h4 => ?_) (fun h4 => ?_)
    · refine tt_if_eqT (tgt := 22) C h4 dX1_kindNamed_17 (by decide) ?_
      refine tt_aload_n C 0 dX1_kindNamed_22 rfl rfl ?_
      refine tt_ldcS C (k := 6) (index := 177) ⟨by decide, rfl⟩ dX1_kindNamed_23 ?_
      refine tt_bi (fun v6 m5 h5 => ?_)
      refine tt_callV (st := []) (As := [.ref (ad 1006)]) C (kX1_isNamed C.2.2.2.2.2.2.2.1 6 (by decide) h5) mi_X1_isNamed ml_RX1_107 mv_X1_isNamed ms_X1_isNamed (q := (RX1, TX1, 12)) dX_23 rfl rfl (by decide) (by decide) (Nat.le_of_ble_eq_true rfl) dX1_kindNamed_25 ?_
      refine tt_if (fun h6 => ?_) (fun h6 => ?_)
      · refine tt_if_eqT (tgt := 33) C h6 dX1_kindNamed_28 (by decide) ?_
        refine tt_aload_n C 0 dX1_kindNamed_33 rfl rfl ?_
        refine tt_ldcS C (k := 7) (index := 179) ⟨by decide, rfl⟩ dX1_kindNamed_34 ?_
        refine tt_bi (fun v8 m7 h7 => ?_)
        refine tt_callV (st := []) (As := [.ref (ad 1007)]) C (kX1_isNamed C.2.2.2.2.2.2.2.1 7 (by decide) h7) mi_X1_isNamed ml_RX1_107 mv_X1_isNamed ms_X1_isNamed (q := (RX1, TX1, 12)) dX_23 rfl rfl (by decide) (by decide) (Nat.le_of_ble_eq_true rfl) dX1_kindNamed_36 ?_
        refine tt_if (fun h8 => ?_) (fun h8 => ?_)
        · refine tt_if_eqT (tgt := 44) C h8 dX1_kindNamed_39 (by decide) ?_
          refine tt_aload_n C 0 dX1_kindNamed_44 rfl rfl ?_
          refine tt_ldcS C (k := 8) (index := 181) ⟨by decide, rfl⟩ dX1_kindNamed_45 ?_
          refine tt_bi (fun v10 m9 h9 => ?_)
          refine tt_callV (st := []) (As := [.ref (ad 1008)]) C (kX1_isNamed C.2.2.2.2.2.2.2.1 8 (by decide) h9) mi_X1_isNamed ml_RX1_107 mv_X1_isNamed ms_X1_isNamed (q := (RX1, TX1, 12)) dX_23 rfl rfl (by decide) (by decide) (Nat.le_of_ble_eq_true rfl) dX1_kindNamed_47 ?_
          refine tt_if (fun h10 => ?_) (fun h10 => ?_)
          · refine tt_if_eqT (tgt := 57) C h10 dX1_kindNamed_50 (by decide) ?_
            refine tt_iconst (v := (-1 : Int32)) C dX1_kindNamed_57 (by decide) ?_
            refine tt_sub [] (L2 := []) rfl ?_
            exact wX1_kindNamed_J58 C hr (-1 : Int32) m9
          · refine tt_if_eqF C 57 h10 dX1_kindNamed_50 (by decide) ?_
            refine tt_iconst (v := (4 : Int32)) C dX1_kindNamed_53 (by decide) ?_
            refine tt_goto (tgt := 58) C dX1_kindNamed_54 (by decide) ?_
            refine tt_sub [] (L2 := []) rfl ?_
            exact wX1_kindNamed_J58 C hr (4 : Int32) m9
        · refine tt_if_eqF C 44 h8 dX1_kindNamed_39 (by decide) ?_
          refine tt_iconst (v := (3 : Int32)) C dX1_kindNamed_42 (by decide) ?_
          exact tt_iret rfl C hr dX1_kindNamed_43
      · refine tt_if_eqF C 33 h6 dX1_kindNamed_28 (by decide) ?_
        refine tt_iconst (v := (2 : Int32)) C dX1_kindNamed_31 (by decide) ?_
        exact tt_iret rfl C hr dX1_kindNamed_32
    · refine tt_if_eqF C 22 h4 dX1_kindNamed_17 (by decide) ?_
      refine tt_iconst (v := (1 : Int32)) C dX1_kindNamed_20 (by decide) ?_
      exact tt_iret rfl C hr dX1_kindNamed_21
  · refine tt_if_eqF C 11 h2 dX1_kindNamed_6 (by decide) ?_
    refine tt_iconst (v := (0 : Int32)) C dX1_kindNamed_9 (by decide) ?_
    exact tt_iret rfl C hr dX1_kindNamed_10
theorem kX1_kindNamed {l : Launch} {A : Nat → Prop} {D : va_G} {ad : Nat → Nat} {cA : Nat → ClassId} (hPk : Pk A dsX ad cA (EX A ad)) {μ : Mem} {v : Int32} {ν : Mem} (h : fX1_kindNamed μ = some (v, ν)) : Ct l A dsX D ad cA (EX A ad) yX1_kindNamed cX1_kindNamed 1 (some .int) 5 [.ref (ad 23)] μ (enI (v, ν)) :=
  ct_of (by decide) (Nat.le_of_ble_eq_true rfl) hPk rfl (fun p e s m args below meth c C hr => wX1_kindNamed C hr μ) h

/-! BasketRound$Reader.takeKind()I -/
def fX1_takeKind (μ : Mem) : Option (Int32 × Mem) := if (μ 23 3) = (0 : Int32) then (bi (fX1_kindNamed μ) fun v2 m1 => if (0 : Int32) ≤ v2 then (bv (fX1_readToken m1) fun m3 => some (v2, m3)) else (bv (fX1_fail (2 : Int32) (m1 23 6) m1) fun m4 => some ((0 : Int32), m4))) else (some ((0 : Int32), μ))
set_option maxHeartbeats 4000000 in
set_option maxRecDepth 100000 in
theorem wX1_takeKind {p : Program} {l : Launch} {e : Env} {s : State} {m : MethodId} {args : Array Value} {below : List Frame} {meth : Method} {c : Code} {A : Nat → Prop} {D : va_G} {ad : Nat → Nat} {cA : Nat → ClassId} (C : Cx p s m args meth c cX1_takeKind RX1 2 A dsX D ad cA (EX A ad)) (hr : meth.sig.returnType = some .int) (μ : Mem) : T p l e (rmD 6) s m args below meth c 2 A dsX D ad cA enI (fX1_takeKind μ) 0 [(0, .ref (ad 23))] [] μ := by
  unfold fX1_takeKind
  refine tt_aload_n C 0 dX1_takeKind_0 rfl rfl ?_
  refine tt_getI C (j := 3) dX_23 rfl fl_RX1_29 dX1_takeKind_1 ?_
  refine tt_if (fun h1 => ?_) (fun h1 => ?_)
  · refine tt_if_eqT (tgt := 9) C h1 dX1_takeKind_4 (by decide) ?_
    refine tt_aload_n C 0 dX1_takeKind_9 rfl rfl ?_
    refine tt_bi (fun v2 m1 h2 => ?_)
    refine tt_callV (st := []) (As := []) C (kX1_kindNamed C.2.2.2.2.2.2.2.1 h2) mi_X1_kindNamed ml_RX1_170 mv_X1_kindNamed ms_X1_kindNamed (q := (RX1, TX1, 12)) dX_23 rfl rfl (by decide) (by decide) (Nat.le_of_ble_eq_true rfl) dX1_takeKind_10 ?_
    refine tt_istore_n (L2 := [(1, .int v2), (0, .ref (ad 23))]) C dX1_takeKind_13 rfl (by decide) rfl ?_
    refine tt_iload_n C 0 dX1_takeKind_14 rfl rfl ?_
    refine tt_if (fun h3 => ?_) (fun h3 => ?_)
    · refine tt_if_geT (tgt := 29) C h3 dX1_takeKind_15 (by decide) ?_
      refine tt_aload_n C 1 dX1_takeKind_29 rfl rfl ?_
      refine tt_bv (fun m3 h4 => ?_)
      refine tt_callV (st := []) (As := []) C (kX1_readToken C.2.2.2.2.2.2.2.1 h4) mi_X1_readToken ml_RX1_47 mv_X1_readToken ms_X1_readToken (q := (RX1, TX1, 12)) dX_23 rfl rfl (by decide) (by decide) (Nat.le_of_ble_eq_true rfl) dX1_takeKind_30 ?_
      refine tt_iload_n C 0 dX1_takeKind_33 rfl rfl ?_
      exact tt_iret rfl C hr dX1_takeKind_34
    · refine tt_if_geF C 29 h3 dX1_takeKind_15 (by decide) ?_
      refine tt_aload_n C 1 dX1_takeKind_18 rfl rfl ?_
      refine tt_iconst (v := (2 : Int32)) C dX1_takeKind_19 (by decide) ?_
      refine tt_aload_n C 1 dX1_takeKind_20 rfl rfl ?_
      refine tt_getI C (j := 6) dX_23 rfl fl_RX1_79 dX1_takeKind_21 ?_
      refine tt_bv (fun m4 h5 => ?_)
      refine tt_callV (st := []) (As := [.int (2 : Int32), .int (m1 23 6)]) C (kX1_fail C.2.2.2.2.2.2.2.1 h5) mi_X1_fail ml_RX1_92 mv_X1_fail ms_X1_fail (q := (RX1, TX1, 12)) dX_23 rfl rfl (by decide) (by decide) (Nat.le_of_ble_eq_true rfl) dX1_takeKind_24 ?_
      refine tt_iconst (v := (0 : Int32)) C dX1_takeKind_27 (by decide) ?_
      exact tt_iret rfl C hr dX1_takeKind_28
  · refine tt_if_eqF C 9 h1 dX1_takeKind_4 (by decide) ?_
    refine tt_iconst (v := (0 : Int32)) C dX1_takeKind_7 (by decide) ?_
    exact tt_iret rfl C hr dX1_takeKind_8
theorem kX1_takeKind {l : Launch} {A : Nat → Prop} {D : va_G} {ad : Nat → Nat} {cA : Nat → ClassId} (hPk : Pk A dsX ad cA (EX A ad)) {μ : Mem} {v : Int32} {ν : Mem} (h : fX1_takeKind μ = some (v, ν)) : Ct l A dsX D ad cA (EX A ad) yX1_takeKind cX1_takeKind 2 (some .int) 6 [.ref (ad 23)] μ (enI (v, ν)) :=
  ct_of (by decide) (Nat.le_of_ble_eq_true rfl) hPk rfl (fun p e s m args below meth c C hr => wX1_takeKind C hr μ) h

/-! BasketRound$Reader.readOrder()V -/
def fX1_readOrder_L52 : Nat → Int32 → Int32 → Mem → Option (Mem)
  | 0, _, _, _ => none
  | fu + 1, x1, x2, μ => if (4 : Int32) < x2 then (lb (wr μ 18 5 ((μ 18 5) + (1 : Int32))) fun m1 => some m1) else (bi (fX7_leastOf x2 μ) fun v3 m2 => bi (fX7_mostOf x2 m2) fun v5 m4 => bi (fX1_takeNumber v3 v5 m4) fun v7 m6 => gr (x1 + x2) 25 <| lb (wr m6 20 (x1 + x2).toNatClampNeg v7) fun m8 => lb (x2 + (1 : Int32)) fun (y9 : Int32) => fX1_readOrder_L52 fu x1 y9 m8)
set_option maxHeartbeats 4000000 in
set_option maxRecDepth 100000 in
theorem wX1_readOrder_L52 {p : Program} {l : Launch} {e : Env} {s : State} {m : MethodId} {args : Array Value} {below : List Frame} {meth : Method} {c : Code} {A : Nat → Prop} {D : va_G} {ad : Nat → Nat} {cA : Nat → ClassId} (C : Cx p s m args meth c cX1_readOrder RX1 3 A dsX D ad cA (EX A ad)) (hr : meth.sig.returnType = none) : ∀ (fu : Nat) (x1 : Int32) (x2 : Int32) (μ : Mem), T p l e (rmD 7) s m args below meth c 3 A dsX D ad cA enV (fX1_readOrder_L52 fu x1 x2 μ) 52 [(0, .ref (ad 23)), (1, .int x1), (2, .int x2)] [] μ
  | 0, _, _, _ => tt_none
  | fu + 1, x1, x2, μ => by
    have ih := fun (x1 : Int32) (x2 : Int32) (μ : Mem) => wX1_readOrder_L52 (l := l) (e := e) (below := below) C hr fu x1 x2 μ
    show T p l e (rmD 7) s m args below meth c 3 A dsX D ad cA enV (if (4 : Int32) < x2 then (lb (wr μ 18 5 ((μ 18 5) + (1 : Int32))) fun m1 => some m1) else (bi (fX7_leastOf x2 μ) fun v3 m2 => bi (fX7_mostOf x2 m2) fun v5 m4 => bi (fX1_takeNumber v3 v5 m4) fun v7 m6 => gr (x1 + x2) 25 <| lb (wr m6 20 (x1 + x2).toNatClampNeg v7) fun m8 => lb (x2 + (1 : Int32)) fun (y9 : Int32) => fX1_readOrder_L52 fu x1 y9 m8)) 52 [(0, .ref (ad 23)), (1, .int x1), (2, .int x2)] [] μ
    refine tt_iload_n C 2 dX1_readOrder_52 rfl rfl ?_
    refine tt_iconst (v := (4 : Int32)) C dX1_readOrder_53 (by decide) ?_
    refine tt_if (fun h1 => ?_) (fun h1 => ?_)
    · refine tt_icmp_gtT (tgt := 86) C h1 dX1_readOrder_54 (by decide) ?_
      refine tt_aload_n C 0 dX1_readOrder_86 rfl rfl ?_
      refine tt_getR C (j := 0) (r0 := 18) dX_23 rfl fl_RX1_12 dX1_readOrder_87 ?_
      refine tt_dup C dX1_readOrder_90 rfl ?_
      refine tt_getI C (j := 5) dX_18 rfl fl_RX1_154 dX1_readOrder_91 ?_
      refine tt_iconst (v := (1 : Int32)) C dX1_readOrder_94 (by decide) ?_
      refine tt_iadd C dX1_readOrder_95 ?_
      refine tt_putI C (j := 5) dX_18 rfl fl_RX1_154 fw_4_5 dX1_readOrder_96 ?_
      refine tt_lbm (fun m1 => ?_)
      exact tt_vret rfl C hr dX1_readOrder_99
    · refine tt_icmp_gtF C 86 h1 dX1_readOrder_54 (by decide) ?_
      refine tt_aload_n C 0 dX1_readOrder_57 rfl rfl ?_
      refine tt_getR C (j := 0) (r0 := 18) dX_23 rfl fl_RX1_12 dX1_readOrder_58 ?_
      refine tt_getR C (j := 1) (r0 := 20) dX_18 rfl fl_RX1_157 dX1_readOrder_61 ?_
      refine tt_iload_n C 1 dX1_readOrder_64 rfl rfl ?_
      refine tt_iload_n C 2 dX1_readOrder_65 rfl rfl ?_
      refine tt_iadd C dX1_readOrder_66 ?_
      refine tt_aload_n C 0 dX1_readOrder_67 rfl rfl ?_
      refine tt_iload_n C 2 dX1_readOrder_68 rfl rfl ?_
      refine tt_bi (fun v3 m2 h2 => ?_)
      refine tt_callSN (st := [.ref (ad 23), .int (x1 + x2), .ref (ad 20)]) (As := [.int x2]) C (kX7_leastOf C.2.2.2.2.2.2.2.1 h2) mi_X7_leastOf (nx_RX1_163 C) mt_X7_leastOf rfl (by decide) (by decide) (Nat.le_of_ble_eq_true rfl) dX1_readOrder_69 ?_
      refine tt_iload_n C 2 dX1_readOrder_72 rfl rfl ?_
      refine tt_bi (fun v5 m4 h3 => ?_)
      refine tt_callSN (st := [.int v3, .ref (ad 23), .int (x1 + x2), .ref (ad 20)]) (As := [.int x2]) C (kX7_mostOf C.2.2.2.2.2.2.2.1 h3) mi_X7_mostOf (nx_RX1_167 C) mt_X7_mostOf rfl (by decide) (by decide) (Nat.le_of_ble_eq_true rfl) dX1_readOrder_73 ?_
      refine tt_bi (fun v7 m6 h4 => ?_)
      refine tt_callV (st := [.int (x1 + x2), .ref (ad 20)]) (As := [.int v3, .int v5]) C (kX1_takeNumber C.2.2.2.2.2.2.2.1 h4) mi_X1_takeNumber ml_RX1_129 mv_X1_takeNumber ms_X1_takeNumber (q := (RX1, TX1, 12)) dX_23 rfl rfl (by decide) (by decide) (Nat.le_of_ble_eq_true rfl) dX1_readOrder_76 ?_
      refine tt_gr (fun h5 => ?_)
      refine tt_iast C dX_20 h5 dX1_readOrder_79 ?_
      refine tt_lbm (fun m8 => ?_)
      refine tt_iincB (d := (1 : Int32)) C 2 (fun y9 => [(2, .int y9), (0, .ref (ad 23)), (1, .int x1)]) dX1_readOrder_80 rfl (by decide) (by decide) (fun _ => rfl) (fun y9 => ?_)
      refine tt_goto (tgt := 52) C dX1_readOrder_83 (by decide) ?_
      refine tt_sub [1, 2, 0] (L2 := [(0, .ref (ad 23)), (1, .int x1), (2, .int y9)]) rfl ?_
      exact ih x1 y9 m8

def fX1_readOrder (μ : Mem) : Option (Mem) := if (μ 18 5) < (5 : Int32) then (bv (fX1_readToken μ) fun m1 => lb ((m1 18 5) * (5 : Int32)) fun (y2 : Int32) => bi (fX1_takeKind m1) fun v4 m3 => gr (y2 + (0 : Int32)) 25 <| lb (wr m3 20 (y2 + (0 : Int32)).toNatClampNeg v4) fun m5 => lb (1 : Int32) fun (y6 : Int32) => fX1_readOrder_L52 FU y2 y6 m5) else (bv (fX1_fail (5 : Int32) (μ 23 6) μ) fun m7 => some m7)
set_option maxHeartbeats 4000000 in
set_option maxRecDepth 100000 in
theorem wX1_readOrder {p : Program} {l : Launch} {e : Env} {s : State} {m : MethodId} {args : Array Value} {below : List Frame} {meth : Method} {c : Code} {A : Nat → Prop} {D : va_G} {ad : Nat → Nat} {cA : Nat → ClassId} (C : Cx p s m args meth c cX1_readOrder RX1 3 A dsX D ad cA (EX A ad)) (hr : meth.sig.returnType = none) (μ : Mem) : T p l e (rmD 7) s m args below meth c 3 A dsX D ad cA enV (fX1_readOrder μ) 0 [(0, .ref (ad 23))] [] μ := by
  unfold fX1_readOrder
  refine tt_aload_n C 0 dX1_readOrder_0 rfl rfl ?_
  refine tt_getR C (j := 0) (r0 := 18) dX_23 rfl fl_RX1_12 dX1_readOrder_1 ?_
  refine tt_getI C (j := 5) dX_18 rfl fl_RX1_154 dX1_readOrder_4 ?_
  refine tt_iconst (v := (5 : Int32)) C dX1_readOrder_7 (by decide) ?_
  refine tt_if (fun h1 => ?_) (fun h1 => ?_)
  · refine tt_icmp_ltT (tgt := 21) C h1 dX1_readOrder_8 (by decide) ?_
    refine tt_aload_n C 0 dX1_readOrder_21 rfl rfl ?_
    refine tt_bv (fun m1 h2 => ?_)
    refine tt_callV (st := []) (As := []) C (kX1_readToken C.2.2.2.2.2.2.2.1 h2) mi_X1_readToken ml_RX1_47 mv_X1_readToken ms_X1_readToken (q := (RX1, TX1, 12)) dX_23 rfl rfl (by decide) (by decide) (Nat.le_of_ble_eq_true rfl) dX1_readOrder_22 ?_
    refine tt_aload_n C 0 dX1_readOrder_25 rfl rfl ?_
    refine tt_getR C (j := 0) (r0 := 18) dX_23 rfl fl_RX1_12 dX1_readOrder_26 ?_
    refine tt_getI C (j := 5) dX_18 rfl fl_RX1_154 dX1_readOrder_29 ?_
    refine tt_iconst (v := (5 : Int32)) C dX1_readOrder_32 (by decide) ?_
    refine tt_imul C dX1_readOrder_33 ?_
    refine tt_lbi (fun y2 => ?_)
    refine tt_istore_n (L2 := [(1, .int y2), (0, .ref (ad 23))]) C dX1_readOrder_34 rfl (by decide) rfl ?_
    refine tt_aload_n C 1 dX1_readOrder_35 rfl rfl ?_
    refine tt_getR C (j := 0) (r0 := 18) dX_23 rfl fl_RX1_12 dX1_readOrder_36 ?_
    refine tt_getR C (j := 1) (r0 := 20) dX_18 rfl fl_RX1_157 dX1_readOrder_39 ?_
    refine tt_iload_n C 0 dX1_readOrder_42 rfl rfl ?_
    refine tt_iconst (v := (0 : Int32)) C dX1_readOrder_43 (by decide) ?_
    refine tt_iadd C dX1_readOrder_44 ?_
    refine tt_aload_n C 1 dX1_readOrder_45 rfl rfl ?_
    refine tt_bi (fun v4 m3 h3 => ?_)
    refine tt_callV (st := [.int (y2 + (0 : Int32)), .ref (ad 20)]) (As := []) C (kX1_takeKind C.2.2.2.2.2.2.2.1 h3) mi_X1_takeKind ml_RX1_160 mv_X1_takeKind ms_X1_takeKind (q := (RX1, TX1, 12)) dX_23 rfl rfl (by decide) (by decide) (Nat.le_of_ble_eq_true rfl) dX1_readOrder_46 ?_
    refine tt_gr (fun h4 => ?_)
    refine tt_iast C dX_20 h4 dX1_readOrder_49 ?_
    refine tt_lbm (fun m5 => ?_)
    refine tt_iconst (v := (1 : Int32)) C dX1_readOrder_50 (by decide) ?_
    refine tt_lbi (fun y6 => ?_)
    refine tt_istore_n (L2 := [(2, .int y6), (1, .int y2), (0, .ref (ad 23))]) C dX1_readOrder_51 rfl (by decide) rfl ?_
    refine tt_sub [2, 1, 0] (L2 := [(0, .ref (ad 23)), (1, .int y2), (2, .int y6)]) rfl ?_
    exact wX1_readOrder_L52 C hr FU y2 y6 m5
  · refine tt_icmp_ltF C 21 h1 dX1_readOrder_8 (by decide) ?_
    refine tt_aload_n C 0 dX1_readOrder_11 rfl rfl ?_
    refine tt_iconst (v := (5 : Int32)) C dX1_readOrder_12 (by decide) ?_
    refine tt_aload_n C 0 dX1_readOrder_13 rfl rfl ?_
    refine tt_getI C (j := 6) dX_23 rfl fl_RX1_79 dX1_readOrder_14 ?_
    refine tt_bv (fun m7 h5 => ?_)
    refine tt_callV (st := []) (As := [.int (5 : Int32), .int (μ 23 6)]) C (kX1_fail C.2.2.2.2.2.2.2.1 h5) mi_X1_fail ml_RX1_92 mv_X1_fail ms_X1_fail (q := (RX1, TX1, 12)) dX_23 rfl rfl (by decide) (by decide) (Nat.le_of_ble_eq_true rfl) dX1_readOrder_17 ?_
    exact tt_vret rfl C hr dX1_readOrder_20
theorem kX1_readOrder {l : Launch} {A : Nat → Prop} {D : va_G} {ad : Nat → Nat} {cA : Nat → ClassId} (hPk : Pk A dsX ad cA (EX A ad)) {μ : Mem} {ν : Mem} (h : fX1_readOrder μ = some ν) : Ct l A dsX D ad cA (EX A ad) yX1_readOrder cX1_readOrder 3 none 7 [.ref (ad 23)] μ (enV ν) :=
  ct_of (by decide) (Nat.le_of_ble_eq_true rfl) hPk rfl (fun p e s m args below meth c C hr => wX1_readOrder C hr μ) h

/-! BasketRound$Reader.readLine()V -/
def fX1_readLine_J203 (μ : Mem) : Option (Mem) := bv (fX1_takeSemicolon μ) fun m1 => some m1
set_option maxHeartbeats 4000000 in
set_option maxRecDepth 100000 in
theorem wX1_readLine_J203 {p : Program} {l : Launch} {e : Env} {s : State} {m : MethodId} {args : Array Value} {below : List Frame} {meth : Method} {c : Code} {A : Nat → Prop} {D : va_G} {ad : Nat → Nat} {cA : Nat → ClassId} (C : Cx p s m args meth c cX1_readLine RX1 1 A dsX D ad cA (EX A ad)) (hr : meth.sig.returnType = none) (μ : Mem) : T p l e (rmD 8) s m args below meth c 1 A dsX D ad cA enV (fX1_readLine_J203 μ) 203 [(0, .ref (ad 23))] [] μ := by
  unfold fX1_readLine_J203
  refine tt_aload_n C 0 dX1_readLine_203 rfl rfl ?_
  refine tt_bv (fun m1 h1 => ?_)
  refine tt_callV (st := []) (As := []) C (kX1_takeSemicolon C.2.2.2.2.2.2.2.1 h1) mi_X1_takeSemicolon ml_RX1_146 mv_X1_takeSemicolon ms_X1_takeSemicolon (q := (RX1, TX1, 12)) dX_23 rfl rfl (by decide) (by decide) (Nat.le_of_ble_eq_true rfl) dX1_readLine_204 ?_
  exact tt_vret rfl C hr dX1_readLine_207

def fX1_readLine (μ : Mem) : Option (Mem) := bi (fX1_isNamed 0 μ) fun v2 m1 => if v2 = (0 : Int32) then (bi (fX1_isNamed 1 m1) fun v4 m3 => if v4 = (0 : Int32) then (bi (fX1_isNamed 2 m3) fun v6 m5 => if v6 = (0 : Int32) then (bi (fX1_isNamed 3 m5) fun v8 m7 => if v8 = (0 : Int32) then (bi (fX1_isNamed 9 m7) fun v10 m9 => if v10 = (0 : Int32) then (bi (fX1_isNamed 10 m9) fun v12 m11 => if v12 = (0 : Int32) then (bi (fX1_isNamed 11 m11) fun v14 m13 => if v14 = (0 : Int32) then (bi (fX1_isNamed 12 m13) fun v16 m15 => if v16 = (0 : Int32) then (bv (fX1_fail (2 : Int32) (m15 23 6) m15) fun m17 => fX1_readLine_J203 m17) else (bv (fX1_takeOnce (8 : Int32) m15) fun m18 => bi (fX1_takeRow 22 m18) fun v20 m19 => lb (wr m19 23 11 v20) fun m21 => fX1_readLine_J203 m21)) else (bv (fX1_takeOnce (4 : Int32) m13) fun m22 => bi (fX1_takeRow 21 m22) fun v24 m23 => lb (wr m23 23 10 v24) fun m25 => fX1_readLine_J203 m25)) else (bv (fX1_takeOnce (2 : Int32) m11) fun m26 => bi (fX1_takeNumber (0 : Int32) (60 : Int32) m26) fun v28 m27 => lb (wr m27 18 7 v28) fun m29 => fX1_readLine_J203 m29)) else (bv (fX1_takeOnce (1 : Int32) m9) fun m30 => bi (fX1_takeNumber (0 : Int32) (60 : Int32) m30) fun v32 m31 => lb (wr m31 18 6 v32) fun m33 => fX1_readLine_J203 m33)) else (bv (fX1_readOrder m7) fun m34 => fX1_readLine_J203 m34)) else (bv (fX1_readHouse (2 : Int32) m5) fun m35 => fX1_readLine_J203 m35)) else (bv (fX1_readHouse (1 : Int32) m3) fun m36 => fX1_readLine_J203 m36)) else (bv (fX1_readHouse (0 : Int32) m1) fun m37 => fX1_readLine_J203 m37)
set_option maxHeartbeats 4000000 in
set_option maxRecDepth 100000 in
theorem wX1_readLine {p : Program} {l : Launch} {e : Env} {s : State} {m : MethodId} {args : Array Value} {below : List Frame} {meth : Method} {c : Code} {A : Nat → Prop} {D : va_G} {ad : Nat → Nat} {cA : Nat → ClassId} (C : Cx p s m args meth c cX1_readLine RX1 1 A dsX D ad cA (EX A ad)) (hr : meth.sig.returnType = none) (μ : Mem) : T p l e (rmD 8) s m args below meth c 1 A dsX D ad cA enV (fX1_readLine μ) 0 [(0, .ref (ad 23))] [] μ := by
  unfold fX1_readLine
  refine tt_aload_n C 0 dX1_readLine_0 rfl rfl ?_
  refine tt_ldcS C (k := 0) (index := 105) ⟨by decide, rfl⟩ dX1_readLine_1 ?_
  refine tt_bi (fun v2 m1 h1 => ?_)
  refine tt_callV (st := []) (As := [.ref (ad 1000)]) C (kX1_isNamed C.2.2.2.2.2.2.2.1 0 (by decide) h1) mi_X1_isNamed ml_RX1_107 mv_X1_isNamed ms_X1_isNamed (q := (RX1, TX1, 12)) dX_23 rfl rfl (by decide) (by decide) (Nat.le_of_ble_eq_true rfl) dX1_readLine_3 ?_
  refine tt_if (fun h2 => ?_) (fun h2 => ?_)
  · refine tt_if_eqT (tgt := 17) C h2 dX1_readLine_6 (by decide) ?_
    refine tt_aload_n C 0 dX1_readLine_17 rfl rfl ?_
    refine tt_ldcS C (k := 1) (index := 115) ⟨by decide, rfl⟩ dX1_readLine_18 ?_
    refine tt_bi (fun v4 m3 h3 => ?_)
    refine tt_callV (st := []) (As := [.ref (ad 1001)]) C (kX1_isNamed C.2.2.2.2.2.2.2.1 1 (by decide) h3) mi_X1_isNamed ml_RX1_107 mv_X1_isNamed ms_X1_isNamed (q := (RX1, TX1, 12)) dX_23 rfl rfl (by decide) (by decide) (Nat.le_of_ble_eq_true rfl) dX1_readLine_20 ?_
    refine tt_if (fun h4 => ?_) (fun h4 => ?_)
    · refine tt_if_eqT (tgt := 34) C h4 dX1_readLine_23 (by decide) ?_
      refine tt_aload_n C 0 dX1_readLine_34 rfl rfl ?_
      refine tt_ldcS C (k := 2) (index := 117) ⟨by decide, rfl⟩ dX1_readLine_35 ?_
      refine tt_bi (fun v6 m5 h5 => ?_)
      refine tt_callV (st := []) (As := [.ref (ad 1002)]) C (kX1_isNamed C.2.2.2.2.2.2.2.1 2 (by decide) h5) mi_X1_isNamed ml_RX1_107 mv_X1_isNamed ms_X1_isNamed (q := (RX1, TX1, 12)) dX_23 rfl rfl (by decide) (by decide) (Nat.le_of_ble_eq_true rfl) dX1_readLine_37 ?_
      refine tt_if (fun h6 => ?_) (fun h6 => ?_)
      · refine tt_if_eqT (tgt := 51) C h6 dX1_readLine_40 (by decide) ?_
        refine tt_aload_n C 0 dX1_readLine_51 rfl rfl ?_
        refine tt_ldcS C (k := 3) (index := 119) ⟨by decide, rfl⟩ dX1_readLine_52 ?_
        refine tt_bi (fun v8 m7 h7 => ?_)
        refine tt_callV (st := []) (As := [.ref (ad 1003)]) C (kX1_isNamed C.2.2.2.2.2.2.2.1 3 (by decide) h7) mi_X1_isNamed ml_RX1_107 mv_X1_isNamed ms_X1_isNamed (q := (RX1, TX1, 12)) dX_23 rfl rfl (by decide) (by decide) (Nat.le_of_ble_eq_true rfl) dX1_readLine_54 ?_
        refine tt_if (fun h8 => ?_) (fun h8 => ?_)
        · refine tt_if_eqT (tgt := 67) C h8 dX1_readLine_57 (by decide) ?_
          refine tt_aload_n C 0 dX1_readLine_67 rfl rfl ?_
          refine tt_ldcS C (k := 9) (index := 124) ⟨by decide, rfl⟩ dX1_readLine_68 ?_
          refine tt_bi (fun v10 m9 h9 => ?_)
          refine tt_callV (st := []) (As := [.ref (ad 1009)]) C (kX1_isNamed C.2.2.2.2.2.2.2.1 9 (by decide) h9) mi_X1_isNamed ml_RX1_107 mv_X1_isNamed ms_X1_isNamed (q := (RX1, TX1, 12)) dX_23 rfl rfl (by decide) (by decide) (Nat.le_of_ble_eq_true rfl) dX1_readLine_70 ?_
          refine tt_if (fun h10 => ?_) (fun h10 => ?_)
          · refine tt_if_eqT (tgt := 98) C h10 dX1_readLine_73 (by decide) ?_
            refine tt_aload_n C 0 dX1_readLine_98 rfl rfl ?_
            refine tt_ldcS C (k := 10) (index := 135) ⟨by decide, rfl⟩ dX1_readLine_99 ?_
            refine tt_bi (fun v12 m11 h11 => ?_)
            refine tt_callV (st := []) (As := [.ref (ad 1010)]) C (kX1_isNamed C.2.2.2.2.2.2.2.1 10 (by decide) h11) mi_X1_isNamed ml_RX1_107 mv_X1_isNamed ms_X1_isNamed (q := (RX1, TX1, 12)) dX_23 rfl rfl (by decide) (by decide) (Nat.le_of_ble_eq_true rfl) dX1_readLine_101 ?_
            refine tt_if (fun h12 => ?_) (fun h12 => ?_)
            · refine tt_if_eqT (tgt := 129) C h12 dX1_readLine_104 (by decide) ?_
              refine tt_aload_n C 0 dX1_readLine_129 rfl rfl ?_
              refine tt_ldcS C (k := 11) (index := 139) ⟨by decide, rfl⟩ dX1_readLine_130 ?_
              refine tt_bi (fun v14 m13 h13 => ?_)
              refine tt_callV (st := []) (As := [.ref (ad 1011)]) C (kX1_isNamed C.2.2.2.2.2.2.2.1 11 (by decide) h13) mi_X1_isNamed ml_RX1_107 mv_X1_isNamed ms_X1_isNamed (q := (RX1, TX1, 12)) dX_23 rfl rfl (by decide) (by decide) (Nat.le_of_ble_eq_true rfl) dX1_readLine_132 ?_
              refine tt_if (fun h14 => ?_) (fun h14 => ?_)
              · refine tt_if_eqT (tgt := 161) C h14 dX1_readLine_135 (by decide) ?_
                refine tt_aload_n C 0 dX1_readLine_161 rfl rfl ?_
                refine tt_ldcS C (k := 12) (index := 145) ⟨by decide, rfl⟩ dX1_readLine_162 ?_
                refine tt_bi (fun v16 m15 h15 => ?_)
                refine tt_callV (st := []) (As := [.ref (ad 1012)]) C (kX1_isNamed C.2.2.2.2.2.2.2.1 12 (by decide) h15) mi_X1_isNamed ml_RX1_107 mv_X1_isNamed ms_X1_isNamed (q := (RX1, TX1, 12)) dX_23 rfl rfl (by decide) (by decide) (Nat.le_of_ble_eq_true rfl) dX1_readLine_164 ?_
                refine tt_if (fun h16 => ?_) (fun h16 => ?_)
                · refine tt_if_eqT (tgt := 194) C h16 dX1_readLine_167 (by decide) ?_
                  refine tt_aload_n C 0 dX1_readLine_194 rfl rfl ?_
                  refine tt_iconst (v := (2 : Int32)) C dX1_readLine_195 (by decide) ?_
                  refine tt_aload_n C 0 dX1_readLine_196 rfl rfl ?_
                  refine tt_getI C (j := 6) dX_23 rfl fl_RX1_79 dX1_readLine_197 ?_
                  refine tt_bv (fun m17 h17 => ?_)
                  refine tt_callV (st := []) (As := [.int (2 : Int32), .int (m15 23 6)]) C (kX1_fail C.2.2.2.2.2.2.2.1 h17) mi_X1_fail ml_RX1_92 mv_X1_fail ms_X1_fail (q := (RX1, TX1, 12)) dX_23 rfl rfl (by decide) (by decide) (Nat.le_of_ble_eq_true rfl) dX1_readLine_200 ?_
                  refine tt_sub [0] (L2 := [(0, .ref (ad 23))]) rfl ?_
                  exact wX1_readLine_J203 C hr m17
                · refine tt_if_eqF C 194 h16 dX1_readLine_167 (by decide) ?_
                  refine tt_aload_n C 0 dX1_readLine_170 rfl rfl ?_
                  refine tt_bipush (v := (8 : Int32)) C dX1_readLine_171 (by decide) ?_
                  refine tt_bv (fun m18 h18 => ?_)
                  refine tt_callV (st := []) (As := [.int (8 : Int32)]) C (kX1_takeOnce C.2.2.2.2.2.2.2.1 h18) mi_X1_takeOnce ml_RX1_126 mv_X1_takeOnce ms_X1_takeOnce (q := (RX1, TX1, 12)) dX_23 rfl rfl (by decide) (by decide) (Nat.le_of_ble_eq_true rfl) dX1_readLine_173 ?_
                  refine tt_aload_n C 0 dX1_readLine_176 rfl rfl ?_
                  refine tt_aload_n C 0 dX1_readLine_177 rfl rfl ?_
                  refine tt_aload_n C 0 dX1_readLine_178 rfl rfl ?_
                  refine tt_getR C (j := 0) (r0 := 18) dX_23 rfl fl_RX1_12 dX1_readLine_179 ?_
                  refine tt_getR C (j := 3) (r0 := 22) dX_18 rfl fl_RX1_67 dX1_readLine_182 ?_
                  refine tt_bi (fun v20 m19 h19 => ?_)
                  refine tt_callV (st := [.ref (ad 23)]) (As := [.ref (ad 22)]) C (kX1_takeRow C.2.2.2.2.2.2.2.1 22 dX_22 h19) mi_X1_takeRow ml_RX1_141 mv_X1_takeRow ms_X1_takeRow (q := (RX1, TX1, 12)) dX_23 rfl rfl (by decide) (by decide) (Nat.le_of_ble_eq_true rfl) dX1_readLine_185 ?_
                  refine tt_putI C (j := 11) dX_23 rfl fl_RX1_44 fw_1_11 dX1_readLine_188 ?_
                  refine tt_lbm (fun m21 => ?_)
                  refine tt_goto (tgt := 203) C dX1_readLine_191 (by decide) ?_
                  refine tt_sub [0] (L2 := [(0, .ref (ad 23))]) rfl ?_
                  exact wX1_readLine_J203 C hr m21
              · refine tt_if_eqF C 161 h14 dX1_readLine_135 (by decide) ?_
                refine tt_aload_n C 0 dX1_readLine_138 rfl rfl ?_
                refine tt_iconst (v := (4 : Int32)) C dX1_readLine_139 (by decide) ?_
                refine tt_bv (fun m22 h20 => ?_)
                refine tt_callV (st := []) (As := [.int (4 : Int32)]) C (kX1_takeOnce C.2.2.2.2.2.2.2.1 h20) mi_X1_takeOnce ml_RX1_126 mv_X1_takeOnce ms_X1_takeOnce (q := (RX1, TX1, 12)) dX_23 rfl rfl (by decide) (by decide) (Nat.le_of_ble_eq_true rfl) dX1_readLine_140 ?_
                refine tt_aload_n C 0 dX1_readLine_143 rfl rfl ?_
                refine tt_aload_n C 0 dX1_readLine_144 rfl rfl ?_
                refine tt_aload_n C 0 dX1_readLine_145 rfl rfl ?_
                refine tt_getR C (j := 0) (r0 := 18) dX_23 rfl fl_RX1_12 dX1_readLine_146 ?_
                refine tt_getR C (j := 2) (r0 := 21) dX_18 rfl fl_RX1_59 dX1_readLine_149 ?_
                refine tt_bi (fun v24 m23 h21 => ?_)
                refine tt_callV (st := [.ref (ad 23)]) (As := [.ref (ad 21)]) C (kX1_takeRow C.2.2.2.2.2.2.2.1 21 dX_21 h21) mi_X1_takeRow ml_RX1_141 mv_X1_takeRow ms_X1_takeRow (q := (RX1, TX1, 12)) dX_23 rfl rfl (by decide) (by decide) (Nat.le_of_ble_eq_true rfl) dX1_readLine_152 ?_
                refine tt_putI C (j := 10) dX_23 rfl fl_RX1_41 fw_1_10 dX1_readLine_155 ?_
                refine tt_lbm (fun m25 => ?_)
                refine tt_goto (tgt := 203) C dX1_readLine_158 (by decide) ?_
                refine tt_sub [0] (L2 := [(0, .ref (ad 23))]) rfl ?_
                exact wX1_readLine_J203 C hr m25
            · refine tt_if_eqF C 129 h12 dX1_readLine_104 (by decide) ?_
              refine tt_aload_n C 0 dX1_readLine_107 rfl rfl ?_
              refine tt_iconst (v := (2 : Int32)) C dX1_readLine_108 (by decide) ?_
              refine tt_bv (fun m26 h22 => ?_)
              refine tt_callV (st := []) (As := [.int (2 : Int32)]) C (kX1_takeOnce C.2.2.2.2.2.2.2.1 h22) mi_X1_takeOnce ml_RX1_126 mv_X1_takeOnce ms_X1_takeOnce (q := (RX1, TX1, 12)) dX_23 rfl rfl (by decide) (by decide) (Nat.le_of_ble_eq_true rfl) dX1_readLine_109 ?_
              refine tt_aload_n C 0 dX1_readLine_112 rfl rfl ?_
              refine tt_getR C (j := 0) (r0 := 18) dX_23 rfl fl_RX1_12 dX1_readLine_113 ?_
              refine tt_aload_n C 0 dX1_readLine_116 rfl rfl ?_
              refine tt_iconst (v := (0 : Int32)) C dX1_readLine_117 (by decide) ?_
              refine tt_bipush (v := (60 : Int32)) C dX1_readLine_118 (by decide) ?_
              refine tt_bi (fun v28 m27 h23 => ?_)
              refine tt_callV (st := [.ref (ad 18)]) (As := [.int (0 : Int32), .int (60 : Int32)]) C (kX1_takeNumber C.2.2.2.2.2.2.2.1 h23) mi_X1_takeNumber ml_RX1_129 mv_X1_takeNumber ms_X1_takeNumber (q := (RX1, TX1, 12)) dX_23 rfl rfl (by decide) (by decide) (Nat.le_of_ble_eq_true rfl) dX1_readLine_120 ?_
              refine tt_putI C (j := 7) dX_18 rfl fl_RX1_137 fw_4_7 dX1_readLine_123 ?_
              refine tt_lbm (fun m29 => ?_)
              refine tt_goto (tgt := 203) C dX1_readLine_126 (by decide) ?_
              refine tt_sub [0] (L2 := [(0, .ref (ad 23))]) rfl ?_
              exact wX1_readLine_J203 C hr m29
          · refine tt_if_eqF C 98 h10 dX1_readLine_73 (by decide) ?_
            refine tt_aload_n C 0 dX1_readLine_76 rfl rfl ?_
            refine tt_iconst (v := (1 : Int32)) C dX1_readLine_77 (by decide) ?_
            refine tt_bv (fun m30 h24 => ?_)
            refine tt_callV (st := []) (As := [.int (1 : Int32)]) C (kX1_takeOnce C.2.2.2.2.2.2.2.1 h24) mi_X1_takeOnce ml_RX1_126 mv_X1_takeOnce ms_X1_takeOnce (q := (RX1, TX1, 12)) dX_23 rfl rfl (by decide) (by decide) (Nat.le_of_ble_eq_true rfl) dX1_readLine_78 ?_
            refine tt_aload_n C 0 dX1_readLine_81 rfl rfl ?_
            refine tt_getR C (j := 0) (r0 := 18) dX_23 rfl fl_RX1_12 dX1_readLine_82 ?_
            refine tt_aload_n C 0 dX1_readLine_85 rfl rfl ?_
            refine tt_iconst (v := (0 : Int32)) C dX1_readLine_86 (by decide) ?_
            refine tt_bipush (v := (60 : Int32)) C dX1_readLine_87 (by decide) ?_
            refine tt_bi (fun v32 m31 h25 => ?_)
            refine tt_callV (st := [.ref (ad 18)]) (As := [.int (0 : Int32), .int (60 : Int32)]) C (kX1_takeNumber C.2.2.2.2.2.2.2.1 h25) mi_X1_takeNumber ml_RX1_129 mv_X1_takeNumber ms_X1_takeNumber (q := (RX1, TX1, 12)) dX_23 rfl rfl (by decide) (by decide) (Nat.le_of_ble_eq_true rfl) dX1_readLine_89 ?_
            refine tt_putI C (j := 6) dX_18 rfl fl_RX1_133 fw_4_6 dX1_readLine_92 ?_
            refine tt_lbm (fun m33 => ?_)
            refine tt_goto (tgt := 203) C dX1_readLine_95 (by decide) ?_
            refine tt_sub [0] (L2 := [(0, .ref (ad 23))]) rfl ?_
            exact wX1_readLine_J203 C hr m33
        · refine tt_if_eqF C 67 h8 dX1_readLine_57 (by decide) ?_
          refine tt_aload_n C 0 dX1_readLine_60 rfl rfl ?_
          refine tt_bv (fun m34 h26 => ?_)
          refine tt_callV (st := []) (As := []) C (kX1_readOrder C.2.2.2.2.2.2.2.1 h26) mi_X1_readOrder ml_RX1_121 mv_X1_readOrder ms_X1_readOrder (q := (RX1, TX1, 12)) dX_23 rfl rfl (by decide) (by decide) (Nat.le_of_ble_eq_true rfl) dX1_readLine_61 ?_
          refine tt_goto (tgt := 203) C dX1_readLine_64 (by decide) ?_
          refine tt_sub [0] (L2 := [(0, .ref (ad 23))]) rfl ?_
          exact wX1_readLine_J203 C hr m34
      · refine tt_if_eqF C 51 h6 dX1_readLine_40 (by decide) ?_
        refine tt_aload_n C 0 dX1_readLine_43 rfl rfl ?_
        refine tt_iconst (v := (2 : Int32)) C dX1_readLine_44 (by decide) ?_
        refine tt_bv (fun m35 h27 => ?_)
        refine tt_callV (st := []) (As := [.int (2 : Int32)]) C (kX1_readHouse C.2.2.2.2.2.2.2.1 h27) mi_X1_readHouse ml_RX1_111 mv_X1_readHouse ms_X1_readHouse (q := (RX1, TX1, 12)) dX_23 rfl rfl (by decide) (by decide) (Nat.le_of_ble_eq_true rfl) dX1_readLine_45 ?_
        refine tt_goto (tgt := 203) C dX1_readLine_48 (by decide) ?_
        refine tt_sub [0] (L2 := [(0, .ref (ad 23))]) rfl ?_
        exact wX1_readLine_J203 C hr m35
    · refine tt_if_eqF C 34 h4 dX1_readLine_23 (by decide) ?_
      refine tt_aload_n C 0 dX1_readLine_26 rfl rfl ?_
      refine tt_iconst (v := (1 : Int32)) C dX1_readLine_27 (by decide) ?_
      refine tt_bv (fun m36 h28 => ?_)
      refine tt_callV (st := []) (As := [.int (1 : Int32)]) C (kX1_readHouse C.2.2.2.2.2.2.2.1 h28) mi_X1_readHouse ml_RX1_111 mv_X1_readHouse ms_X1_readHouse (q := (RX1, TX1, 12)) dX_23 rfl rfl (by decide) (by decide) (Nat.le_of_ble_eq_true rfl) dX1_readLine_28 ?_
      refine tt_goto (tgt := 203) C dX1_readLine_31 (by decide) ?_
      refine tt_sub [0] (L2 := [(0, .ref (ad 23))]) rfl ?_
      exact wX1_readLine_J203 C hr m36
  · refine tt_if_eqF C 17 h2 dX1_readLine_6 (by decide) ?_
    refine tt_aload_n C 0 dX1_readLine_9 rfl rfl ?_
    refine tt_iconst (v := (0 : Int32)) C dX1_readLine_10 (by decide) ?_
    refine tt_bv (fun m37 h29 => ?_)
    refine tt_callV (st := []) (As := [.int (0 : Int32)]) C (kX1_readHouse C.2.2.2.2.2.2.2.1 h29) mi_X1_readHouse ml_RX1_111 mv_X1_readHouse ms_X1_readHouse (q := (RX1, TX1, 12)) dX_23 rfl rfl (by decide) (by decide) (Nat.le_of_ble_eq_true rfl) dX1_readLine_11 ?_
    refine tt_goto (tgt := 203) C dX1_readLine_14 (by decide) ?_
    refine tt_sub [0] (L2 := [(0, .ref (ad 23))]) rfl ?_
    exact wX1_readLine_J203 C hr m37
theorem kX1_readLine {l : Launch} {A : Nat → Prop} {D : va_G} {ad : Nat → Nat} {cA : Nat → ClassId} (hPk : Pk A dsX ad cA (EX A ad)) {μ : Mem} {ν : Mem} (h : fX1_readLine μ = some ν) : Ct l A dsX D ad cA (EX A ad) yX1_readLine cX1_readLine 1 none 8 [.ref (ad 23)] μ (enV ν) :=
  ct_of (by decide) (Nat.le_of_ble_eq_true rfl) hPk rfl (fun p e s m args below meth c C hr => wX1_readLine C hr μ) h

/-! BasketRound$Reader.readTape()V -/
def fX1_readTape_J100 (μ : Mem) : Option (Mem) := bv (fX1_addOthers 21 (μ 23 10) μ) fun m1 => bv (fX1_addOthers 22 (m1 23 11) m1) fun m2 => some m2
set_option maxHeartbeats 4000000 in
set_option maxRecDepth 100000 in
theorem wX1_readTape_J100 {p : Program} {l : Launch} {e : Env} {s : State} {m : MethodId} {args : Array Value} {below : List Frame} {meth : Method} {c : Code} {A : Nat → Prop} {D : va_G} {ad : Nat → Nat} {cA : Nat → ClassId} (C : Cx p s m args meth c cX1_readTape RX1 2 A dsX D ad cA (EX A ad)) (hr : meth.sig.returnType = none) (μ : Mem) : T p l e (rmD 9) s m args below meth c 2 A dsX D ad cA enV (fX1_readTape_J100 μ) 100 [(0, .ref (ad 23))] [] μ := by
  unfold fX1_readTape_J100
  refine tt_aload_n C 0 dX1_readTape_100 rfl rfl ?_
  refine tt_aload_n C 0 dX1_readTape_101 rfl rfl ?_
  refine tt_getR C (j := 0) (r0 := 18) dX_23 rfl fl_RX1_12 dX1_readTape_102 ?_
  refine tt_getR C (j := 2) (r0 := 21) dX_18 rfl fl_RX1_59 dX1_readTape_105 ?_
  refine tt_aload_n C 0 dX1_readTape_108 rfl rfl ?_
  refine tt_getI C (j := 10) dX_23 rfl fl_RX1_41 dX1_readTape_109 ?_
  refine tt_bv (fun m1 h1 => ?_)
  refine tt_callV (st := []) (As := [.ref (ad 21), .int (μ 23 10)]) C (kX1_addOthers C.2.2.2.2.2.2.2.1 21 dX_21 h1) mi_X1_addOthers ml_RX1_63 mv_X1_addOthers ms_X1_addOthers (q := (RX1, TX1, 12)) dX_23 rfl rfl (by decide) (by decide) (Nat.le_of_ble_eq_true rfl) dX1_readTape_112 ?_
  refine tt_aload_n C 0 dX1_readTape_115 rfl rfl ?_
  refine tt_aload_n C 0 dX1_readTape_116 rfl rfl ?_
  refine tt_getR C (j := 0) (r0 := 18) dX_23 rfl fl_RX1_12 dX1_readTape_117 ?_
  refine tt_getR C (j := 3) (r0 := 22) dX_18 rfl fl_RX1_67 dX1_readTape_120 ?_
  refine tt_aload_n C 0 dX1_readTape_123 rfl rfl ?_
  refine tt_getI C (j := 11) dX_23 rfl fl_RX1_44 dX1_readTape_124 ?_
  refine tt_bv (fun m2 h2 => ?_)
  refine tt_callV (st := []) (As := [.ref (ad 22), .int (m1 23 11)]) C (kX1_addOthers C.2.2.2.2.2.2.2.1 22 dX_22 h2) mi_X1_addOthers ml_RX1_63 mv_X1_addOthers ms_X1_addOthers (q := (RX1, TX1, 12)) dX_23 rfl rfl (by decide) (by decide) (Nat.le_of_ble_eq_true rfl) dX1_readTape_127 ?_
  exact tt_vret rfl C hr dX1_readTape_130

def fX1_readTape_J89 (μ : Mem) : Option (Mem) := if (μ 23 3) = (0 : Int32) then (bv (fX1_findMissing μ) fun m1 => fX1_readTape_J100 m1) else (fX1_readTape_J100 μ)
set_option maxHeartbeats 4000000 in
set_option maxRecDepth 100000 in
theorem wX1_readTape_J89 {p : Program} {l : Launch} {e : Env} {s : State} {m : MethodId} {args : Array Value} {below : List Frame} {meth : Method} {c : Code} {A : Nat → Prop} {D : va_G} {ad : Nat → Nat} {cA : Nat → ClassId} (C : Cx p s m args meth c cX1_readTape RX1 2 A dsX D ad cA (EX A ad)) (hr : meth.sig.returnType = none) (μ : Mem) : T p l e (rmD 9) s m args below meth c 2 A dsX D ad cA enV (fX1_readTape_J89 μ) 89 [(0, .ref (ad 23))] [] μ := by
  unfold fX1_readTape_J89
  refine tt_aload_n C 0 dX1_readTape_89 rfl rfl ?_
  refine tt_getI C (j := 3) dX_23 rfl fl_RX1_29 dX1_readTape_90 ?_
  refine tt_if (fun h1 => ?_) (fun h1 => ?_)
  · refine tt_if_neF C 100 h1 dX1_readTape_93 (by decide) ?_
    refine tt_aload_n C 0 dX1_readTape_96 rfl rfl ?_
    refine tt_bv (fun m1 h2 => ?_)
    refine tt_callV (st := []) (As := []) C (kX1_findMissing C.2.2.2.2.2.2.2.1 h2) mi_X1_findMissing ml_RX1_56 mv_X1_findMissing ms_X1_findMissing (q := (RX1, TX1, 12)) dX_23 rfl rfl (by decide) (by decide) (Nat.le_of_ble_eq_true rfl) dX1_readTape_97 ?_
    refine tt_sub [0] (L2 := [(0, .ref (ad 23))]) rfl ?_
    exact wX1_readTape_J100 C hr m1
  · refine tt_if_neT (tgt := 100) C h1 dX1_readTape_93 (by decide) ?_
    refine tt_sub [0] (L2 := [(0, .ref (ad 23))]) rfl ?_
    exact wX1_readTape_J100 C hr μ

def fX1_readTape_L48 : Nat → Int32 → Mem → Option (Mem)
  | 0, _, _ => none
  | fu + 1, x1, μ => if (160 : Int32) < x1 then (fX1_readTape_J89 μ) else (if (μ 23 3) = (0 : Int32) then (if (μ 23 5) = (0 : Int32) then (fX1_readTape_J89 μ) else (bv (fX1_readLine μ) fun m1 => lb (wr m1 23 2 ((m1 23 2) + (1 : Int32))) fun m2 => lb (x1 + (1 : Int32)) fun (y3 : Int32) => fX1_readTape_L48 fu y3 m2)) else (fX1_readTape_J89 μ))
set_option maxHeartbeats 4000000 in
set_option maxRecDepth 100000 in
theorem wX1_readTape_L48 {p : Program} {l : Launch} {e : Env} {s : State} {m : MethodId} {args : Array Value} {below : List Frame} {meth : Method} {c : Code} {A : Nat → Prop} {D : va_G} {ad : Nat → Nat} {cA : Nat → ClassId} (C : Cx p s m args meth c cX1_readTape RX1 2 A dsX D ad cA (EX A ad)) (hr : meth.sig.returnType = none) : ∀ (fu : Nat) (x1 : Int32) (μ : Mem), T p l e (rmD 9) s m args below meth c 2 A dsX D ad cA enV (fX1_readTape_L48 fu x1 μ) 48 [(0, .ref (ad 23)), (1, .int x1)] [] μ
  | 0, _, _ => tt_none
  | fu + 1, x1, μ => by
    have ih := fun (x1 : Int32) (μ : Mem) => wX1_readTape_L48 (l := l) (e := e) (below := below) C hr fu x1 μ
    show T p l e (rmD 9) s m args below meth c 2 A dsX D ad cA enV (if (160 : Int32) < x1 then (fX1_readTape_J89 μ) else (if (μ 23 3) = (0 : Int32) then (if (μ 23 5) = (0 : Int32) then (fX1_readTape_J89 μ) else (bv (fX1_readLine μ) fun m1 => lb (wr m1 23 2 ((m1 23 2) + (1 : Int32))) fun m2 => lb (x1 + (1 : Int32)) fun (y3 : Int32) => fX1_readTape_L48 fu y3 m2)) else (fX1_readTape_J89 μ))) 48 [(0, .ref (ad 23)), (1, .int x1)] [] μ
    refine tt_iload_n C 1 dX1_readTape_48 rfl rfl ?_
    refine tt_sipush (v := (160 : Int32)) C dX1_readTape_49 (by decide) ?_
    refine tt_if (fun h1 => ?_) (fun h1 => ?_)
    · refine tt_icmp_gtT (tgt := 89) C h1 dX1_readTape_52 (by decide) ?_
      refine tt_sub [0] (L2 := [(0, .ref (ad 23))]) rfl ?_
      exact wX1_readTape_J89 C hr μ
    · refine tt_icmp_gtF C 89 h1 dX1_readTape_52 (by decide) ?_
      refine tt_aload_n C 0 dX1_readTape_55 rfl rfl ?_
      refine tt_getI C (j := 3) dX_23 rfl fl_RX1_29 dX1_readTape_56 ?_
      refine tt_if (fun h2 => ?_) (fun h2 => ?_)
      · refine tt_if_neF C 89 h2 dX1_readTape_59 (by decide) ?_
        refine tt_aload_n C 0 dX1_readTape_62 rfl rfl ?_
        refine tt_getI C (j := 5) dX_23 rfl fl_RX1_50 dX1_readTape_63 ?_
        refine tt_if (fun h3 => ?_) (fun h3 => ?_)
        · refine tt_if_eqT (tgt := 89) C h3 dX1_readTape_66 (by decide) ?_
          refine tt_sub [0] (L2 := [(0, .ref (ad 23))]) rfl ?_
          exact wX1_readTape_J89 C hr μ
        · refine tt_if_eqF C 89 h3 dX1_readTape_66 (by decide) ?_
          refine tt_aload_n C 0 dX1_readTape_69 rfl rfl ?_
          refine tt_bv (fun m1 h4 => ?_)
          refine tt_callV (st := []) (As := []) C (kX1_readLine C.2.2.2.2.2.2.2.1 h4) mi_X1_readLine ml_RX1_53 mv_X1_readLine ms_X1_readLine (q := (RX1, TX1, 12)) dX_23 rfl rfl (by decide) (by decide) (Nat.le_of_ble_eq_true rfl) dX1_readTape_70 ?_
          refine tt_aload_n C 0 dX1_readTape_73 rfl rfl ?_
          refine tt_dup C dX1_readTape_74 rfl ?_
          refine tt_getI C (j := 2) dX_23 rfl fl_RX1_25 dX1_readTape_75 ?_
          refine tt_iconst (v := (1 : Int32)) C dX1_readTape_78 (by decide) ?_
          refine tt_iadd C dX1_readTape_79 ?_
          refine tt_putI C (j := 2) dX_23 rfl fl_RX1_25 fw_1_2 dX1_readTape_80 ?_
          refine tt_lbm (fun m2 => ?_)
          refine tt_iincB (d := (1 : Int32)) C 1 (fun y3 => [(1, .int y3), (0, .ref (ad 23))]) dX1_readTape_83 rfl (by decide) (by decide) (fun _ => rfl) (fun y3 => ?_)
          refine tt_goto (tgt := 48) C dX1_readTape_86 (by decide) ?_
          refine tt_sub [1, 0] (L2 := [(0, .ref (ad 23)), (1, .int y3)]) rfl ?_
          exact ih y3 m2
      · refine tt_if_neT (tgt := 89) C h2 dX1_readTape_59 (by decide) ?_
        refine tt_sub [0] (L2 := [(0, .ref (ad 23))]) rfl ?_
        exact wX1_readTape_J89 C hr μ

def fX1_readTape (μ : Mem) : Option (Mem) := bv (fX4_clear 18 μ) fun m1 => lb (wr m1 23 2 (0 : Int32)) fun m2 => lb (wr m2 23 3 (0 : Int32)) fun m3 => lb (wr m3 23 4 (0 : Int32)) fun m4 => lb (wr m4 23 7 (0 : Int32)) fun m5 => lb (wr m5 23 9 (0 : Int32)) fun m6 => lb (wr m6 23 10 (0 : Int32)) fun m7 => lb (wr m7 23 11 (0 : Int32)) fun m8 => bv (fX1_readToken m8) fun m9 => lb (0 : Int32) fun (y10 : Int32) => fX1_readTape_L48 FU y10 m9
set_option maxHeartbeats 4000000 in
set_option maxRecDepth 100000 in
theorem wX1_readTape {p : Program} {l : Launch} {e : Env} {s : State} {m : MethodId} {args : Array Value} {below : List Frame} {meth : Method} {c : Code} {A : Nat → Prop} {D : va_G} {ad : Nat → Nat} {cA : Nat → ClassId} (C : Cx p s m args meth c cX1_readTape RX1 2 A dsX D ad cA (EX A ad)) (hr : meth.sig.returnType = none) (μ : Mem) : T p l e (rmD 9) s m args below meth c 2 A dsX D ad cA enV (fX1_readTape μ) 0 [(0, .ref (ad 23))] [] μ := by
  unfold fX1_readTape
  refine tt_aload_n C 0 dX1_readTape_0 rfl rfl ?_
  refine tt_getR C (j := 0) (r0 := 18) dX_23 rfl fl_RX1_12 dX1_readTape_1 ?_
  refine tt_bv (fun m1 h1 => ?_)
  refine tt_callV (st := []) (As := []) C (kX4_clear C.2.2.2.2.2.2.2.1 18 hSh_18 h1) mi_X4_clear ml_RX1_22 mv_X4_clear ms_X4_clear (q := (RX4, TX4, 8)) dX_18 rfl rfl (by decide) (by decide) (Nat.le_of_ble_eq_true rfl) dX1_readTape_4 ?_
  refine tt_aload_n C 0 dX1_readTape_7 rfl rfl ?_
  refine tt_iconst (v := (0 : Int32)) C dX1_readTape_8 (by decide) ?_
  refine tt_putI C (j := 2) dX_23 rfl fl_RX1_25 fw_1_2 dX1_readTape_9 ?_
  refine tt_lbm (fun m2 => ?_)
  refine tt_aload_n C 0 dX1_readTape_12 rfl rfl ?_
  refine tt_iconst (v := (0 : Int32)) C dX1_readTape_13 (by decide) ?_
  refine tt_putI C (j := 3) dX_23 rfl fl_RX1_29 fw_1_3 dX1_readTape_14 ?_
  refine tt_lbm (fun m3 => ?_)
  refine tt_aload_n C 0 dX1_readTape_17 rfl rfl ?_
  refine tt_iconst (v := (0 : Int32)) C dX1_readTape_18 (by decide) ?_
  refine tt_putI C (j := 4) dX_23 rfl fl_RX1_32 fw_1_4 dX1_readTape_19 ?_
  refine tt_lbm (fun m4 => ?_)
  refine tt_aload_n C 0 dX1_readTape_22 rfl rfl ?_
  refine tt_iconst (v := (0 : Int32)) C dX1_readTape_23 (by decide) ?_
  refine tt_putI C (j := 7) dX_23 rfl fl_RX1_35 fw_1_7 dX1_readTape_24 ?_
  refine tt_lbm (fun m5 => ?_)
  refine tt_aload_n C 0 dX1_readTape_27 rfl rfl ?_
  refine tt_iconst (v := (0 : Int32)) C dX1_readTape_28 (by decide) ?_
  refine tt_putI C (j := 9) dX_23 rfl fl_RX1_38 fw_1_9 dX1_readTape_29 ?_
  refine tt_lbm (fun m6 => ?_)
  refine tt_aload_n C 0 dX1_readTape_32 rfl rfl ?_
  refine tt_iconst (v := (0 : Int32)) C dX1_readTape_33 (by decide) ?_
  refine tt_putI C (j := 10) dX_23 rfl fl_RX1_41 fw_1_10 dX1_readTape_34 ?_
  refine tt_lbm (fun m7 => ?_)
  refine tt_aload_n C 0 dX1_readTape_37 rfl rfl ?_
  refine tt_iconst (v := (0 : Int32)) C dX1_readTape_38 (by decide) ?_
  refine tt_putI C (j := 11) dX_23 rfl fl_RX1_44 fw_1_11 dX1_readTape_39 ?_
  refine tt_lbm (fun m8 => ?_)
  refine tt_aload_n C 0 dX1_readTape_42 rfl rfl ?_
  refine tt_bv (fun m9 h2 => ?_)
  refine tt_callV (st := []) (As := []) C (kX1_readToken C.2.2.2.2.2.2.2.1 h2) mi_X1_readToken ml_RX1_47 mv_X1_readToken ms_X1_readToken (q := (RX1, TX1, 12)) dX_23 rfl rfl (by decide) (by decide) (Nat.le_of_ble_eq_true rfl) dX1_readTape_43 ?_
  refine tt_iconst (v := (0 : Int32)) C dX1_readTape_46 (by decide) ?_
  refine tt_lbi (fun y10 => ?_)
  refine tt_istore_n (L2 := [(1, .int y10), (0, .ref (ad 23))]) C dX1_readTape_47 rfl (by decide) rfl ?_
  refine tt_sub [1, 0] (L2 := [(0, .ref (ad 23)), (1, .int y10)]) rfl ?_
  exact wX1_readTape_L48 C hr FU y10 m9
theorem kX1_readTape {l : Launch} {A : Nat → Prop} {D : va_G} {ad : Nat → Nat} {cA : Nat → ClassId} (hPk : Pk A dsX ad cA (EX A ad)) {μ : Mem} {ν : Mem} (h : fX1_readTape μ = some ν) : Ct l A dsX D ad cA (EX A ad) yX1_readTape cX1_readTape 2 none 9 [.ref (ad 23)] μ (enV ν) :=
  ct_of (by decide) (Nat.le_of_ble_eq_true rfl) hPk rfl (fun p e s m args below meth c C hr => wX1_readTape C hr μ) h

/-! BasketRound.text()I -/
def fX7_text_L68 : Nat → Int32 → Mem → Option (Int32 × Mem)
  | 0, _, _ => none
  | fu + 1, x1, μ => if (2 : Int32) ≤ x1 then (some ((μ 23 2), μ)) else (gr x1 2 <| lb (wr μ 35 x1.toNatClampNeg (vp_nar .boolean (0 : Int32))) fun m1 => lb (x1 + (1 : Int32)) fun (y2 : Int32) => fX7_text_L68 fu y2 m1)
set_option maxHeartbeats 4000000 in
set_option maxRecDepth 100000 in
theorem wX7_text_L68 {p : Program} {l : Launch} {e : Env} {s : State} {m : MethodId} {args : Array Value} {below : List Frame} {meth : Method} {c : Code} {A : Nat → Prop} {D : va_G} {ad : Nat → Nat} {cA : Nat → ClassId} (C : Cx p s m args meth c cX7_text RX7 2 A dsX D ad cA (EX A ad)) (hr : meth.sig.returnType = some .int) : ∀ (fu : Nat) (x1 : Int32) (μ : Mem), T p l e (rmD 10) s m args below meth c 2 A dsX D ad cA enI (fX7_text_L68 fu x1 μ) 68 [(0, .ref (ad 0)), (1, .int x1)] [] μ
  | 0, _, _ => tt_none
  | fu + 1, x1, μ => by
    have ih := fun (x1 : Int32) (μ : Mem) => wX7_text_L68 (l := l) (e := e) (below := below) C hr fu x1 μ
    show T p l e (rmD 10) s m args below meth c 2 A dsX D ad cA enI (if (2 : Int32) ≤ x1 then (some ((μ 23 2), μ)) else (gr x1 2 <| lb (wr μ 35 x1.toNatClampNeg (vp_nar .boolean (0 : Int32))) fun m1 => lb (x1 + (1 : Int32)) fun (y2 : Int32) => fX7_text_L68 fu y2 m1)) 68 [(0, .ref (ad 0)), (1, .int x1)] [] μ
    refine tt_iload_n C 1 dX7_text_68 rfl rfl ?_
    refine tt_iconst (v := (2 : Int32)) C dX7_text_69 (by decide) ?_
    refine tt_if (fun h1 => ?_) (fun h1 => ?_)
    · refine tt_icmp_geT (tgt := 86) C h1 dX7_text_70 (by decide) ?_
      refine tt_aload_n C 0 dX7_text_86 rfl rfl ?_
      refine tt_getR C (j := 2) (r0 := 23) dX_0 rfl fl_RX7_28 dX7_text_87 ?_
      refine tt_getI C (j := 2) dX_23 rfl fl_RX7_103 dX7_text_90 ?_
      exact tt_iret rfl C hr dX7_text_93
    · refine tt_icmp_geF C 86 h1 dX7_text_70 (by decide) ?_
      refine tt_aload_n C 0 dX7_text_73 rfl rfl ?_
      refine tt_getR C (j := 7) (r0 := 35) dX_0 rfl fl_RX7_59 dX7_text_74 ?_
      refine tt_iload_n C 1 dX7_text_77 rfl rfl ?_
      refine tt_iconst (v := (0 : Int32)) C dX7_text_78 (by decide) ?_
      refine tt_gr (fun h2 => ?_)
      refine tt_zast C dX_35 h2 dX7_text_79 ?_
      refine tt_lbm (fun m1 => ?_)
      refine tt_iincB (d := (1 : Int32)) C 1 (fun y2 => [(1, .int y2), (0, .ref (ad 0))]) dX7_text_80 rfl (by decide) (by decide) (fun _ => rfl) (fun y2 => ?_)
      refine tt_goto (tgt := 68) C dX7_text_83 (by decide) ?_
      refine tt_sub [1, 0] (L2 := [(0, .ref (ad 0)), (1, .int y2)]) rfl ?_
      exact ih y2 m1

def fX7_text (μ : Mem) : Option (Int32 × Mem) := bv (fX1_readTape μ) fun m1 => lb (wr m1 1 1 (0 : Int32)) fun m2 => lb (wr m2 0 9 (m2 23 3)) fun m3 => if (m3 0 9) = (0 : Int32) then (bv (fX4_become 3 18 m3) fun m4 => lb (wr m4 31 2 (0 : Int32)) fun m5 => lb (0 : Int32) fun (y6 : Int32) => fX7_text_L68 FU y6 m5) else (some (((-10 : Int32) - (m3 23 4)), m3))
set_option maxHeartbeats 4000000 in
set_option maxRecDepth 100000 in
theorem wX7_text {p : Program} {l : Launch} {e : Env} {s : State} {m : MethodId} {args : Array Value} {below : List Frame} {meth : Method} {c : Code} {A : Nat → Prop} {D : va_G} {ad : Nat → Nat} {cA : Nat → ClassId} (C : Cx p s m args meth c cX7_text RX7 2 A dsX D ad cA (EX A ad)) (hr : meth.sig.returnType = some .int) (μ : Mem) : T p l e (rmD 10) s m args below meth c 2 A dsX D ad cA enI (fX7_text μ) 0 [(0, .ref (ad 0))] [] μ := by
  unfold fX7_text
  refine tt_aload_n C 0 dX7_text_0 rfl rfl ?_
  refine tt_getR C (j := 2) (r0 := 23) dX_0 rfl fl_RX7_28 dX7_text_1 ?_
  refine tt_bv (fun m1 h1 => ?_)
  refine tt_callV (st := []) (As := []) C (kX1_readTape C.2.2.2.2.2.2.2.1 h1) mi_X1_readTape ml_RX7_82 mv_X1_readTape ms_X1_readTape (q := (RX1, TX1, 12)) dX_23 rfl rfl (by decide) (by decide) (Nat.le_of_ble_eq_true rfl) dX7_text_4 ?_
  refine tt_aload_n C 0 dX7_text_7 rfl rfl ?_
  refine tt_getR C (j := 0) (r0 := 1) dX_0 rfl fl_RX7_10 dX7_text_8 ?_
  refine tt_iconst (v := (0 : Int32)) C dX7_text_11 (by decide) ?_
  refine tt_putI C (j := 1) dX_1 rfl fl_RX7_74 fw_5_1 dX7_text_12 ?_
  refine tt_lbm (fun m2 => ?_)
  refine tt_aload_n C 0 dX7_text_15 rfl rfl ?_
  refine tt_aload_n C 0 dX7_text_16 rfl rfl ?_
  refine tt_getR C (j := 2) (r0 := 23) dX_0 rfl fl_RX7_28 dX7_text_17 ?_
  refine tt_getI C (j := 3) dX_23 rfl fl_RX7_85 dX7_text_20 ?_
  refine tt_putI C (j := 9) dX_0 rfl fl_RX7_88 fw_7_9 dX7_text_23 ?_
  refine tt_lbm (fun m3 => ?_)
  refine tt_aload_n C 0 dX7_text_26 rfl rfl ?_
  refine tt_getI C (j := 9) dX_0 rfl fl_RX7_88 dX7_text_27 ?_
  refine tt_if (fun h2 => ?_) (fun h2 => ?_)
  · refine tt_if_eqT (tgt := 44) C h2 dX7_text_30 (by decide) ?_
    refine tt_aload_n C 0 dX7_text_44 rfl rfl ?_
    refine tt_getR C (j := 1) (r0 := 3) dX_0 rfl fl_RX7_19 dX7_text_45 ?_
    refine tt_aload_n C 0 dX7_text_48 rfl rfl ?_
    refine tt_getR C (j := 2) (r0 := 23) dX_0 rfl fl_RX7_28 dX7_text_49 ?_
    refine tt_getR C (j := 0) (r0 := 18) dX_23 rfl fl_RX7_94 dX7_text_52 ?_
    refine tt_bv (fun m4 h3 => ?_)
    refine tt_callV (st := []) (As := [.ref (ad 18)]) C (kX4_become C.2.2.2.2.2.2.2.1 3 18 hSh_3 hSh_18 h3) mi_X4_become ml_RX7_97 mv_X4_become ms_X4_become (q := (RX4, TX4, 8)) dX_3 rfl rfl (by decide) (by decide) (Nat.le_of_ble_eq_true rfl) dX7_text_55 ?_
    refine tt_aload_n C 0 dX7_text_58 rfl rfl ?_
    refine tt_getR C (j := 5) (r0 := 31) dX_0 rfl fl_RX7_51 dX7_text_59 ?_
    refine tt_iconst (v := (0 : Int32)) C dX7_text_62 (by decide) ?_
    refine tt_putI C (j := 2) dX_31 rfl fl_RX7_100 fw_2_2 dX7_text_63 ?_
    refine tt_lbm (fun m5 => ?_)
    refine tt_iconst (v := (0 : Int32)) C dX7_text_66 (by decide) ?_
    refine tt_lbi (fun y6 => ?_)
    refine tt_istore_n (L2 := [(1, .int y6), (0, .ref (ad 0))]) C dX7_text_67 rfl (by decide) rfl ?_
    refine tt_sub [1, 0] (L2 := [(0, .ref (ad 0)), (1, .int y6)]) rfl ?_
    exact wX7_text_L68 C hr FU y6 m5
  · refine tt_if_eqF C 44 h2 dX7_text_30 (by decide) ?_
    refine tt_bipush (v := (-10 : Int32)) C dX7_text_33 (by decide) ?_
    refine tt_aload_n C 0 dX7_text_35 rfl rfl ?_
    refine tt_getR C (j := 2) (r0 := 23) dX_0 rfl fl_RX7_28 dX7_text_36 ?_
    refine tt_getI C (j := 4) dX_23 rfl fl_RX7_91 dX7_text_39 ?_
    refine tt_isub C dX7_text_42 ?_
    exact tt_iret rfl C hr dX7_text_43
theorem kX7_text {l : Launch} {A : Nat → Prop} {D : va_G} {ad : Nat → Nat} {cA : Nat → ClassId} (hPk : Pk A dsX ad cA (EX A ad)) {μ : Mem} {v : Int32} {ν : Mem} (h : fX7_text μ = some (v, ν)) : Ct l A dsX D ad cA (EX A ad) yX7_text cX7_text 2 (some .int) 10 [.ref (ad 0)] μ (enI (v, ν)) :=
  ct_of (by decide) (Nat.le_of_ble_eq_true rfl) hPk rfl (fun p e s m args below meth c C hr => wX7_text C hr μ) h

