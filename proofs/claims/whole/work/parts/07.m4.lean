/-! BasketRoundModel.split(I)I -/
def fX8_split_J141 (z0 : Int32) (μ : Mem) : Option (Int32 × Mem) := some (z0, μ)
set_option maxHeartbeats 4000000 in
set_option maxRecDepth 100000 in
theorem wX8_split_J141 {p : Program} {l : Launch} {e : Env} {s : State} {m : MethodId} {args : Array Value} {below : List Frame} {meth : Method} {c : Code} {A : Nat → Prop} {D : va_G} {ad : Nat → Nat} {cA : Nat → ClassId} (C : Cx p s m args meth c cX8_split RX8 9 A dsM D ad cA EM) (hr : meth.sig.returnType = some .int) (z0 : Int32) (μ : Mem) : T p l e (rmD 4) s m args below meth c 9 A dsM D ad cA enI (fX8_split_J141 z0 μ) 141 [] [.int z0] μ := by
  unfold fX8_split_J141
  exact tt_iret rfl C hr dX8_split_141

def fX8_split_J115 (k26 : Int32 → Int32 → Int32 → Int32 → Int32 → Mem → Option (Int32 × Mem)) (x1 : Int32) (x3 : Int32) (x4 : Int32) (x5 : Int32) (z0 : Int32) (μ : Mem) : Option (Int32 × Mem) := lb (x5 + (1 : Int32)) fun (y1 : Int32) => k26 x1 z0 x3 x4 y1 μ
set_option maxHeartbeats 4000000 in
set_option maxRecDepth 100000 in
theorem wX8_split_J115 {p : Program} {l : Launch} {e : Env} {s : State} {m : MethodId} {args : Array Value} {below : List Frame} {meth : Method} {c : Code} {A : Nat → Prop} {D : va_G} {ad : Nat → Nat} {cA : Nat → ClassId} (C : Cx p s m args meth c cX8_split RX8 9 A dsM D ad cA EM) (hr : meth.sig.returnType = some .int) (k26 : Int32 → Int32 → Int32 → Int32 → Int32 → Mem → Option (Int32 × Mem)) (hk26 : ∀ (x1 : Int32) (x2 : Int32) (x3 : Int32) (x4 : Int32) (x5 : Int32) (μ : Mem), T p l e (rmD 4) s m args below meth c 9 A dsM D ad cA enI (k26 x1 x2 x3 x4 x5 μ) 26 [(0, .ref (ad 0)), (1, .int x1), (2, .int x2), (3, .int x3), (4, .int x4), (5, .int x5)] [] μ) (x1 : Int32) (x3 : Int32) (x4 : Int32) (x5 : Int32) (z0 : Int32) (μ : Mem) : T p l e (rmD 4) s m args below meth c 9 A dsM D ad cA enI (fX8_split_J115 k26 x1 x3 x4 x5 z0 μ) 115 [(0, .ref (ad 0)), (1, .int x1), (3, .int x3), (4, .int x4), (5, .int x5)] [.int z0] μ := by
  unfold fX8_split_J115
  refine tt_istore_n (L2 := [(2, .int z0), (0, .ref (ad 0)), (1, .int x1), (3, .int x3), (4, .int x4), (5, .int x5)]) C dX8_split_115 rfl (by decide) rfl ?_
  refine tt_iincB (d := (1 : Int32)) C 5 (fun y1 => [(5, .int y1), (2, .int z0), (0, .ref (ad 0)), (1, .int x1), (3, .int x3), (4, .int x4)]) dX8_split_116 rfl (by decide) (by decide) (fun _ => rfl) (fun y1 => ?_)
  refine tt_goto (tgt := 26) C dX8_split_119 (by decide) ?_
  refine tt_sub [2, 3, 1, 4, 5, 0] (L2 := [(0, .ref (ad 0)), (1, .int x1), (2, .int z0), (3, .int x3), (4, .int x4), (5, .int y1)]) rfl ?_
  exact hk26 x1 z0 x3 x4 y1 μ

def fX8_split_J103 (k26 : Int32 → Int32 → Int32 → Int32 → Int32 → Mem → Option (Int32 × Mem)) (x1 : Int32) (x2 : Int32) (x4 : Int32) (x5 : Int32) (x7 : Int32) (x8 : Int32) (z0 : Int32) (μ : Mem) : Option (Int32 × Mem) := if x8 = (0 : Int32) then (fX8_split_J115 k26 x1 z0 x4 x5 x2 μ) else (fX8_split_J115 k26 x1 z0 x4 x5 x7 μ)
set_option maxHeartbeats 4000000 in
set_option maxRecDepth 100000 in
theorem wX8_split_J103 {p : Program} {l : Launch} {e : Env} {s : State} {m : MethodId} {args : Array Value} {below : List Frame} {meth : Method} {c : Code} {A : Nat → Prop} {D : va_G} {ad : Nat → Nat} {cA : Nat → ClassId} (C : Cx p s m args meth c cX8_split RX8 9 A dsM D ad cA EM) (hr : meth.sig.returnType = some .int) (k26 : Int32 → Int32 → Int32 → Int32 → Int32 → Mem → Option (Int32 × Mem)) (hk26 : ∀ (x1 : Int32) (x2 : Int32) (x3 : Int32) (x4 : Int32) (x5 : Int32) (μ : Mem), T p l e (rmD 4) s m args below meth c 9 A dsM D ad cA enI (k26 x1 x2 x3 x4 x5 μ) 26 [(0, .ref (ad 0)), (1, .int x1), (2, .int x2), (3, .int x3), (4, .int x4), (5, .int x5)] [] μ) (x1 : Int32) (x2 : Int32) (x4 : Int32) (x5 : Int32) (x7 : Int32) (x8 : Int32) (z0 : Int32) (μ : Mem) : T p l e (rmD 4) s m args below meth c 9 A dsM D ad cA enI (fX8_split_J103 k26 x1 x2 x4 x5 x7 x8 z0 μ) 103 [(0, .ref (ad 0)), (1, .int x1), (2, .int x2), (4, .int x4), (5, .int x5), (7, .int x7), (8, .int x8)] [.int z0] μ := by
  unfold fX8_split_J103
  refine tt_istore_n (L2 := [(3, .int z0), (0, .ref (ad 0)), (1, .int x1), (2, .int x2), (4, .int x4), (5, .int x5), (7, .int x7), (8, .int x8)]) C dX8_split_103 rfl (by decide) rfl ?_
  refine tt_iload C 7 dX8_split_104 rfl ?_
  refine tt_if (fun h1 => ?_) (fun h1 => ?_)
  · refine tt_if_eqT (tgt := 114) C h1 dX8_split_106 (by decide) ?_
    refine tt_iload_n C 3 dX8_split_114 rfl rfl ?_
    refine tt_sub [1, 2, 0, 4, 5] (L2 := [(0, .ref (ad 0)), (1, .int x1), (3, .int z0), (4, .int x4), (5, .int x5)]) rfl ?_
    exact wX8_split_J115 C hr k26 hk26 x1 z0 x4 x5 x2 μ
  · refine tt_if_eqF C 114 h1 dX8_split_106 (by decide) ?_
    refine tt_iload C 6 dX8_split_109 rfl ?_
    refine tt_goto (tgt := 115) C dX8_split_111 (by decide) ?_
    refine tt_sub [1, 2, 0, 4, 5] (L2 := [(0, .ref (ad 0)), (1, .int x1), (3, .int z0), (4, .int x4), (5, .int x5)]) rfl ?_
    exact wX8_split_J115 C hr k26 hk26 x1 z0 x4 x5 x7 μ

def fX8_split_J90 (k26 : Int32 → Int32 → Int32 → Int32 → Int32 → Mem → Option (Int32 × Mem)) (x1 : Int32) (x2 : Int32) (x3 : Int32) (x5 : Int32) (x6 : Int32) (x7 : Int32) (x8 : Int32) (z0 : Int32) (μ : Mem) : Option (Int32 × Mem) := if x8 = (0 : Int32) then (fX8_split_J103 k26 x1 x2 z0 x5 x7 x8 x3 μ) else (fX8_split_J103 k26 x1 x2 z0 x5 x7 x8 x6 μ)
set_option maxHeartbeats 4000000 in
set_option maxRecDepth 100000 in
theorem wX8_split_J90 {p : Program} {l : Launch} {e : Env} {s : State} {m : MethodId} {args : Array Value} {below : List Frame} {meth : Method} {c : Code} {A : Nat → Prop} {D : va_G} {ad : Nat → Nat} {cA : Nat → ClassId} (C : Cx p s m args meth c cX8_split RX8 9 A dsM D ad cA EM) (hr : meth.sig.returnType = some .int) (k26 : Int32 → Int32 → Int32 → Int32 → Int32 → Mem → Option (Int32 × Mem)) (hk26 : ∀ (x1 : Int32) (x2 : Int32) (x3 : Int32) (x4 : Int32) (x5 : Int32) (μ : Mem), T p l e (rmD 4) s m args below meth c 9 A dsM D ad cA enI (k26 x1 x2 x3 x4 x5 μ) 26 [(0, .ref (ad 0)), (1, .int x1), (2, .int x2), (3, .int x3), (4, .int x4), (5, .int x5)] [] μ) (x1 : Int32) (x2 : Int32) (x3 : Int32) (x5 : Int32) (x6 : Int32) (x7 : Int32) (x8 : Int32) (z0 : Int32) (μ : Mem) : T p l e (rmD 4) s m args below meth c 9 A dsM D ad cA enI (fX8_split_J90 k26 x1 x2 x3 x5 x6 x7 x8 z0 μ) 90 [(0, .ref (ad 0)), (1, .int x1), (2, .int x2), (3, .int x3), (5, .int x5), (6, .int x6), (7, .int x7), (8, .int x8)] [.int z0] μ := by
  unfold fX8_split_J90
  refine tt_istore (L2 := [(4, .int z0), (0, .ref (ad 0)), (1, .int x1), (2, .int x2), (3, .int x3), (5, .int x5), (6, .int x6), (7, .int x7), (8, .int x8)]) C dX8_split_90 (by decide) rfl ?_
  refine tt_iload C 8 dX8_split_92 rfl ?_
  refine tt_if (fun h1 => ?_) (fun h1 => ?_)
  · refine tt_if_eqT (tgt := 102) C h1 dX8_split_94 (by decide) ?_
    refine tt_iload_n C 4 dX8_split_102 rfl rfl ?_
    refine tt_sub [1, 2, 3, 0, 5, 7, 8] (L2 := [(0, .ref (ad 0)), (1, .int x1), (2, .int x2), (4, .int z0), (5, .int x5), (7, .int x7), (8, .int x8)]) rfl ?_
    exact wX8_split_J103 C hr k26 hk26 x1 x2 z0 x5 x7 x8 x3 μ
  · refine tt_if_eqF C 102 h1 dX8_split_94 (by decide) ?_
    refine tt_iload C 6 dX8_split_97 rfl ?_
    refine tt_goto (tgt := 103) C dX8_split_99 (by decide) ?_
    refine tt_sub [1, 2, 3, 0, 5, 7, 8] (L2 := [(0, .ref (ad 0)), (1, .int x1), (2, .int x2), (4, .int z0), (5, .int x5), (7, .int x7), (8, .int x8)]) rfl ?_
    exact wX8_split_J103 C hr k26 hk26 x1 x2 z0 x5 x7 x8 x6 μ

def fX8_split_J76 (k26 : Int32 → Int32 → Int32 → Int32 → Int32 → Mem → Option (Int32 × Mem)) (x1 : Int32) (x2 : Int32) (x3 : Int32) (x4 : Int32) (x5 : Int32) (x6 : Int32) (x7 : Int32) (z0 : Int32) (μ : Mem) : Option (Int32 × Mem) := if z0 = (0 : Int32) then (fX8_split_J90 k26 x1 x2 x3 x5 x6 x7 z0 x4 μ) else (fX8_split_J90 k26 x1 x2 x3 x5 x6 x7 z0 x5 μ)
set_option maxHeartbeats 4000000 in
set_option maxRecDepth 100000 in
theorem wX8_split_J76 {p : Program} {l : Launch} {e : Env} {s : State} {m : MethodId} {args : Array Value} {below : List Frame} {meth : Method} {c : Code} {A : Nat → Prop} {D : va_G} {ad : Nat → Nat} {cA : Nat → ClassId} (C : Cx p s m args meth c cX8_split RX8 9 A dsM D ad cA EM) (hr : meth.sig.returnType = some .int) (k26 : Int32 → Int32 → Int32 → Int32 → Int32 → Mem → Option (Int32 × Mem)) (hk26 : ∀ (x1 : Int32) (x2 : Int32) (x3 : Int32) (x4 : Int32) (x5 : Int32) (μ : Mem), T p l e (rmD 4) s m args below meth c 9 A dsM D ad cA enI (k26 x1 x2 x3 x4 x5 μ) 26 [(0, .ref (ad 0)), (1, .int x1), (2, .int x2), (3, .int x3), (4, .int x4), (5, .int x5)] [] μ) (x1 : Int32) (x2 : Int32) (x3 : Int32) (x4 : Int32) (x5 : Int32) (x6 : Int32) (x7 : Int32) (z0 : Int32) (μ : Mem) : T p l e (rmD 4) s m args below meth c 9 A dsM D ad cA enI (fX8_split_J76 k26 x1 x2 x3 x4 x5 x6 x7 z0 μ) 76 [(0, .ref (ad 0)), (1, .int x1), (2, .int x2), (3, .int x3), (4, .int x4), (5, .int x5), (6, .int x6), (7, .int x7)] [.int z0] μ := by
  unfold fX8_split_J76
  refine tt_istore (L2 := [(8, .int z0), (0, .ref (ad 0)), (1, .int x1), (2, .int x2), (3, .int x3), (4, .int x4), (5, .int x5), (6, .int x6), (7, .int x7)]) C dX8_split_76 (by decide) rfl ?_
  refine tt_iload C 0 dX8_split_78 rfl ?_
  refine tt_if (fun h1 => ?_) (fun h1 => ?_)
  · refine tt_if_eqT (tgt := 88) C h1 dX8_split_80 (by decide) ?_
    refine tt_iload C 5 dX8_split_88 rfl ?_
    refine tt_sub [1, 2, 3, 4, 6, 7, 8, 0] (L2 := [(0, .ref (ad 0)), (1, .int x1), (2, .int x2), (3, .int x3), (5, .int x5), (6, .int x6), (7, .int x7), (8, .int z0)]) rfl ?_
    exact wX8_split_J90 C hr k26 hk26 x1 x2 x3 x5 x6 x7 z0 x4 μ
  · refine tt_if_eqF C 88 h1 dX8_split_80 (by decide) ?_
    refine tt_iload C 6 dX8_split_83 rfl ?_
    refine tt_goto (tgt := 90) C dX8_split_85 (by decide) ?_
    refine tt_sub [1, 2, 3, 4, 6, 7, 8, 0] (L2 := [(0, .ref (ad 0)), (1, .int x1), (2, .int x2), (3, .int x3), (5, .int x5), (6, .int x6), (7, .int x7), (8, .int z0)]) rfl ?_
    exact wX8_split_J90 C hr k26 hk26 x1 x2 x3 x5 x6 x7 z0 x5 μ

def fX8_split_J75 (k26 : Int32 → Int32 → Int32 → Int32 → Int32 → Mem → Option (Int32 × Mem)) (x1 : Int32) (x2 : Int32) (x3 : Int32) (x4 : Int32) (x5 : Int32) (x6 : Int32) (x7 : Int32) (μ : Mem) : Option (Int32 × Mem) := fX8_split_J76 k26 x1 x2 x3 x4 x5 x6 x7 (0 : Int32) μ
set_option maxHeartbeats 4000000 in
set_option maxRecDepth 100000 in
theorem wX8_split_J75 {p : Program} {l : Launch} {e : Env} {s : State} {m : MethodId} {args : Array Value} {below : List Frame} {meth : Method} {c : Code} {A : Nat → Prop} {D : va_G} {ad : Nat → Nat} {cA : Nat → ClassId} (C : Cx p s m args meth c cX8_split RX8 9 A dsM D ad cA EM) (hr : meth.sig.returnType = some .int) (k26 : Int32 → Int32 → Int32 → Int32 → Int32 → Mem → Option (Int32 × Mem)) (hk26 : ∀ (x1 : Int32) (x2 : Int32) (x3 : Int32) (x4 : Int32) (x5 : Int32) (μ : Mem), T p l e (rmD 4) s m args below meth c 9 A dsM D ad cA enI (k26 x1 x2 x3 x4 x5 μ) 26 [(0, .ref (ad 0)), (1, .int x1), (2, .int x2), (3, .int x3), (4, .int x4), (5, .int x5)] [] μ) (x1 : Int32) (x2 : Int32) (x3 : Int32) (x4 : Int32) (x5 : Int32) (x6 : Int32) (x7 : Int32) (μ : Mem) : T p l e (rmD 4) s m args below meth c 9 A dsM D ad cA enI (fX8_split_J75 k26 x1 x2 x3 x4 x5 x6 x7 μ) 75 [(0, .ref (ad 0)), (1, .int x1), (2, .int x2), (3, .int x3), (4, .int x4), (5, .int x5), (6, .int x6), (7, .int x7)] [] μ := by
  unfold fX8_split_J75
  refine tt_iconst (v := (0 : Int32)) C dX8_split_75 (by decide) ?_
  refine tt_sub [0, 1, 2, 3, 4, 5, 6, 7] (L2 := [(0, .ref (ad 0)), (1, .int x1), (2, .int x2), (3, .int x3), (4, .int x4), (5, .int x5), (6, .int x6), (7, .int x7)]) rfl ?_
  exact wX8_split_J76 C hr k26 hk26 x1 x2 x3 x4 x5 x6 x7 (0 : Int32) μ

def fX8_split_J71 (k26 : Int32 → Int32 → Int32 → Int32 → Int32 → Mem → Option (Int32 × Mem)) (x1 : Int32) (x2 : Int32) (x3 : Int32) (x4 : Int32) (x5 : Int32) (x6 : Int32) (x7 : Int32) (μ : Mem) : Option (Int32 × Mem) := fX8_split_J76 k26 x1 x2 x3 x4 x5 x6 x7 (1 : Int32) μ
set_option maxHeartbeats 4000000 in
set_option maxRecDepth 100000 in
theorem wX8_split_J71 {p : Program} {l : Launch} {e : Env} {s : State} {m : MethodId} {args : Array Value} {below : List Frame} {meth : Method} {c : Code} {A : Nat → Prop} {D : va_G} {ad : Nat → Nat} {cA : Nat → ClassId} (C : Cx p s m args meth c cX8_split RX8 9 A dsM D ad cA EM) (hr : meth.sig.returnType = some .int) (k26 : Int32 → Int32 → Int32 → Int32 → Int32 → Mem → Option (Int32 × Mem)) (hk26 : ∀ (x1 : Int32) (x2 : Int32) (x3 : Int32) (x4 : Int32) (x5 : Int32) (μ : Mem), T p l e (rmD 4) s m args below meth c 9 A dsM D ad cA enI (k26 x1 x2 x3 x4 x5 μ) 26 [(0, .ref (ad 0)), (1, .int x1), (2, .int x2), (3, .int x3), (4, .int x4), (5, .int x5)] [] μ) (x1 : Int32) (x2 : Int32) (x3 : Int32) (x4 : Int32) (x5 : Int32) (x6 : Int32) (x7 : Int32) (μ : Mem) : T p l e (rmD 4) s m args below meth c 9 A dsM D ad cA enI (fX8_split_J71 k26 x1 x2 x3 x4 x5 x6 x7 μ) 71 [(0, .ref (ad 0)), (1, .int x1), (2, .int x2), (3, .int x3), (4, .int x4), (5, .int x5), (6, .int x6), (7, .int x7)] [] μ := by
  unfold fX8_split_J71
  refine tt_iconst (v := (1 : Int32)) C dX8_split_71 (by decide) ?_
  refine tt_goto (tgt := 76) C dX8_split_72 (by decide) ?_
  refine tt_sub [0, 1, 2, 3, 4, 5, 6, 7] (L2 := [(0, .ref (ad 0)), (1, .int x1), (2, .int x2), (3, .int x3), (4, .int x4), (5, .int x5), (6, .int x6), (7, .int x7)]) rfl ?_
  exact wX8_split_J76 C hr k26 hk26 x1 x2 x3 x4 x5 x6 x7 (1 : Int32) μ

def fX8_split_L26 : Nat → Int32 → Int32 → Int32 → Int32 → Int32 → Mem → Option (Int32 × Mem)
  | 0, _, _, _, _, _, _ => none
  | fu + 1, x1, x2, x3, x4, x5, μ => bi (fX8_every μ) fun v2 m1 => if v2 < x5 then (if x1 = (0 : Int32) then (fX8_split_J141 x4 m1) else (if x1 = (1 : Int32) then (fX8_split_J141 x2 m1) else (fX8_split_J141 x3 m1))) else (bi (fX8_twice x5 m1) fun v4 m3 => bi (fX8_every m3) fun v6 m5 => bi (fX8_penniesOf v6 m5) fun v8 m7 => if x2 < v8 then (fX8_split_J71 (fun x1 x2 x3 x4 x5 μ => fX8_split_L26 fu x1 x2 x3 x4 x5 μ) x1 x2 x3 x4 x5 v4 v8 m7) else (if v8 = x2 then (if x3 ≤ v4 then (fX8_split_J75 (fun x1 x2 x3 x4 x5 μ => fX8_split_L26 fu x1 x2 x3 x4 x5 μ) x1 x2 x3 x4 x5 v4 v8 m7) else (fX8_split_J71 (fun x1 x2 x3 x4 x5 μ => fX8_split_L26 fu x1 x2 x3 x4 x5 μ) x1 x2 x3 x4 x5 v4 v8 m7)) else (fX8_split_J75 (fun x1 x2 x3 x4 x5 μ => fX8_split_L26 fu x1 x2 x3 x4 x5 μ) x1 x2 x3 x4 x5 v4 v8 m7)))
set_option maxHeartbeats 4000000 in
set_option maxRecDepth 100000 in
theorem wX8_split_L26 {p : Program} {l : Launch} {e : Env} {s : State} {m : MethodId} {args : Array Value} {below : List Frame} {meth : Method} {c : Code} {A : Nat → Prop} {D : va_G} {ad : Nat → Nat} {cA : Nat → ClassId} (C : Cx p s m args meth c cX8_split RX8 9 A dsM D ad cA EM) (hr : meth.sig.returnType = some .int) : ∀ (fu : Nat) (x1 : Int32) (x2 : Int32) (x3 : Int32) (x4 : Int32) (x5 : Int32) (μ : Mem), T p l e (rmD 4) s m args below meth c 9 A dsM D ad cA enI (fX8_split_L26 fu x1 x2 x3 x4 x5 μ) 26 [(0, .ref (ad 0)), (1, .int x1), (2, .int x2), (3, .int x3), (4, .int x4), (5, .int x5)] [] μ
  | 0, _, _, _, _, _, _ => tt_none
  | fu + 1, x1, x2, x3, x4, x5, μ => by
    have ih := fun (x1 : Int32) (x2 : Int32) (x3 : Int32) (x4 : Int32) (x5 : Int32) (μ : Mem) => wX8_split_L26 (l := l) (e := e) (below := below) C hr fu x1 x2 x3 x4 x5 μ
    show T p l e (rmD 4) s m args below meth c 9 A dsM D ad cA enI (bi (fX8_every μ) fun v2 m1 => if v2 < x5 then (if x1 = (0 : Int32) then (fX8_split_J141 x4 m1) else (if x1 = (1 : Int32) then (fX8_split_J141 x2 m1) else (fX8_split_J141 x3 m1))) else (bi (fX8_twice x5 m1) fun v4 m3 => bi (fX8_every m3) fun v6 m5 => bi (fX8_penniesOf v6 m5) fun v8 m7 => if x2 < v8 then (fX8_split_J71 (fun x1 x2 x3 x4 x5 μ => fX8_split_L26 fu x1 x2 x3 x4 x5 μ) x1 x2 x3 x4 x5 v4 v8 m7) else (if v8 = x2 then (if x3 ≤ v4 then (fX8_split_J75 (fun x1 x2 x3 x4 x5 μ => fX8_split_L26 fu x1 x2 x3 x4 x5 μ) x1 x2 x3 x4 x5 v4 v8 m7) else (fX8_split_J71 (fun x1 x2 x3 x4 x5 μ => fX8_split_L26 fu x1 x2 x3 x4 x5 μ) x1 x2 x3 x4 x5 v4 v8 m7)) else (fX8_split_J75 (fun x1 x2 x3 x4 x5 μ => fX8_split_L26 fu x1 x2 x3 x4 x5 μ) x1 x2 x3 x4 x5 v4 v8 m7)))) 26 [(0, .ref (ad 0)), (1, .int x1), (2, .int x2), (3, .int x3), (4, .int x4), (5, .int x5)] [] μ
    refine tt_iload C 5 dX8_split_26 rfl ?_
    refine tt_aload_n C 0 dX8_split_28 rfl rfl ?_
    refine tt_bi (fun v2 m1 h1 => ?_)
    refine tt_callV (st := [.int x5]) (As := []) C (kX8_every C.2.2.2.2.2.2.2.1 h1) mi_X8_every ml_RX8_239 mv_X8_every ms_X8_every (q := (RX8, TX8, 45)) dM_0 rfl rfl (by decide) (by decide) (Nat.le_of_ble_eq_true rfl) dX8_split_29 ?_
    refine tt_if (fun h2 => ?_) (fun h2 => ?_)
    · refine tt_icmp_gtT (tgt := 122) C h2 dX8_split_32 (by decide) ?_
      refine tt_iload_n C 1 dX8_split_122 rfl rfl ?_
      refine tt_if (fun h3 => ?_) (fun h3 => ?_)
      · refine tt_if_neF C 131 h3 dX8_split_123 (by decide) ?_
        refine tt_iload C 4 dX8_split_126 rfl ?_
        refine tt_goto (tgt := 141) C dX8_split_128 (by decide) ?_
        refine tt_sub [] (L2 := []) rfl ?_
        exact wX8_split_J141 C hr x4 m1
      · refine tt_if_neT (tgt := 131) C h3 dX8_split_123 (by decide) ?_
        refine tt_iload_n C 1 dX8_split_131 rfl rfl ?_
        refine tt_iconst (v := (1 : Int32)) C dX8_split_132 (by decide) ?_
        refine tt_if (fun h4 => ?_) (fun h4 => ?_)
        · refine tt_icmp_neF C 140 h4 dX8_split_133 (by decide) ?_
          refine tt_iload_n C 2 dX8_split_136 rfl rfl ?_
          refine tt_goto (tgt := 141) C dX8_split_137 (by decide) ?_
          refine tt_sub [] (L2 := []) rfl ?_
          exact wX8_split_J141 C hr x2 m1
        · refine tt_icmp_neT (tgt := 140) C h4 dX8_split_133 (by decide) ?_
          refine tt_iload_n C 3 dX8_split_140 rfl rfl ?_
          refine tt_sub [] (L2 := []) rfl ?_
          exact wX8_split_J141 C hr x3 m1
    · refine tt_icmp_gtF C 122 h2 dX8_split_32 (by decide) ?_
      refine tt_aload_n C 0 dX8_split_35 rfl rfl ?_
      refine tt_iload C 5 dX8_split_36 rfl ?_
      refine tt_bi (fun v4 m3 h5 => ?_)
      refine tt_callV (st := []) (As := [.int x5]) C (kX8_twice C.2.2.2.2.2.2.2.1 h5) mi_X8_twice ml_RX8_281 mv_X8_twice ms_X8_twice (q := (RX8, TX8, 45)) dM_0 rfl rfl (by decide) (by decide) (Nat.le_of_ble_eq_true rfl) dX8_split_38 ?_
      refine tt_istore (L2 := [(6, .int v4), (0, .ref (ad 0)), (1, .int x1), (2, .int x2), (3, .int x3), (4, .int x4), (5, .int x5)]) C dX8_split_41 (by decide) rfl ?_
      refine tt_aload_n C 1 dX8_split_43 rfl rfl ?_
      refine tt_aload_n C 1 dX8_split_44 rfl rfl ?_
      refine tt_bi (fun v6 m5 h6 => ?_)
      refine tt_callV (st := [.ref (ad 0)]) (As := []) C (kX8_every C.2.2.2.2.2.2.2.1 h6) mi_X8_every ml_RX8_239 mv_X8_every ms_X8_every (q := (RX8, TX8, 45)) dM_0 rfl rfl (by decide) (by decide) (Nat.le_of_ble_eq_true rfl) dX8_split_45 ?_
      refine tt_bi (fun v8 m7 h7 => ?_)
      refine tt_callV (st := []) (As := [.int v6]) C (kX8_penniesOf C.2.2.2.2.2.2.2.1 h7) mi_X8_penniesOf ml_RX8_248 mv_X8_penniesOf ms_X8_penniesOf (q := (RX8, TX8, 45)) dM_0 rfl rfl (by decide) (by decide) (Nat.le_of_ble_eq_true rfl) dX8_split_48 ?_
      refine tt_istore (L2 := [(7, .int v8), (6, .int v4), (0, .ref (ad 0)), (1, .int x1), (2, .int x2), (3, .int x3), (4, .int x4), (5, .int x5)]) C dX8_split_51 (by decide) rfl ?_
      refine tt_iload C 0 dX8_split_53 rfl ?_
      refine tt_iload_n C 4 dX8_split_55 rfl rfl ?_
      refine tt_if (fun h8 => ?_) (fun h8 => ?_)
      · refine tt_icmp_gtT (tgt := 71) C h8 dX8_split_56 (by decide) ?_
        refine tt_sub [2, 3, 4, 5, 6, 7, 1, 0] (L2 := [(0, .ref (ad 0)), (1, .int x1), (2, .int x2), (3, .int x3), (4, .int x4), (5, .int x5), (6, .int v4), (7, .int v8)]) rfl ?_
        exact wX8_split_J71 C hr (fun x1 x2 x3 x4 x5 μ => fX8_split_L26 fu x1 x2 x3 x4 x5 μ) (fun x1 x2 x3 x4 x5 μ => ih x1 x2 x3 x4 x5 μ) x1 x2 x3 x4 x5 v4 v8 m7
      · refine tt_icmp_gtF C 71 h8 dX8_split_56 (by decide) ?_
        refine tt_iload C 0 dX8_split_59 rfl ?_
        refine tt_iload_n C 4 dX8_split_61 rfl rfl ?_
        refine tt_if (fun h9 => ?_) (fun h9 => ?_)
        · refine tt_icmp_neF C 75 h9 dX8_split_62 (by decide) ?_
          refine tt_iload C 1 dX8_split_65 rfl ?_
          refine tt_iload_n C 5 dX8_split_67 rfl rfl ?_
          refine tt_if (fun h10 => ?_) (fun h10 => ?_)
          · refine tt_icmp_geT (tgt := 75) C h10 dX8_split_68 (by decide) ?_
            refine tt_sub [2, 3, 4, 5, 6, 7, 1, 0] (L2 := [(0, .ref (ad 0)), (1, .int x1), (2, .int x2), (3, .int x3), (4, .int x4), (5, .int x5), (6, .int v4), (7, .int v8)]) rfl ?_
            exact wX8_split_J75 C hr (fun x1 x2 x3 x4 x5 μ => fX8_split_L26 fu x1 x2 x3 x4 x5 μ) (fun x1 x2 x3 x4 x5 μ => ih x1 x2 x3 x4 x5 μ) x1 x2 x3 x4 x5 v4 v8 m7
          · refine tt_icmp_geF C 75 h10 dX8_split_68 (by decide) ?_
            refine tt_sub [2, 3, 4, 5, 6, 7, 1, 0] (L2 := [(0, .ref (ad 0)), (1, .int x1), (2, .int x2), (3, .int x3), (4, .int x4), (5, .int x5), (6, .int v4), (7, .int v8)]) rfl ?_
            exact wX8_split_J71 C hr (fun x1 x2 x3 x4 x5 μ => fX8_split_L26 fu x1 x2 x3 x4 x5 μ) (fun x1 x2 x3 x4 x5 μ => ih x1 x2 x3 x4 x5 μ) x1 x2 x3 x4 x5 v4 v8 m7
        · refine tt_icmp_neT (tgt := 75) C h9 dX8_split_62 (by decide) ?_
          refine tt_sub [2, 3, 4, 5, 6, 7, 1, 0] (L2 := [(0, .ref (ad 0)), (1, .int x1), (2, .int x2), (3, .int x3), (4, .int x4), (5, .int x5), (6, .int v4), (7, .int v8)]) rfl ?_
          exact wX8_split_J75 C hr (fun x1 x2 x3 x4 x5 μ => fX8_split_L26 fu x1 x2 x3 x4 x5 μ) (fun x1 x2 x3 x4 x5 μ => ih x1 x2 x3 x4 x5 μ) x1 x2 x3 x4 x5 v4 v8 m7

def fX8_split (x1 : Int32) (μ : Mem) : Option (Int32 × Mem) := bi (fX8_in x1.toInt64 (0 : Int64) (2 : Int64) μ) fun v2 m1 => if v2 = (0 : Int32) then (some ((-1 : Int32), m1)) else (lb (-1 : Int32) fun (y3 : Int32) => lb (1000000 : Int32) fun (y4 : Int32) => lb (0 : Int32) fun (y5 : Int32) => lb (0 : Int32) fun (y6 : Int32) => fX8_split_L26 FU x1 y3 y4 y5 y6 m1)
set_option maxHeartbeats 4000000 in
set_option maxRecDepth 100000 in
theorem wX8_split {p : Program} {l : Launch} {e : Env} {s : State} {m : MethodId} {args : Array Value} {below : List Frame} {meth : Method} {c : Code} {A : Nat → Prop} {D : va_G} {ad : Nat → Nat} {cA : Nat → ClassId} (C : Cx p s m args meth c cX8_split RX8 9 A dsM D ad cA EM) (hr : meth.sig.returnType = some .int) (x1 : Int32) (μ : Mem) : T p l e (rmD 4) s m args below meth c 9 A dsM D ad cA enI (fX8_split x1 μ) 0 [(0, .ref (ad 0)), (1, .int x1)] [] μ := by
  unfold fX8_split
  refine tt_iload_n C 1 dX8_split_0 rfl rfl ?_
  refine tt_i2l C dX8_split_1 ?_
  refine tt_lconst (v := (0 : Int64)) C dX8_split_2 (by decide) ?_
  refine tt_ldc2 (v := (2 : Int64)) C kL_RX8_251 dX8_split_3 ?_
  refine tt_bi (fun v2 m1 h1 => ?_)
  refine tt_callS (st := []) (As := [.long x1.toInt64, .long (0 : Int64), .long (2 : Int64)]) C (kX8_in C.2.2.2.2.2.2.2.1 h1) mi_X8_in ml_RX8_70 mt_X8_in rfl (by decide) (by decide) (Nat.le_of_ble_eq_true rfl) dX8_split_6 ?_
  refine tt_if (fun h2 => ?_) (fun h2 => ?_)
  · refine tt_if_neF C 14 h2 dX8_split_9 (by decide) ?_
    refine tt_iconst (v := (-1 : Int32)) C dX8_split_12 (by decide) ?_
    exact tt_iret rfl C hr dX8_split_13
  · refine tt_if_neT (tgt := 14) C h2 dX8_split_9 (by decide) ?_
    refine tt_iconst (v := (-1 : Int32)) C dX8_split_14 (by decide) ?_
    refine tt_lbi (fun y3 => ?_)
    refine tt_istore_n (L2 := [(2, .int y3), (0, .ref (ad 0)), (1, .int x1)]) C dX8_split_15 rfl (by decide) rfl ?_
    refine tt_ldcw (v := (1000000 : Int32)) C kC_RX8_277 dX8_split_16 ?_
    refine tt_lbi (fun y4 => ?_)
    refine tt_istore_n (L2 := [(3, .int y4), (2, .int y3), (0, .ref (ad 0)), (1, .int x1)]) C dX8_split_19 rfl (by decide) rfl ?_
    refine tt_iconst (v := (0 : Int32)) C dX8_split_20 (by decide) ?_
    refine tt_lbi (fun y5 => ?_)
    refine tt_istore (L2 := [(4, .int y5), (3, .int y4), (2, .int y3), (0, .ref (ad 0)), (1, .int x1)]) C dX8_split_21 (by decide) rfl ?_
    refine tt_iconst (v := (0 : Int32)) C dX8_split_23 (by decide) ?_
    refine tt_lbi (fun y6 => ?_)
    refine tt_istore (L2 := [(5, .int y6), (4, .int y5), (3, .int y4), (2, .int y3), (0, .ref (ad 0)), (1, .int x1)]) C dX8_split_24 (by decide) rfl ?_
    refine tt_sub [4, 5, 3, 2, 1, 0] (L2 := [(0, .ref (ad 0)), (1, .int x1), (2, .int y3), (3, .int y4), (4, .int y5), (5, .int y6)]) rfl ?_
    exact wX8_split_L26 C hr FU x1 y3 y4 y5 y6 m1
theorem kX8_split {l : Launch} {A : Nat → Prop} {D : va_G} {ad : Nat → Nat} {cA : Nat → ClassId} (hPk : Pk A dsM ad cA EM) {x1 : Int32} {μ : Mem} {v : Int32} {ν : Mem} (h : fX8_split x1 μ = some (v, ν)) : Ct l A dsM D ad cA EM yX8_split cX8_split 9 (some .int) 4 [.ref (ad 0), .int x1] μ (enI (v, ν)) :=
  ct_of (by decide) (Nat.le_of_ble_eq_true rfl) hPk rfl (fun p e s m args below meth c C hr => wX8_split C hr x1 μ) h

/-! BasketRoundModel.spoilt()I -/
def fX8_spoilt (μ : Mem) : Option (Int32 × Mem) := bi (fX8_wholeRound μ) fun v2 m1 => some ((m1 0 32), m1)
set_option maxHeartbeats 4000000 in
set_option maxRecDepth 100000 in
theorem wX8_spoilt {p : Program} {l : Launch} {e : Env} {s : State} {m : MethodId} {args : Array Value} {below : List Frame} {meth : Method} {c : Code} {A : Nat → Prop} {D : va_G} {ad : Nat → Nat} {cA : Nat → ClassId} (C : Cx p s m args meth c cX8_spoilt RX8 1 A dsM D ad cA EM) (hr : meth.sig.returnType = some .int) (μ : Mem) : T p l e (rmD 4) s m args below meth c 1 A dsM D ad cA enI (fX8_spoilt μ) 0 [(0, .ref (ad 0))] [] μ := by
  unfold fX8_spoilt
  refine tt_aload_n C 0 dX8_spoilt_0 rfl rfl ?_
  refine tt_bi (fun v2 m1 h1 => ?_)
  refine tt_callV (st := []) (As := []) C (kX8_wholeRound C.2.2.2.2.2.2.2.1 h1) mi_X8_wholeRound ml_RX8_245 mv_X8_wholeRound ms_X8_wholeRound (q := (RX8, TX8, 45)) dM_0 rfl rfl (by decide) (by decide) (Nat.le_of_ble_eq_true rfl) dX8_spoilt_1 ?_
  refine tt_pop C dX8_spoilt_4 rfl ?_
  refine tt_aload_n C 0 dX8_spoilt_5 rfl rfl ?_
  refine tt_getI C (j := 32) dM_0 rfl fl_RX8_221 dX8_spoilt_6 ?_
  exact tt_iret rfl C hr dX8_spoilt_9
theorem kX8_spoilt {l : Launch} {A : Nat → Prop} {D : va_G} {ad : Nat → Nat} {cA : Nat → ClassId} (hPk : Pk A dsM ad cA EM) {μ : Mem} {v : Int32} {ν : Mem} (h : fX8_spoilt μ = some (v, ν)) : Ct l A dsM D ad cA EM yX8_spoilt cX8_spoilt 1 (some .int) 4 [.ref (ad 0)] μ (enI (v, ν)) :=
  ct_of (by decide) (Nat.le_of_ble_eq_true rfl) hPk rfl (fun p e s m args below meth c C hr => wX8_spoilt C hr μ) h

/-! BasketRoundModel.strength()I -/
def fX8_strength_J46 (k14 : Int32 → Int32 → Int32 → Mem → Option (Int32 × Mem)) (x1 : Int32) (x3 : Int32) (z0 : Int32) (μ : Mem) : Option (Int32 × Mem) := lb (x3 + (-1 : Int32)) fun (y1 : Int32) => k14 x1 z0 y1 μ
set_option maxHeartbeats 4000000 in
set_option maxRecDepth 100000 in
theorem wX8_strength_J46 {p : Program} {l : Launch} {e : Env} {s : State} {m : MethodId} {args : Array Value} {below : List Frame} {meth : Method} {c : Code} {A : Nat → Prop} {D : va_G} {ad : Nat → Nat} {cA : Nat → ClassId} (C : Cx p s m args meth c cX8_strength RX8 4 A dsM D ad cA EM) (hr : meth.sig.returnType = some .int) (k14 : Int32 → Int32 → Int32 → Mem → Option (Int32 × Mem)) (hk14 : ∀ (x1 : Int32) (x2 : Int32) (x3 : Int32) (μ : Mem), T p l e (rmD 4) s m args below meth c 4 A dsM D ad cA enI (k14 x1 x2 x3 μ) 14 [(0, .ref (ad 0)), (1, .int x1), (2, .int x2), (3, .int x3)] [] μ) (x1 : Int32) (x3 : Int32) (z0 : Int32) (μ : Mem) : T p l e (rmD 4) s m args below meth c 4 A dsM D ad cA enI (fX8_strength_J46 k14 x1 x3 z0 μ) 46 [(0, .ref (ad 0)), (1, .int x1), (3, .int x3)] [.int z0] μ := by
  unfold fX8_strength_J46
  refine tt_istore_n (L2 := [(2, .int z0), (0, .ref (ad 0)), (1, .int x1), (3, .int x3)]) C dX8_strength_46 rfl (by decide) rfl ?_
  refine tt_iincB (d := (-1 : Int32)) C 3 (fun y1 => [(3, .int y1), (2, .int z0), (0, .ref (ad 0)), (1, .int x1)]) dX8_strength_47 rfl (by decide) (by decide) (fun _ => rfl) (fun y1 => ?_)
  refine tt_goto (tgt := 14) C dX8_strength_50 (by decide) ?_
  refine tt_sub [2, 3, 1, 0] (L2 := [(0, .ref (ad 0)), (1, .int x1), (2, .int z0), (3, .int y1)]) rfl ?_
  exact hk14 x1 z0 y1 μ

def fX8_strength_L14 : Nat → Int32 → Int32 → Int32 → Mem → Option (Int32 × Mem)
  | 0, _, _, _, _ => none
  | fu + 1, x1, x2, x3, μ => if x3 < (0 : Int32) then (gr (30 : Int32) 160 <| lb (wr μ 1 (30 : Int32).toNatClampNeg x1) fun m1 => some (x2, m1)) else (gr (30 : Int32) 160 <| lb (wr μ 1 (30 : Int32).toNatClampNeg (x3 - (10 : Int32))) fun m2 => bi (fX8_wholeRound m2) fun v4 m3 => if (m3 0 33) = (0 : Int32) then (fX8_strength_J46 (fun x1 x2 x3 μ => fX8_strength_L14 fu x1 x2 x3 μ) x1 x3 x3 m3) else (fX8_strength_J46 (fun x1 x2 x3 μ => fX8_strength_L14 fu x1 x2 x3 μ) x1 x3 x2 m3))
set_option maxHeartbeats 4000000 in
set_option maxRecDepth 100000 in
theorem wX8_strength_L14 {p : Program} {l : Launch} {e : Env} {s : State} {m : MethodId} {args : Array Value} {below : List Frame} {meth : Method} {c : Code} {A : Nat → Prop} {D : va_G} {ad : Nat → Nat} {cA : Nat → ClassId} (C : Cx p s m args meth c cX8_strength RX8 4 A dsM D ad cA EM) (hr : meth.sig.returnType = some .int) : ∀ (fu : Nat) (x1 : Int32) (x2 : Int32) (x3 : Int32) (μ : Mem), T p l e (rmD 4) s m args below meth c 4 A dsM D ad cA enI (fX8_strength_L14 fu x1 x2 x3 μ) 14 [(0, .ref (ad 0)), (1, .int x1), (2, .int x2), (3, .int x3)] [] μ
  | 0, _, _, _, _ => tt_none
  | fu + 1, x1, x2, x3, μ => by
    have ih := fun (x1 : Int32) (x2 : Int32) (x3 : Int32) (μ : Mem) => wX8_strength_L14 (l := l) (e := e) (below := below) C hr fu x1 x2 x3 μ
    show T p l e (rmD 4) s m args below meth c 4 A dsM D ad cA enI (if x3 < (0 : Int32) then (gr (30 : Int32) 160 <| lb (wr μ 1 (30 : Int32).toNatClampNeg x1) fun m1 => some (x2, m1)) else (gr (30 : Int32) 160 <| lb (wr μ 1 (30 : Int32).toNatClampNeg (x3 - (10 : Int32))) fun m2 => bi (fX8_wholeRound m2) fun v4 m3 => if (m3 0 33) = (0 : Int32) then (fX8_strength_J46 (fun x1 x2 x3 μ => fX8_strength_L14 fu x1 x2 x3 μ) x1 x3 x3 m3) else (fX8_strength_J46 (fun x1 x2 x3 μ => fX8_strength_L14 fu x1 x2 x3 μ) x1 x3 x2 m3))) 14 [(0, .ref (ad 0)), (1, .int x1), (2, .int x2), (3, .int x3)] [] μ
    refine tt_iload_n C 3 dX8_strength_14 rfl rfl ?_
    refine tt_if (fun h1 => ?_) (fun h1 => ?_)
    · refine tt_if_ltT (tgt := 53) C h1 dX8_strength_15 (by decide) ?_
      refine tt_aload_n C 0 dX8_strength_53 rfl rfl ?_
      refine tt_getR C (j := 0) (r0 := 1) dM_0 rfl fl_RX8_7 dX8_strength_54 ?_
      refine tt_bipush (v := (30 : Int32)) C dX8_strength_57 (by decide) ?_
      refine tt_iload_n C 1 dX8_strength_59 rfl rfl ?_
      refine tt_gr (fun h2 => ?_)
      refine tt_iast C dM_1 h2 dX8_strength_60 ?_
      refine tt_lbm (fun m1 => ?_)
      refine tt_iload_n C 2 dX8_strength_61 rfl rfl ?_
      exact tt_iret rfl C hr dX8_strength_62
    · refine tt_if_ltF C 53 h1 dX8_strength_15 (by decide) ?_
      refine tt_aload_n C 0 dX8_strength_18 rfl rfl ?_
      refine tt_getR C (j := 0) (r0 := 1) dM_0 rfl fl_RX8_7 dX8_strength_19 ?_
      refine tt_bipush (v := (30 : Int32)) C dX8_strength_22 (by decide) ?_
      refine tt_iload_n C 3 dX8_strength_24 rfl rfl ?_
      refine tt_bipush (v := (10 : Int32)) C dX8_strength_25 (by decide) ?_
      refine tt_isub C dX8_strength_27 ?_
      refine tt_gr (fun h3 => ?_)
      refine tt_iast C dM_1 h3 dX8_strength_28 ?_
      refine tt_lbm (fun m2 => ?_)
      refine tt_aload_n C 0 dX8_strength_29 rfl rfl ?_
      refine tt_bi (fun v4 m3 h4 => ?_)
      refine tt_callV (st := []) (As := []) C (kX8_wholeRound C.2.2.2.2.2.2.2.1 h4) mi_X8_wholeRound ml_RX8_245 mv_X8_wholeRound ms_X8_wholeRound (q := (RX8, TX8, 45)) dM_0 rfl rfl (by decide) (by decide) (Nat.le_of_ble_eq_true rfl) dX8_strength_30 ?_
      refine tt_pop C dX8_strength_33 rfl ?_
      refine tt_aload_n C 0 dX8_strength_34 rfl rfl ?_
      refine tt_getI C (j := 33) dM_0 rfl fl_RX8_224 dX8_strength_35 ?_
      refine tt_if (fun h5 => ?_) (fun h5 => ?_)
      · refine tt_if_neF C 45 h5 dX8_strength_38 (by decide) ?_
        refine tt_iload_n C 3 dX8_strength_41 rfl rfl ?_
        refine tt_goto (tgt := 46) C dX8_strength_42 (by decide) ?_
        refine tt_sub [0, 1, 3] (L2 := [(0, .ref (ad 0)), (1, .int x1), (3, .int x3)]) rfl ?_
        exact wX8_strength_J46 C hr (fun x1 x2 x3 μ => fX8_strength_L14 fu x1 x2 x3 μ) (fun x1 x2 x3 μ => ih x1 x2 x3 μ) x1 x3 x3 m3
      · refine tt_if_neT (tgt := 45) C h5 dX8_strength_38 (by decide) ?_
        refine tt_iload_n C 2 dX8_strength_45 rfl rfl ?_
        refine tt_sub [0, 1, 3] (L2 := [(0, .ref (ad 0)), (1, .int x1), (3, .int x3)]) rfl ?_
        exact wX8_strength_J46 C hr (fun x1 x2 x3 μ => fX8_strength_L14 fu x1 x2 x3 μ) (fun x1 x2 x3 μ => ih x1 x2 x3 μ) x1 x3 x2 m3

def fX8_strength (μ : Mem) : Option (Int32 × Mem) := gr (30 : Int32) 160 <| lb (μ 1 (30 : Int32).toNatClampNeg) fun (y1 : Int32) => lb (-4 : Int32) fun (y2 : Int32) => lb (60 : Int32) fun (y3 : Int32) => fX8_strength_L14 FU y1 y2 y3 μ
set_option maxHeartbeats 4000000 in
set_option maxRecDepth 100000 in
theorem wX8_strength {p : Program} {l : Launch} {e : Env} {s : State} {m : MethodId} {args : Array Value} {below : List Frame} {meth : Method} {c : Code} {A : Nat → Prop} {D : va_G} {ad : Nat → Nat} {cA : Nat → ClassId} (C : Cx p s m args meth c cX8_strength RX8 4 A dsM D ad cA EM) (hr : meth.sig.returnType = some .int) (μ : Mem) : T p l e (rmD 4) s m args below meth c 4 A dsM D ad cA enI (fX8_strength μ) 0 [(0, .ref (ad 0))] [] μ := by
  unfold fX8_strength
  refine tt_aload_n C 0 dX8_strength_0 rfl rfl ?_
  refine tt_getR C (j := 0) (r0 := 1) dM_0 rfl fl_RX8_7 dX8_strength_1 ?_
  refine tt_bipush (v := (30 : Int32)) C dX8_strength_4 (by decide) ?_
  refine tt_gr (fun h1 => ?_)
  refine tt_iald C dM_1 h1 dX8_strength_6 ?_
  refine tt_lbi (fun y1 => ?_)
  refine tt_istore_n (L2 := [(1, .int y1), (0, .ref (ad 0))]) C dX8_strength_7 rfl (by decide) rfl ?_
  refine tt_bipush (v := (-4 : Int32)) C dX8_strength_8 (by decide) ?_
  refine tt_lbi (fun y2 => ?_)
  refine tt_istore_n (L2 := [(2, .int y2), (1, .int y1), (0, .ref (ad 0))]) C dX8_strength_10 rfl (by decide) rfl ?_
  refine tt_bipush (v := (60 : Int32)) C dX8_strength_11 (by decide) ?_
  refine tt_lbi (fun y3 => ?_)
  refine tt_istore_n (L2 := [(3, .int y3), (2, .int y2), (1, .int y1), (0, .ref (ad 0))]) C dX8_strength_13 rfl (by decide) rfl ?_
  refine tt_sub [3, 2, 1, 0] (L2 := [(0, .ref (ad 0)), (1, .int y1), (2, .int y2), (3, .int y3)]) rfl ?_
  exact wX8_strength_L14 C hr FU y1 y2 y3 μ
theorem kX8_strength {l : Launch} {A : Nat → Prop} {D : va_G} {ad : Nat → Nat} {cA : Nat → ClassId} (hPk : Pk A dsM ad cA EM) {μ : Mem} {v : Int32} {ν : Mem} (h : fX8_strength μ = some (v, ν)) : Ct l A dsM D ad cA EM yX8_strength cX8_strength 4 (some .int) 4 [.ref (ad 0)] μ (enI (v, ν)) :=
  ct_of (by decide) (Nat.le_of_ble_eq_true rfl) hPk rfl (fun p e s m args below meth c C hr => wX8_strength C hr μ) h

/-! BasketRoundModel.swap(II)I -/
def fX8_swap (x1 : Int32) (x2 : Int32) (μ : Mem) : Option (Int32 × Mem) := bi (fX8_changes (25 : Int32) x1 x2 μ) fun v2 m1 => some (v2, m1)
set_option maxHeartbeats 4000000 in
set_option maxRecDepth 100000 in
theorem wX8_swap {p : Program} {l : Launch} {e : Env} {s : State} {m : MethodId} {args : Array Value} {below : List Frame} {meth : Method} {c : Code} {A : Nat → Prop} {D : va_G} {ad : Nat → Nat} {cA : Nat → ClassId} (C : Cx p s m args meth c cX8_swap RX8 3 A dsM D ad cA EM) (hr : meth.sig.returnType = some .int) (x1 : Int32) (x2 : Int32) (μ : Mem) : T p l e (rmD 3) s m args below meth c 3 A dsM D ad cA enI (fX8_swap x1 x2 μ) 0 [(0, .ref (ad 0)), (1, .int x1), (2, .int x2)] [] μ := by
  unfold fX8_swap
  refine tt_aload_n C 0 dX8_swap_0 rfl rfl ?_
  refine tt_bipush (v := (25 : Int32)) C dX8_swap_1 (by decide) ?_
  refine tt_iload_n C 1 dX8_swap_3 rfl rfl ?_
  refine tt_iload_n C 2 dX8_swap_4 rfl rfl ?_
  refine tt_bi (fun v2 m1 h1 => ?_)
  refine tt_callV (st := []) (As := [.int (25 : Int32), .int x1, .int x2]) C (kX8_changes C.2.2.2.2.2.2.2.1 h1) mi_X8_changes ml_RX8_198 mv_X8_changes ms_X8_changes (q := (RX8, TX8, 45)) dM_0 rfl rfl (by decide) (by decide) (Nat.le_of_ble_eq_true rfl) dX8_swap_5 ?_
  exact tt_iret rfl C hr dX8_swap_8
theorem kX8_swap {l : Launch} {A : Nat → Prop} {D : va_G} {ad : Nat → Nat} {cA : Nat → ClassId} (hPk : Pk A dsM ad cA EM) {x1 : Int32} {x2 : Int32} {μ : Mem} {v : Int32} {ν : Mem} (h : fX8_swap x1 x2 μ = some (v, ν)) : Ct l A dsM D ad cA EM yX8_swap cX8_swap 3 (some .int) 3 [.ref (ad 0), .int x1, .int x2] μ (enI (v, ν)) :=
  ct_of (by decide) (Nat.le_of_ble_eq_true rfl) hPk rfl (fun p e s m args below meth c C hr => wX8_swap C hr x1 x2 μ) h

/-! BasketRoundModel.text()I -/
def fX8_text_L113 : Nat → Int32 → Int32 → Mem → Option (Int32 × Mem)
  | 0, _, _, _ => none
  | fu + 1, x1, x2, μ => if (32 : Int32) ≤ x2 then (lb (wr μ 0 3 (μ 0 10)) fun m1 => lb (wr m1 0 5 (m1 0 11)) fun m2 => lb (wr m2 0 39 (0 : Int32)) fun m3 => gr (0 : Int32) 2 <| lb (wr m3 16 (0 : Int32).toNatClampNeg (vp_nar .boolean (0 : Int32))) fun m4 => gr (1 : Int32) 2 <| lb (wr m4 16 (1 : Int32).toNatClampNeg (vp_nar .boolean (0 : Int32))) fun m5 => some (x1, m5)) else (gr x2 32 <| gr x2 160 <| lb (wr μ 1 x2.toNatClampNeg (μ 5 x2.toNatClampNeg)) fun m6 => gd (¬ (6 : Int32) = (0 : Int32)) <| gd (¬ (6 : Int32) = (0 : Int32)) <| gr (irm x2 (6 : Int32)) 6 <| gr (irm x2 (6 : Int32)) 6 <| lb (wr m6 2 (irm x2 (6 : Int32)).toNatClampNeg (m6 6 (irm x2 (6 : Int32)).toNatClampNeg)) fun m7 => gd (¬ (6 : Int32) = (0 : Int32)) <| gd (¬ (6 : Int32) = (0 : Int32)) <| gr (irm x2 (6 : Int32)) 6 <| gr (irm x2 (6 : Int32)) 6 <| lb (wr m7 3 (irm x2 (6 : Int32)).toNatClampNeg (m7 7 (irm x2 (6 : Int32)).toNatClampNeg)) fun m8 => gd (¬ (5 : Int32) = (0 : Int32)) <| gd (¬ (5 : Int32) = (0 : Int32)) <| gr (irm x2 (5 : Int32)) 5 <| gr (irm x2 (5 : Int32)) 5 <| lb (wr m8 4 (irm x2 (5 : Int32)).toNatClampNeg (m8 8 (irm x2 (5 : Int32)).toNatClampNeg)) fun m9 => lb (x2 + (1 : Int32)) fun (y10 : Int32) => fX8_text_L113 fu x1 y10 m9)
set_option maxHeartbeats 4000000 in
set_option maxRecDepth 100000 in
theorem wX8_text_L113 {p : Program} {l : Launch} {e : Env} {s : State} {m : MethodId} {args : Array Value} {below : List Frame} {meth : Method} {c : Code} {A : Nat → Prop} {D : va_G} {ad : Nat → Nat} {cA : Nat → ClassId} (C : Cx p s m args meth c cX8_text RX8 3 A dsM D ad cA EM) (hr : meth.sig.returnType = some .int) : ∀ (fu : Nat) (x1 : Int32) (x2 : Int32) (μ : Mem), T p l e (rmD 6) s m args below meth c 3 A dsM D ad cA enI (fX8_text_L113 fu x1 x2 μ) 113 [(0, .ref (ad 0)), (1, .int x1), (2, .int x2)] [] μ
  | 0, _, _, _ => tt_none
  | fu + 1, x1, x2, μ => by
    have ih := fun (x1 : Int32) (x2 : Int32) (μ : Mem) => wX8_text_L113 (l := l) (e := e) (below := below) C hr fu x1 x2 μ
    show T p l e (rmD 6) s m args below meth c 3 A dsM D ad cA enI (if (32 : Int32) ≤ x2 then (lb (wr μ 0 3 (μ 0 10)) fun m1 => lb (wr m1 0 5 (m1 0 11)) fun m2 => lb (wr m2 0 39 (0 : Int32)) fun m3 => gr (0 : Int32) 2 <| lb (wr m3 16 (0 : Int32).toNatClampNeg (vp_nar .boolean (0 : Int32))) fun m4 => gr (1 : Int32) 2 <| lb (wr m4 16 (1 : Int32).toNatClampNeg (vp_nar .boolean (0 : Int32))) fun m5 => some (x1, m5)) else (gr x2 32 <| gr x2 160 <| lb (wr μ 1 x2.toNatClampNeg (μ 5 x2.toNatClampNeg)) fun m6 => gd (¬ (6 : Int32) = (0 : Int32)) <| gd (¬ (6 : Int32) = (0 : Int32)) <| gr (irm x2 (6 : Int32)) 6 <| gr (irm x2 (6 : Int32)) 6 <| lb (wr m6 2 (irm x2 (6 : Int32)).toNatClampNeg (m6 6 (irm x2 (6 : Int32)).toNatClampNeg)) fun m7 => gd (¬ (6 : Int32) = (0 : Int32)) <| gd (¬ (6 : Int32) = (0 : Int32)) <| gr (irm x2 (6 : Int32)) 6 <| gr (irm x2 (6 : Int32)) 6 <| lb (wr m7 3 (irm x2 (6 : Int32)).toNatClampNeg (m7 7 (irm x2 (6 : Int32)).toNatClampNeg)) fun m8 => gd (¬ (5 : Int32) = (0 : Int32)) <| gd (¬ (5 : Int32) = (0 : Int32)) <| gr (irm x2 (5 : Int32)) 5 <| gr (irm x2 (5 : Int32)) 5 <| lb (wr m8 4 (irm x2 (5 : Int32)).toNatClampNeg (m8 8 (irm x2 (5 : Int32)).toNatClampNeg)) fun m9 => lb (x2 + (1 : Int32)) fun (y10 : Int32) => fX8_text_L113 fu x1 y10 m9)) 113 [(0, .ref (ad 0)), (1, .int x1), (2, .int x2)] [] μ
    refine tt_iload_n C 2 dX8_text_113 rfl rfl ?_
    refine tt_bipush (v := (32 : Int32)) C dX8_text_114 (by decide) ?_
    refine tt_if (fun h1 => ?_) (fun h1 => ?_)
    · refine tt_icmp_geT (tgt := 189) C h1 dX8_text_116 (by decide) ?_
      refine tt_aload_n C 0 dX8_text_189 rfl rfl ?_
      refine tt_aload_n C 0 dX8_text_190 rfl rfl ?_
      refine tt_getI C (j := 10) dM_0 rfl fl_RX8_134 dX8_text_191 ?_
      refine tt_putI C (j := 3) dM_0 rfl fl_RX8_164 fw_8_3 dX8_text_194 ?_
      refine tt_lbm (fun m1 => ?_)
      refine tt_aload_n C 0 dX8_text_197 rfl rfl ?_
      refine tt_aload_n C 0 dX8_text_198 rfl rfl ?_
      refine tt_getI C (j := 11) dM_0 rfl fl_RX8_119 dX8_text_199 ?_
      refine tt_putI C (j := 5) dM_0 rfl fl_RX8_167 fw_8_5 dX8_text_202 ?_
      refine tt_lbm (fun m2 => ?_)
      refine tt_aload_n C 0 dX8_text_205 rfl rfl ?_
      refine tt_iconst (v := (0 : Int32)) C dX8_text_206 (by decide) ?_
      refine tt_putI C (j := 39) dM_0 rfl fl_RX8_170 fw_8_39 dX8_text_207 ?_
      refine tt_lbm (fun m3 => ?_)
      refine tt_aload_n C 0 dX8_text_210 rfl rfl ?_
      refine tt_getR C (j := 40) (r0 := 16) dM_0 rfl fl_RX8_55 dX8_text_211 ?_
      refine tt_iconst (v := (0 : Int32)) C dX8_text_214 (by decide) ?_
      refine tt_iconst (v := (0 : Int32)) C dX8_text_215 (by decide) ?_
      refine tt_gr (fun h2 => ?_)
      refine tt_zast C dM_16 h2 dX8_text_216 ?_
      refine tt_lbm (fun m4 => ?_)
      refine tt_aload_n C 0 dX8_text_217 rfl rfl ?_
      refine tt_getR C (j := 40) (r0 := 16) dM_0 rfl fl_RX8_55 dX8_text_218 ?_
      refine tt_iconst (v := (1 : Int32)) C dX8_text_221 (by decide) ?_
      refine tt_iconst (v := (0 : Int32)) C dX8_text_222 (by decide) ?_
      refine tt_gr (fun h3 => ?_)
      refine tt_zast C dM_16 h3 dX8_text_223 ?_
      refine tt_lbm (fun m5 => ?_)
      refine tt_iload_n C 1 dX8_text_224 rfl rfl ?_
      exact tt_iret rfl C hr dX8_text_225
    · refine tt_icmp_geF C 189 h1 dX8_text_116 (by decide) ?_
      refine tt_aload_n C 0 dX8_text_119 rfl rfl ?_
      refine tt_getR C (j := 0) (r0 := 1) dM_0 rfl fl_RX8_7 dX8_text_120 ?_
      refine tt_iload_n C 2 dX8_text_123 rfl rfl ?_
      refine tt_aload_n C 0 dX8_text_124 rfl rfl ?_
      refine tt_getR C (j := 6) (r0 := 5) dM_0 rfl fl_RX8_22 dX8_text_125 ?_
      refine tt_iload_n C 2 dX8_text_128 rfl rfl ?_
      refine tt_gr (fun h4 => ?_)
      refine tt_iald C dM_5 h4 dX8_text_129 ?_
      refine tt_gr (fun h5 => ?_)
      refine tt_iast C dM_1 h5 dX8_text_130 ?_
      refine tt_lbm (fun m6 => ?_)
      refine tt_aload_n C 0 dX8_text_131 rfl rfl ?_
      refine tt_getR C (j := 1) (r0 := 2) dM_0 rfl fl_RX8_13 dX8_text_132 ?_
      refine tt_iload_n C 2 dX8_text_135 rfl rfl ?_
      refine tt_bipush (v := (6 : Int32)) C dX8_text_136 (by decide) ?_
      refine tt_gd (fun h6 => ?_)
      refine tt_irem C h6 dX8_text_138 ?_
      refine tt_aload_n C 0 dX8_text_139 rfl rfl ?_
      refine tt_getR C (j := 7) (r0 := 6) dM_0 rfl fl_RX8_25 dX8_text_140 ?_
      refine tt_iload_n C 2 dX8_text_143 rfl rfl ?_
      refine tt_bipush (v := (6 : Int32)) C dX8_text_144 (by decide) ?_
      refine tt_gd (fun h7 => ?_)
      refine tt_irem C h7 dX8_text_146 ?_
      refine tt_gr (fun h8 => ?_)
      refine tt_iald C dM_6 h8 dX8_text_147 ?_
      refine tt_gr (fun h9 => ?_)
      refine tt_iast C dM_2 h9 dX8_text_148 ?_
      refine tt_lbm (fun m7 => ?_)
      refine tt_aload_n C 0 dX8_text_149 rfl rfl ?_
      refine tt_getR C (j := 2) (r0 := 3) dM_0 rfl fl_RX8_16 dX8_text_150 ?_
      refine tt_iload_n C 2 dX8_text_153 rfl rfl ?_
      refine tt_bipush (v := (6 : Int32)) C dX8_text_154 (by decide) ?_
      refine tt_gd (fun h10 => ?_)
      refine tt_irem C h10 dX8_text_156 ?_
      refine tt_aload_n C 0 dX8_text_157 rfl rfl ?_
      refine tt_getR C (j := 8) (r0 := 7) dM_0 rfl fl_RX8_28 dX8_text_158 ?_
      refine tt_iload_n C 2 dX8_text_161 rfl rfl ?_
      refine tt_bipush (v := (6 : Int32)) C dX8_text_162 (by decide) ?_
      refine tt_gd (fun h11 => ?_)
      refine tt_irem C h11 dX8_text_164 ?_
      refine tt_gr (fun h12 => ?_)
      refine tt_iald C dM_7 h12 dX8_text_165 ?_
      refine tt_gr (fun h13 => ?_)
      refine tt_iast C dM_3 h13 dX8_text_166 ?_
      refine tt_lbm (fun m8 => ?_)
      refine tt_aload_n C 0 dX8_text_167 rfl rfl ?_
      refine tt_getR C (j := 4) (r0 := 4) dM_0 rfl fl_RX8_19 dX8_text_168 ?_
      refine tt_iload_n C 2 dX8_text_171 rfl rfl ?_
      refine tt_iconst (v := (5 : Int32)) C dX8_text_172 (by decide) ?_
      refine tt_gd (fun h14 => ?_)
      refine tt_irem C h14 dX8_text_173 ?_
      refine tt_aload_n C 0 dX8_text_174 rfl rfl ?_
      refine tt_getR C (j := 9) (r0 := 8) dM_0 rfl fl_RX8_31 dX8_text_175 ?_
      refine tt_iload_n C 2 dX8_text_178 rfl rfl ?_
      refine tt_iconst (v := (5 : Int32)) C dX8_text_179 (by decide) ?_
      refine tt_gd (fun h15 => ?_)
      refine tt_irem C h15 dX8_text_180 ?_
      refine tt_gr (fun h16 => ?_)
      refine tt_iald C dM_8 h16 dX8_text_181 ?_
      refine tt_gr (fun h17 => ?_)
      refine tt_iast C dM_4 h17 dX8_text_182 ?_
      refine tt_lbm (fun m9 => ?_)
      refine tt_iincB (d := (1 : Int32)) C 2 (fun y10 => [(2, .int y10), (0, .ref (ad 0)), (1, .int x1)]) dX8_text_183 rfl (by decide) (by decide) (fun _ => rfl) (fun y10 => ?_)
      refine tt_goto (tgt := 113) C dX8_text_186 (by decide) ?_
      refine tt_sub [1, 2, 0] (L2 := [(0, .ref (ad 0)), (1, .int x1), (2, .int y10)]) rfl ?_
      exact ih x1 y10 m9

def fX8_text_J69 (x1 : Int32) (μ : Mem) : Option (Int32 × Mem) := lb (wr μ 0 18 (0 : Int32)) fun m1 => lb (wr m1 0 19 (m1 0 20)) fun m2 => if (m2 0 20) ≤ (0 : Int32) then (bv (fX8_laysRow (0 : Int32) (20 : Int32) m2) fun m3 => bv (fX8_laysRow (1 : Int32) (25 : Int32) m3) fun m4 => lb (0 : Int32) fun (y5 : Int32) => fX8_text_L113 FU x1 y5 m4) else (some (((-10 : Int32) - (m2 0 21)), m2))
set_option maxHeartbeats 4000000 in
set_option maxRecDepth 100000 in
theorem wX8_text_J69 {p : Program} {l : Launch} {e : Env} {s : State} {m : MethodId} {args : Array Value} {below : List Frame} {meth : Method} {c : Code} {A : Nat → Prop} {D : va_G} {ad : Nat → Nat} {cA : Nat → ClassId} (C : Cx p s m args meth c cX8_text RX8 3 A dsM D ad cA EM) (hr : meth.sig.returnType = some .int) (x1 : Int32) (μ : Mem) : T p l e (rmD 6) s m args below meth c 3 A dsM D ad cA enI (fX8_text_J69 x1 μ) 69 [(0, .ref (ad 0)), (1, .int x1)] [] μ := by
  unfold fX8_text_J69
  refine tt_aload_n C 0 dX8_text_69 rfl rfl ?_
  refine tt_iconst (v := (0 : Int32)) C dX8_text_70 (by decide) ?_
  refine tt_putI C (j := 18) dM_0 rfl fl_RX8_74 fw_8_18 dX8_text_71 ?_
  refine tt_lbm (fun m1 => ?_)
  refine tt_aload_n C 0 dX8_text_74 rfl rfl ?_
  refine tt_aload_n C 0 dX8_text_75 rfl rfl ?_
  refine tt_getI C (j := 20) dM_0 rfl fl_RX8_78 dX8_text_76 ?_
  refine tt_putI C (j := 19) dM_0 rfl fl_RX8_157 fw_8_19 dX8_text_79 ?_
  refine tt_lbm (fun m2 => ?_)
  refine tt_aload_n C 0 dX8_text_82 rfl rfl ?_
  refine tt_getI C (j := 20) dM_0 rfl fl_RX8_78 dX8_text_83 ?_
  refine tt_if (fun h1 => ?_) (fun h1 => ?_)
  · refine tt_if_leT (tgt := 97) C h1 dX8_text_86 (by decide) ?_
    refine tt_aload_n C 0 dX8_text_97 rfl rfl ?_
    refine tt_iconst (v := (0 : Int32)) C dX8_text_98 (by decide) ?_
    refine tt_bipush (v := (20 : Int32)) C dX8_text_99 (by decide) ?_
    refine tt_bv (fun m3 h2 => ?_)
    refine tt_callV (st := []) (As := [.int (0 : Int32), .int (20 : Int32)]) C (kX8_laysRow C.2.2.2.2.2.2.2.1 h2) mi_X8_laysRow ml_RX8_160 mv_X8_laysRow ms_X8_laysRow (q := (RX8, TX8, 45)) dM_0 rfl rfl (by decide) (by decide) (Nat.le_of_ble_eq_true rfl) dX8_text_101 ?_
    refine tt_aload_n C 0 dX8_text_104 rfl rfl ?_
    refine tt_iconst (v := (1 : Int32)) C dX8_text_105 (by decide) ?_
    refine tt_bipush (v := (25 : Int32)) C dX8_text_106 (by decide) ?_
    refine tt_bv (fun m4 h3 => ?_)
    refine tt_callV (st := []) (As := [.int (1 : Int32), .int (25 : Int32)]) C (kX8_laysRow C.2.2.2.2.2.2.2.1 h3) mi_X8_laysRow ml_RX8_160 mv_X8_laysRow ms_X8_laysRow (q := (RX8, TX8, 45)) dM_0 rfl rfl (by decide) (by decide) (Nat.le_of_ble_eq_true rfl) dX8_text_108 ?_
    refine tt_iconst (v := (0 : Int32)) C dX8_text_111 (by decide) ?_
    refine tt_lbi (fun y5 => ?_)
    refine tt_istore_n (L2 := [(2, .int y5), (0, .ref (ad 0)), (1, .int x1)]) C dX8_text_112 rfl (by decide) rfl ?_
    refine tt_sub [1, 2, 0] (L2 := [(0, .ref (ad 0)), (1, .int x1), (2, .int y5)]) rfl ?_
    exact wX8_text_L113 C hr FU x1 y5 m4
  · refine tt_if_leF C 97 h1 dX8_text_86 (by decide) ?_
    refine tt_bipush (v := (-10 : Int32)) C dX8_text_89 (by decide) ?_
    refine tt_aload_n C 0 dX8_text_91 rfl rfl ?_
    refine tt_getI C (j := 21) dM_0 rfl fl_RX8_84 dX8_text_92 ?_
    refine tt_isub C dX8_text_95 ?_
    exact tt_iret rfl C hr dX8_text_96

def fX8_text_J63 (x1 : Int32) (μ : Mem) : Option (Int32 × Mem) := bv (fX8_fails (6 : Int32) μ) fun m1 => fX8_text_J69 x1 m1
set_option maxHeartbeats 4000000 in
set_option maxRecDepth 100000 in
theorem wX8_text_J63 {p : Program} {l : Launch} {e : Env} {s : State} {m : MethodId} {args : Array Value} {below : List Frame} {meth : Method} {c : Code} {A : Nat → Prop} {D : va_G} {ad : Nat → Nat} {cA : Nat → ClassId} (C : Cx p s m args meth c cX8_text RX8 3 A dsM D ad cA EM) (hr : meth.sig.returnType = some .int) (x1 : Int32) (μ : Mem) : T p l e (rmD 6) s m args below meth c 3 A dsM D ad cA enI (fX8_text_J63 x1 μ) 63 [(0, .ref (ad 0)), (1, .int x1)] [] μ := by
  unfold fX8_text_J63
  refine tt_aload_n C 0 dX8_text_63 rfl rfl ?_
  refine tt_bipush (v := (6 : Int32)) C dX8_text_64 (by decide) ?_
  refine tt_bv (fun m1 h1 => ?_)
  refine tt_callV (st := []) (As := [.int (6 : Int32)]) C (kX8_fails C.2.2.2.2.2.2.2.1 h1) mi_X8_fails ml_RX8_108 mv_X8_fails ms_X8_fails (q := (RX8, TX8, 45)) dM_0 rfl rfl (by decide) (by decide) (Nat.le_of_ble_eq_true rfl) dX8_text_66 ?_
  refine tt_sub [0, 1] (L2 := [(0, .ref (ad 0)), (1, .int x1)]) rfl ?_
  exact wX8_text_J69 C hr x1 m1

def fX8_text_J34 (x1 : Int32) (μ : Mem) : Option (Int32 × Mem) := if (μ 0 20) = (0 : Int32) then (if (μ 0 10) < (μ 0 15) then (fX8_text_J63 x1 μ) else (if (μ 0 16) < (μ 0 11) then (fX8_text_J69 x1 μ) else (fX8_text_J63 x1 μ))) else (fX8_text_J69 x1 μ)
set_option maxHeartbeats 4000000 in
set_option maxRecDepth 100000 in
theorem wX8_text_J34 {p : Program} {l : Launch} {e : Env} {s : State} {m : MethodId} {args : Array Value} {below : List Frame} {meth : Method} {c : Code} {A : Nat → Prop} {D : va_G} {ad : Nat → Nat} {cA : Nat → ClassId} (C : Cx p s m args meth c cX8_text RX8 3 A dsM D ad cA EM) (hr : meth.sig.returnType = some .int) (x1 : Int32) (μ : Mem) : T p l e (rmD 6) s m args below meth c 3 A dsM D ad cA enI (fX8_text_J34 x1 μ) 34 [(0, .ref (ad 0)), (1, .int x1)] [] μ := by
  unfold fX8_text_J34
  refine tt_aload_n C 0 dX8_text_34 rfl rfl ?_
  refine tt_getI C (j := 20) dM_0 rfl fl_RX8_78 dX8_text_35 ?_
  refine tt_if (fun h1 => ?_) (fun h1 => ?_)
  · refine tt_if_neF C 69 h1 dX8_text_38 (by decide) ?_
    refine tt_aload_n C 0 dX8_text_41 rfl rfl ?_
    refine tt_getI C (j := 15) dM_0 rfl fl_RX8_126 dX8_text_42 ?_
    refine tt_aload_n C 0 dX8_text_45 rfl rfl ?_
    refine tt_getI C (j := 10) dM_0 rfl fl_RX8_134 dX8_text_46 ?_
    refine tt_if (fun h2 => ?_) (fun h2 => ?_)
    · refine tt_icmp_gtT (tgt := 63) C h2 dX8_text_49 (by decide) ?_
      refine tt_sub [0, 1] (L2 := [(0, .ref (ad 0)), (1, .int x1)]) rfl ?_
      exact wX8_text_J63 C hr x1 μ
    · refine tt_icmp_gtF C 63 h2 dX8_text_49 (by decide) ?_
      refine tt_aload_n C 0 dX8_text_52 rfl rfl ?_
      refine tt_getI C (j := 16) dM_0 rfl fl_RX8_131 dX8_text_53 ?_
      refine tt_aload_n C 0 dX8_text_56 rfl rfl ?_
      refine tt_getI C (j := 11) dM_0 rfl fl_RX8_119 dX8_text_57 ?_
      refine tt_if (fun h3 => ?_) (fun h3 => ?_)
      · refine tt_icmp_ltT (tgt := 69) C h3 dX8_text_60 (by decide) ?_
        refine tt_sub [0, 1] (L2 := [(0, .ref (ad 0)), (1, .int x1)]) rfl ?_
        exact wX8_text_J69 C hr x1 μ
      · refine tt_icmp_ltF C 69 h3 dX8_text_60 (by decide) ?_
        refine tt_sub [0, 1] (L2 := [(0, .ref (ad 0)), (1, .int x1)]) rfl ?_
        exact wX8_text_J63 C hr x1 μ
  · refine tt_if_neT (tgt := 69) C h1 dX8_text_38 (by decide) ?_
    refine tt_sub [0, 1] (L2 := [(0, .ref (ad 0)), (1, .int x1)]) rfl ?_
    exact wX8_text_J69 C hr x1 μ

def fX8_text_L10 : Nat → Int32 → Mem → Option (Int32 × Mem)
  | 0, _, _ => none
  | fu + 1, x1, μ => if (μ 0 20) = (0 : Int32) then (if (μ 0 24) = (0 : Int32) then (fX8_text_J34 x1 μ) else (bv (fX8_readLine μ) fun m1 => lb (x1 + (1 : Int32)) fun (y2 : Int32) => fX8_text_L10 fu y2 m1)) else (fX8_text_J34 x1 μ)
set_option maxHeartbeats 4000000 in
set_option maxRecDepth 100000 in
theorem wX8_text_L10 {p : Program} {l : Launch} {e : Env} {s : State} {m : MethodId} {args : Array Value} {below : List Frame} {meth : Method} {c : Code} {A : Nat → Prop} {D : va_G} {ad : Nat → Nat} {cA : Nat → ClassId} (C : Cx p s m args meth c cX8_text RX8 3 A dsM D ad cA EM) (hr : meth.sig.returnType = some .int) : ∀ (fu : Nat) (x1 : Int32) (μ : Mem), T p l e (rmD 6) s m args below meth c 3 A dsM D ad cA enI (fX8_text_L10 fu x1 μ) 10 [(0, .ref (ad 0)), (1, .int x1)] [] μ
  | 0, _, _ => tt_none
  | fu + 1, x1, μ => by
    have ih := fun (x1 : Int32) (μ : Mem) => wX8_text_L10 (l := l) (e := e) (below := below) C hr fu x1 μ
    show T p l e (rmD 6) s m args below meth c 3 A dsM D ad cA enI (if (μ 0 20) = (0 : Int32) then (if (μ 0 24) = (0 : Int32) then (fX8_text_J34 x1 μ) else (bv (fX8_readLine μ) fun m1 => lb (x1 + (1 : Int32)) fun (y2 : Int32) => fX8_text_L10 fu y2 m1)) else (fX8_text_J34 x1 μ)) 10 [(0, .ref (ad 0)), (1, .int x1)] [] μ
    refine tt_aload_n C 0 dX8_text_10 rfl rfl ?_
    refine tt_getI C (j := 20) dM_0 rfl fl_RX8_78 dX8_text_11 ?_
    refine tt_if (fun h1 => ?_) (fun h1 => ?_)
    · refine tt_if_neF C 34 h1 dX8_text_14 (by decide) ?_
      refine tt_aload_n C 0 dX8_text_17 rfl rfl ?_
      refine tt_getI C (j := 24) dM_0 rfl fl_RX8_87 dX8_text_18 ?_
      refine tt_if (fun h2 => ?_) (fun h2 => ?_)
      · refine tt_if_eqT (tgt := 34) C h2 dX8_text_21 (by decide) ?_
        refine tt_sub [0, 1] (L2 := [(0, .ref (ad 0)), (1, .int x1)]) rfl ?_
        exact wX8_text_J34 C hr x1 μ
      · refine tt_if_eqF C 34 h2 dX8_text_21 (by decide) ?_
        refine tt_aload_n C 0 dX8_text_24 rfl rfl ?_
        refine tt_bv (fun m1 h3 => ?_)
        refine tt_callV (st := []) (As := []) C (kX8_readLine C.2.2.2.2.2.2.2.1 h3) mi_X8_readLine ml_RX8_154 mv_X8_readLine ms_X8_readLine (q := (RX8, TX8, 45)) dM_0 rfl rfl (by decide) (by decide) (Nat.le_of_ble_eq_true rfl) dX8_text_25 ?_
        refine tt_iincB (d := (1 : Int32)) C 1 (fun y2 => [(1, .int y2), (0, .ref (ad 0))]) dX8_text_28 rfl (by decide) (by decide) (fun _ => rfl) (fun y2 => ?_)
        refine tt_goto (tgt := 10) C dX8_text_31 (by decide) ?_
        refine tt_sub [1, 0] (L2 := [(0, .ref (ad 0)), (1, .int y2)]) rfl ?_
        exact ih y2 m1
    · refine tt_if_neT (tgt := 34) C h1 dX8_text_14 (by decide) ?_
      refine tt_sub [0, 1] (L2 := [(0, .ref (ad 0)), (1, .int x1)]) rfl ?_
      exact wX8_text_J34 C hr x1 μ

def fX8_text (μ : Mem) : Option (Int32 × Mem) := lb (0 : Int32) fun (y1 : Int32) => bv (fX8_begins μ) fun m2 => bv (fX8_step m2) fun m3 => fX8_text_L10 FU y1 m3
set_option maxHeartbeats 4000000 in
set_option maxRecDepth 100000 in
theorem wX8_text {p : Program} {l : Launch} {e : Env} {s : State} {m : MethodId} {args : Array Value} {below : List Frame} {meth : Method} {c : Code} {A : Nat → Prop} {D : va_G} {ad : Nat → Nat} {cA : Nat → ClassId} (C : Cx p s m args meth c cX8_text RX8 3 A dsM D ad cA EM) (hr : meth.sig.returnType = some .int) (μ : Mem) : T p l e (rmD 6) s m args below meth c 3 A dsM D ad cA enI (fX8_text μ) 0 [(0, .ref (ad 0))] [] μ := by
  unfold fX8_text
  refine tt_iconst (v := (0 : Int32)) C dX8_text_0 (by decide) ?_
  refine tt_lbi (fun y1 => ?_)
  refine tt_istore_n (L2 := [(1, .int y1), (0, .ref (ad 0))]) C dX8_text_1 rfl (by decide) rfl ?_
  refine tt_aload_n C 1 dX8_text_2 rfl rfl ?_
  refine tt_bv (fun m2 h1 => ?_)
  refine tt_callV (st := []) (As := []) C (kX8_begins C.2.2.2.2.2.2.2.1 h1) mi_X8_begins ml_RX8_151 mv_X8_begins ms_X8_begins (q := (RX8, TX8, 45)) dM_0 rfl rfl (by decide) (by decide) (Nat.le_of_ble_eq_true rfl) dX8_text_3 ?_
  refine tt_aload_n C 1 dX8_text_6 rfl rfl ?_
  refine tt_bv (fun m3 h2 => ?_)
  refine tt_callV (st := []) (As := []) C (kX8_step C.2.2.2.2.2.2.2.1 h2) mi_X8_step ml_RX8_112 mv_X8_step ms_X8_step (q := (RX8, TX8, 45)) dM_0 rfl rfl (by decide) (by decide) (Nat.le_of_ble_eq_true rfl) dX8_text_7 ?_
  refine tt_sub [1, 0] (L2 := [(0, .ref (ad 0)), (1, .int y1)]) rfl ?_
  exact wX8_text_L10 C hr FU y1 m3
theorem kX8_text {l : Launch} {A : Nat → Prop} {D : va_G} {ad : Nat → Nat} {cA : Nat → ClassId} (hPk : Pk A dsM ad cA EM) {μ : Mem} {v : Int32} {ν : Mem} (h : fX8_text μ = some (v, ν)) : Ct l A dsM D ad cA EM yX8_text cX8_text 3 (some .int) 6 [.ref (ad 0)] μ (enI (v, ν)) :=
  ct_of (by decide) (Nat.le_of_ble_eq_true rfl) hPk rfl (fun p e s m args below meth c C hr => wX8_text C hr μ) h

/-! BasketRoundModel.time(I)I -/
def fX8_time (x1 : Int32) (μ : Mem) : Option (Int32 × Mem) := bi (fX8_isOrder x1 μ) fun v2 m1 => if v2 = (0 : Int32) then (some ((-1 : Int32), m1)) else (bi (fX8_wholeRound m1) fun v4 m3 => gr x1 5 <| some ((m3 14 x1.toNatClampNeg), m3))
set_option maxHeartbeats 4000000 in
set_option maxRecDepth 100000 in
theorem wX8_time {p : Program} {l : Launch} {e : Env} {s : State} {m : MethodId} {args : Array Value} {below : List Frame} {meth : Method} {c : Code} {A : Nat → Prop} {D : va_G} {ad : Nat → Nat} {cA : Nat → ClassId} (C : Cx p s m args meth c cX8_time RX8 2 A dsM D ad cA EM) (hr : meth.sig.returnType = some .int) (x1 : Int32) (μ : Mem) : T p l e (rmD 4) s m args below meth c 2 A dsM D ad cA enI (fX8_time x1 μ) 0 [(0, .ref (ad 0)), (1, .int x1)] [] μ := by
  unfold fX8_time
  refine tt_aload_n C 0 dX8_time_0 rfl rfl ?_
  refine tt_iload_n C 1 dX8_time_1 rfl rfl ?_
  refine tt_bi (fun v2 m1 h1 => ?_)
  refine tt_callV (st := []) (As := [.int x1]) C (kX8_isOrder C.2.2.2.2.2.2.2.1 h1) mi_X8_isOrder ml_RX8_185 mv_X8_isOrder ms_X8_isOrder (q := (RX8, TX8, 45)) dM_0 rfl rfl (by decide) (by decide) (Nat.le_of_ble_eq_true rfl) dX8_time_2 ?_
  refine tt_if (fun h2 => ?_) (fun h2 => ?_)
  · refine tt_if_neF C 10 h2 dX8_time_5 (by decide) ?_
    refine tt_iconst (v := (-1 : Int32)) C dX8_time_8 (by decide) ?_
    exact tt_iret rfl C hr dX8_time_9
  · refine tt_if_neT (tgt := 10) C h2 dX8_time_5 (by decide) ?_
    refine tt_aload_n C 0 dX8_time_10 rfl rfl ?_
    refine tt_bi (fun v4 m3 h3 => ?_)
    refine tt_callV (st := []) (As := []) C (kX8_wholeRound C.2.2.2.2.2.2.2.1 h3) mi_X8_wholeRound ml_RX8_245 mv_X8_wholeRound ms_X8_wholeRound (q := (RX8, TX8, 45)) dM_0 rfl rfl (by decide) (by decide) (Nat.le_of_ble_eq_true rfl) dX8_time_11 ?_
    refine tt_pop C dX8_time_14 rfl ?_
    refine tt_aload_n C 0 dX8_time_15 rfl rfl ?_
    refine tt_getR C (j := 28) (r0 := 14) dM_0 rfl fl_RX8_49 dX8_time_16 ?_
    refine tt_iload_n C 1 dX8_time_19 rfl rfl ?_
    refine tt_gr (fun h4 => ?_)
    refine tt_iald C dM_14 h4 dX8_time_20 ?_
    exact tt_iret rfl C hr dX8_time_21
theorem kX8_time {l : Launch} {A : Nat → Prop} {D : va_G} {ad : Nat → Nat} {cA : Nat → ClassId} (hPk : Pk A dsM ad cA EM) {x1 : Int32} {μ : Mem} {v : Int32} {ν : Mem} (h : fX8_time x1 μ = some (v, ν)) : Ct l A dsM D ad cA EM yX8_time cX8_time 2 (some .int) 4 [.ref (ad 0), .int x1] μ (enI (v, ν)) :=
  ct_of (by decide) (Nat.le_of_ble_eq_true rfl) hPk rfl (fun p e s m args below meth c C hr => wX8_time C hr x1 μ) h

/-! BasketRoundModel.top(I)I -/
def fX8_top (x1 : Int32) (μ : Mem) : Option (Int32 × Mem) := bi (fX8_isOrder x1 μ) fun v2 m1 => if v2 = (0 : Int32) then (some ((-1 : Int32), m1)) else (bv (fX8_comesFirst (20 : Int32) x1 m1) fun m3 => bi (fX8_codeOf (20 : Int32) m3) fun v5 m4 => some (v5, m4))
set_option maxHeartbeats 4000000 in
set_option maxRecDepth 100000 in
theorem wX8_top {p : Program} {l : Launch} {e : Env} {s : State} {m : MethodId} {args : Array Value} {below : List Frame} {meth : Method} {c : Code} {A : Nat → Prop} {D : va_G} {ad : Nat → Nat} {cA : Nat → ClassId} (C : Cx p s m args meth c cX8_top RX8 2 A dsM D ad cA EM) (hr : meth.sig.returnType = some .int) (x1 : Int32) (μ : Mem) : T p l e (rmD 3) s m args below meth c 2 A dsM D ad cA enI (fX8_top x1 μ) 0 [(0, .ref (ad 0)), (1, .int x1)] [] μ := by
  unfold fX8_top
  refine tt_aload_n C 0 dX8_top_0 rfl rfl ?_
  refine tt_iload_n C 1 dX8_top_1 rfl rfl ?_
  refine tt_bi (fun v2 m1 h1 => ?_)
  refine tt_callV (st := []) (As := [.int x1]) C (kX8_isOrder C.2.2.2.2.2.2.2.1 h1) mi_X8_isOrder ml_RX8_185 mv_X8_isOrder ms_X8_isOrder (q := (RX8, TX8, 45)) dM_0 rfl rfl (by decide) (by decide) (Nat.le_of_ble_eq_true rfl) dX8_top_2 ?_
  refine tt_if (fun h2 => ?_) (fun h2 => ?_)
  · refine tt_if_neF C 10 h2 dX8_top_5 (by decide) ?_
    refine tt_iconst (v := (-1 : Int32)) C dX8_top_8 (by decide) ?_
    exact tt_iret rfl C hr dX8_top_9
  · refine tt_if_neT (tgt := 10) C h2 dX8_top_5 (by decide) ?_
    refine tt_aload_n C 0 dX8_top_10 rfl rfl ?_
    refine tt_bipush (v := (20 : Int32)) C dX8_top_11 (by decide) ?_
    refine tt_iload_n C 1 dX8_top_13 rfl rfl ?_
    refine tt_bv (fun m3 h3 => ?_)
    refine tt_callV (st := []) (As := [.int (20 : Int32), .int x1]) C (kX8_comesFirst C.2.2.2.2.2.2.2.1 h3) mi_X8_comesFirst ml_RX8_202 mv_X8_comesFirst ms_X8_comesFirst (q := (RX8, TX8, 45)) dM_0 rfl rfl (by decide) (by decide) (Nat.le_of_ble_eq_true rfl) dX8_top_14 ?_
    refine tt_aload_n C 0 dX8_top_17 rfl rfl ?_
    refine tt_bipush (v := (20 : Int32)) C dX8_top_18 (by decide) ?_
    refine tt_bi (fun v5 m4 h4 => ?_)
    refine tt_callV (st := []) (As := [.int (20 : Int32)]) C (kX8_codeOf C.2.2.2.2.2.2.2.1 h4) mi_X8_codeOf ml_RX8_179 mv_X8_codeOf ms_X8_codeOf (q := (RX8, TX8, 45)) dM_0 rfl rfl (by decide) (by decide) (Nat.le_of_ble_eq_true rfl) dX8_top_20 ?_
    exact tt_iret rfl C hr dX8_top_23
theorem kX8_top {l : Launch} {A : Nat → Prop} {D : va_G} {ad : Nat → Nat} {cA : Nat → ClassId} (hPk : Pk A dsM ad cA EM) {x1 : Int32} {μ : Mem} {v : Int32} {ν : Mem} (h : fX8_top x1 μ = some (v, ν)) : Ct l A dsM D ad cA EM yX8_top cX8_top 2 (some .int) 3 [.ref (ad 0), .int x1] μ (enI (v, ν)) :=
  ct_of (by decide) (Nat.le_of_ble_eq_true rfl) hPk rfl (fun p e s m args below meth c C hr => wX8_top C hr x1 μ) h

/-! BasketRoundModel.torn()I -/
def fX8_torn (μ : Mem) : Option (Int32 × Mem) := some ((μ 0 44), μ)
set_option maxHeartbeats 4000000 in
set_option maxRecDepth 100000 in
theorem wX8_torn {p : Program} {l : Launch} {e : Env} {s : State} {m : MethodId} {args : Array Value} {below : List Frame} {meth : Method} {c : Code} {A : Nat → Prop} {D : va_G} {ad : Nat → Nat} {cA : Nat → ClassId} (C : Cx p s m args meth c cX8_torn RX8 1 A dsM D ad cA EM) (hr : meth.sig.returnType = some .int) (μ : Mem) : T p l e (rmD 0) s m args below meth c 1 A dsM D ad cA enI (fX8_torn μ) 0 [(0, .ref (ad 0))] [] μ := by
  unfold fX8_torn
  refine tt_aload_n C 0 dX8_torn_0 rfl rfl ?_
  refine tt_getI C (j := 44) dM_0 rfl fl_RX8_306 dX8_torn_1 ?_
  exact tt_iret rfl C hr dX8_torn_4
theorem kX8_torn {l : Launch} {A : Nat → Prop} {D : va_G} {ad : Nat → Nat} {cA : Nat → ClassId} (hPk : Pk A dsM ad cA EM) {μ : Mem} {v : Int32} {ν : Mem} (h : fX8_torn μ = some (v, ν)) : Ct l A dsM D ad cA EM yX8_torn cX8_torn 1 (some .int) 0 [.ref (ad 0)] μ (enI (v, ν)) :=
  ct_of (by decide) (Nat.le_of_ble_eq_true rfl) hPk rfl (fun p e s m args below meth c C hr => wX8_torn C hr μ) h

/-! BasketRoundModel.turn(II)I -/
def fX8_turn_J26 (x1 : Int32) (x2 : Int32) (z1 : Int32) (μ : Mem) : Option (Int32 × Mem) := bi (fX8_puts z1 x1 x2 (0 : Int32) μ) fun v2 m1 => some (v2, m1)
set_option maxHeartbeats 4000000 in
set_option maxRecDepth 100000 in
theorem wX8_turn_J26 {p : Program} {l : Launch} {e : Env} {s : State} {m : MethodId} {args : Array Value} {below : List Frame} {meth : Method} {c : Code} {A : Nat → Prop} {D : va_G} {ad : Nat → Nat} {cA : Nat → ClassId} (C : Cx p s m args meth c cX8_turn RX8 3 A dsM D ad cA EM) (hr : meth.sig.returnType = some .int) (x1 : Int32) (x2 : Int32) (z1 : Int32) (μ : Mem) : T p l e (rmD 2) s m args below meth c 3 A dsM D ad cA enI (fX8_turn_J26 x1 x2 z1 μ) 26 [(1, .int x1), (2, .int x2)] [.int z1, .ref (ad 0)] μ := by
  unfold fX8_turn_J26
  refine tt_iload_n C 0 dX8_turn_26 rfl rfl ?_
  refine tt_iload_n C 1 dX8_turn_27 rfl rfl ?_
  refine tt_iconst (v := (0 : Int32)) C dX8_turn_28 (by decide) ?_
  refine tt_bi (fun v2 m1 h1 => ?_)
  refine tt_callV (st := []) (As := [.int z1, .int x1, .int x2, .int (0 : Int32)]) C (kX8_puts C.2.2.2.2.2.2.2.1 h1) mi_X8_puts ml_RX8_194 mv_X8_puts ms_X8_puts (q := (RX8, TX8, 45)) dM_0 rfl rfl (by decide) (by decide) (Nat.le_of_ble_eq_true rfl) dX8_turn_29 ?_
  exact tt_iret rfl C hr dX8_turn_32

def fX8_turn_J25 (x1 : Int32) (x2 : Int32) (μ : Mem) : Option (Int32 × Mem) := fX8_turn_J26 x1 x2 (0 : Int32) μ
set_option maxHeartbeats 4000000 in
set_option maxRecDepth 100000 in
theorem wX8_turn_J25 {p : Program} {l : Launch} {e : Env} {s : State} {m : MethodId} {args : Array Value} {below : List Frame} {meth : Method} {c : Code} {A : Nat → Prop} {D : va_G} {ad : Nat → Nat} {cA : Nat → ClassId} (C : Cx p s m args meth c cX8_turn RX8 3 A dsM D ad cA EM) (hr : meth.sig.returnType = some .int) (x1 : Int32) (x2 : Int32) (μ : Mem) : T p l e (rmD 2) s m args below meth c 3 A dsM D ad cA enI (fX8_turn_J25 x1 x2 μ) 25 [(1, .int x1), (2, .int x2)] [.ref (ad 0)] μ := by
  unfold fX8_turn_J25
  refine tt_iconst (v := (0 : Int32)) C dX8_turn_25 (by decide) ?_
  refine tt_sub [0, 1] (L2 := [(1, .int x1), (2, .int x2)]) rfl ?_
  exact wX8_turn_J26 C hr x1 x2 (0 : Int32) μ

def fX8_turn (x1 : Int32) (x2 : Int32) (μ : Mem) : Option (Int32 × Mem) := bi (fX8_isOrder x1 μ) fun v2 m1 => if v2 = (0 : Int32) then (fX8_turn_J25 x1 x2 m1) else (bi (fX8_in x2.toInt64 (0 : Int64) (4 : Int64) m1) fun v4 m3 => if v4 = (0 : Int32) then (fX8_turn_J25 x1 x2 m3) else (fX8_turn_J26 x1 x2 (1 : Int32) m3))
set_option maxHeartbeats 4000000 in
set_option maxRecDepth 100000 in
theorem wX8_turn {p : Program} {l : Launch} {e : Env} {s : State} {m : MethodId} {args : Array Value} {below : List Frame} {meth : Method} {c : Code} {A : Nat → Prop} {D : va_G} {ad : Nat → Nat} {cA : Nat → ClassId} (C : Cx p s m args meth c cX8_turn RX8 3 A dsM D ad cA EM) (hr : meth.sig.returnType = some .int) (x1 : Int32) (x2 : Int32) (μ : Mem) : T p l e (rmD 2) s m args below meth c 3 A dsM D ad cA enI (fX8_turn x1 x2 μ) 0 [(0, .ref (ad 0)), (1, .int x1), (2, .int x2)] [] μ := by
  unfold fX8_turn
  refine tt_aload_n C 0 dX8_turn_0 rfl rfl ?_
  refine tt_aload_n C 0 dX8_turn_1 rfl rfl ?_
  refine tt_iload_n C 1 dX8_turn_2 rfl rfl ?_
  refine tt_bi (fun v2 m1 h1 => ?_)
  refine tt_callV (st := [.ref (ad 0)]) (As := [.int x1]) C (kX8_isOrder C.2.2.2.2.2.2.2.1 h1) mi_X8_isOrder ml_RX8_185 mv_X8_isOrder ms_X8_isOrder (q := (RX8, TX8, 45)) dM_0 rfl rfl (by decide) (by decide) (Nat.le_of_ble_eq_true rfl) dX8_turn_3 ?_
  refine tt_if (fun h2 => ?_) (fun h2 => ?_)
  · refine tt_if_eqT (tgt := 25) C h2 dX8_turn_6 (by decide) ?_
    refine tt_sub [1, 2] (L2 := [(1, .int x1), (2, .int x2)]) rfl ?_
    exact wX8_turn_J25 C hr x1 x2 m1
  · refine tt_if_eqF C 25 h2 dX8_turn_6 (by decide) ?_
    refine tt_iload_n C 2 dX8_turn_9 rfl rfl ?_
    refine tt_i2l C dX8_turn_10 ?_
    refine tt_lconst (v := (0 : Int64)) C dX8_turn_11 (by decide) ?_
    refine tt_ldc2 (v := (4 : Int64)) C kL_RX8_129 dX8_turn_12 ?_
    refine tt_bi (fun v4 m3 h3 => ?_)
    refine tt_callS (st := [.ref (ad 0)]) (As := [.long x2.toInt64, .long (0 : Int64), .long (4 : Int64)]) C (kX8_in C.2.2.2.2.2.2.2.1 h3) mi_X8_in ml_RX8_70 mt_X8_in rfl (by decide) (by decide) (Nat.le_of_ble_eq_true rfl) dX8_turn_15 ?_
    refine tt_if (fun h4 => ?_) (fun h4 => ?_)
    · refine tt_if_eqT (tgt := 25) C h4 dX8_turn_18 (by decide) ?_
      refine tt_sub [1, 2] (L2 := [(1, .int x1), (2, .int x2)]) rfl ?_
      exact wX8_turn_J25 C hr x1 x2 m3
    · refine tt_if_eqF C 25 h4 dX8_turn_18 (by decide) ?_
      refine tt_iconst (v := (1 : Int32)) C dX8_turn_21 (by decide) ?_
      refine tt_goto (tgt := 26) C dX8_turn_22 (by decide) ?_
      refine tt_sub [1, 2] (L2 := [(1, .int x1), (2, .int x2)]) rfl ?_
      exact wX8_turn_J26 C hr x1 x2 (1 : Int32) m3
theorem kX8_turn {l : Launch} {A : Nat → Prop} {D : va_G} {ad : Nat → Nat} {cA : Nat → ClassId} (hPk : Pk A dsM ad cA EM) {x1 : Int32} {x2 : Int32} {μ : Mem} {v : Int32} {ν : Mem} (h : fX8_turn x1 x2 μ = some (v, ν)) : Ct l A dsM D ad cA EM yX8_turn cX8_turn 3 (some .int) 2 [.ref (ad 0), .int x1, .int x2] μ (enI (v, ν)) :=
  ct_of (by decide) (Nat.le_of_ble_eq_true rfl) hPk rfl (fun p e s m args below meth c C hr => wX8_turn C hr x1 x2 μ) h

/-! BasketRoundModel.two(II)I -/
def fX8_two_J48 (z0 : Int32) (μ : Mem) : Option (Int32 × Mem) := some (z0, μ)
set_option maxHeartbeats 4000000 in
set_option maxRecDepth 100000 in
theorem wX8_two_J48 {p : Program} {l : Launch} {e : Env} {s : State} {m : MethodId} {args : Array Value} {below : List Frame} {meth : Method} {c : Code} {A : Nat → Prop} {D : va_G} {ad : Nat → Nat} {cA : Nat → ClassId} (C : Cx p s m args meth c cX8_two RX8 4 A dsM D ad cA EM) (hr : meth.sig.returnType = some .int) (z0 : Int32) (μ : Mem) : T p l e (rmD 4) s m args below meth c 4 A dsM D ad cA enI (fX8_two_J48 z0 μ) 48 [] [.int z0] μ := by
  unfold fX8_two_J48
  exact tt_iret rfl C hr dX8_two_48

def fX8_two_J24 (μ : Mem) : Option (Int32 × Mem) := some ((-1 : Int32), μ)
set_option maxHeartbeats 4000000 in
set_option maxRecDepth 100000 in
theorem wX8_two_J24 {p : Program} {l : Launch} {e : Env} {s : State} {m : MethodId} {args : Array Value} {below : List Frame} {meth : Method} {c : Code} {A : Nat → Prop} {D : va_G} {ad : Nat → Nat} {cA : Nat → ClassId} (C : Cx p s m args meth c cX8_two RX8 4 A dsM D ad cA EM) (hr : meth.sig.returnType = some .int) (μ : Mem) : T p l e (rmD 4) s m args below meth c 4 A dsM D ad cA enI (fX8_two_J24 μ) 24 [] [] μ := by
  unfold fX8_two_J24
  refine tt_iconst (v := (-1 : Int32)) C dX8_two_24 (by decide) ?_
  exact tt_iret rfl C hr dX8_two_25

def fX8_two (x1 : Int32) (x2 : Int32) (μ : Mem) : Option (Int32 × Mem) := bi (fX8_every μ) fun v2 m1 => bi (fX8_in x1.toInt64 (0 : Int64) v2.toInt64 m1) fun v4 m3 => if v4 = (0 : Int32) then (fX8_two_J24 m3) else (bi (fX8_in x2.toInt64 (0 : Int64) (1 : Int64) m3) fun v6 m5 => if v6 = (0 : Int32) then (fX8_two_J24 m5) else (bi (fX8_twice x1 m5) fun v8 m7 => if x2 = (0 : Int32) then (bi (fX8_every m7) fun v10 m9 => bi (fX8_penniesOf v10 m9) fun v12 m11 => fX8_two_J48 v12 m11) else (fX8_two_J48 v8 m7)))
set_option maxHeartbeats 4000000 in
set_option maxRecDepth 100000 in
theorem wX8_two {p : Program} {l : Launch} {e : Env} {s : State} {m : MethodId} {args : Array Value} {below : List Frame} {meth : Method} {c : Code} {A : Nat → Prop} {D : va_G} {ad : Nat → Nat} {cA : Nat → ClassId} (C : Cx p s m args meth c cX8_two RX8 4 A dsM D ad cA EM) (hr : meth.sig.returnType = some .int) (x1 : Int32) (x2 : Int32) (μ : Mem) : T p l e (rmD 4) s m args below meth c 4 A dsM D ad cA enI (fX8_two x1 x2 μ) 0 [(0, .ref (ad 0)), (1, .int x1), (2, .int x2)] [] μ := by
  unfold fX8_two
  refine tt_iload_n C 1 dX8_two_0 rfl rfl ?_
  refine tt_i2l C dX8_two_1 ?_
  refine tt_lconst (v := (0 : Int64)) C dX8_two_2 (by decide) ?_
  refine tt_aload_n C 0 dX8_two_3 rfl rfl ?_
  refine tt_bi (fun v2 m1 h1 => ?_)
  refine tt_callV (st := [.long (0 : Int64), .long x1.toInt64]) (As := []) C (kX8_every C.2.2.2.2.2.2.2.1 h1) mi_X8_every ml_RX8_239 mv_X8_every ms_X8_every (q := (RX8, TX8, 45)) dM_0 rfl rfl (by decide) (by decide) (Nat.le_of_ble_eq_true rfl) dX8_two_4 ?_
  refine tt_i2l C dX8_two_7 ?_
  refine tt_bi (fun v4 m3 h2 => ?_)
  refine tt_callS (st := []) (As := [.long x1.toInt64, .long (0 : Int64), .long v2.toInt64]) C (kX8_in C.2.2.2.2.2.2.2.1 h2) mi_X8_in ml_RX8_70 mt_X8_in rfl (by decide) (by decide) (Nat.le_of_ble_eq_true rfl) dX8_two_8 ?_
  refine tt_if (fun h3 => ?_) (fun h3 => ?_)
  · refine tt_if_eqT (tgt := 24) C h3 dX8_two_11 (by decide) ?_
    refine tt_sub [] (L2 := []) rfl ?_
    exact wX8_two_J24 C hr m3
  · refine tt_if_eqF C 24 h3 dX8_two_11 (by decide) ?_
    refine tt_iload_n C 2 dX8_two_14 rfl rfl ?_
    refine tt_i2l C dX8_two_15 ?_
    refine tt_lconst (v := (0 : Int64)) C dX8_two_16 (by decide) ?_
    refine tt_lconst (v := (1 : Int64)) C dX8_two_17 (by decide) ?_
    refine tt_bi (fun v6 m5 h4 => ?_)
    refine tt_callS (st := []) (As := [.long x2.toInt64, .long (0 : Int64), .long (1 : Int64)]) C (kX8_in C.2.2.2.2.2.2.2.1 h4) mi_X8_in ml_RX8_70 mt_X8_in rfl (by decide) (by decide) (Nat.le_of_ble_eq_true rfl) dX8_two_18 ?_
    refine tt_if (fun h5 => ?_) (fun h5 => ?_)
    · refine tt_if_neF C 26 h5 dX8_two_21 (by decide) ?_
      refine tt_sub [] (L2 := []) rfl ?_
      exact wX8_two_J24 C hr m5
    · refine tt_if_neT (tgt := 26) C h5 dX8_two_21 (by decide) ?_
      refine tt_aload_n C 0 dX8_two_26 rfl rfl ?_
      refine tt_iload_n C 1 dX8_two_27 rfl rfl ?_
      refine tt_bi (fun v8 m7 h6 => ?_)
      refine tt_callV (st := []) (As := [.int x1]) C (kX8_twice C.2.2.2.2.2.2.2.1 h6) mi_X8_twice ml_RX8_281 mv_X8_twice ms_X8_twice (q := (RX8, TX8, 45)) dM_0 rfl rfl (by decide) (by decide) (Nat.le_of_ble_eq_true rfl) dX8_two_28 ?_
      refine tt_istore_n (L2 := [(3, .int v8), (0, .ref (ad 0)), (1, .int x1), (2, .int x2)]) C dX8_two_31 rfl (by decide) rfl ?_
      refine tt_iload_n C 3 dX8_two_32 rfl rfl ?_
      refine tt_if (fun h7 => ?_) (fun h7 => ?_)
      · refine tt_if_neF C 47 h7 dX8_two_33 (by decide) ?_
        refine tt_aload_n C 1 dX8_two_36 rfl rfl ?_
        refine tt_aload_n C 1 dX8_two_37 rfl rfl ?_
        refine tt_bi (fun v10 m9 h8 => ?_)
        refine tt_callV (st := [.ref (ad 0)]) (As := []) C (kX8_every C.2.2.2.2.2.2.2.1 h8) mi_X8_every ml_RX8_239 mv_X8_every ms_X8_every (q := (RX8, TX8, 45)) dM_0 rfl rfl (by decide) (by decide) (Nat.le_of_ble_eq_true rfl) dX8_two_38 ?_
        refine tt_bi (fun v12 m11 h9 => ?_)
        refine tt_callV (st := []) (As := [.int v10]) C (kX8_penniesOf C.2.2.2.2.2.2.2.1 h9) mi_X8_penniesOf ml_RX8_248 mv_X8_penniesOf ms_X8_penniesOf (q := (RX8, TX8, 45)) dM_0 rfl rfl (by decide) (by decide) (Nat.le_of_ble_eq_true rfl) dX8_two_41 ?_
        refine tt_goto (tgt := 48) C dX8_two_44 (by decide) ?_
        refine tt_sub [] (L2 := []) rfl ?_
        exact wX8_two_J48 C hr v12 m11
      · refine tt_if_neT (tgt := 47) C h7 dX8_two_33 (by decide) ?_
        refine tt_iload_n C 0 dX8_two_47 rfl rfl ?_
        refine tt_sub [] (L2 := []) rfl ?_
        exact wX8_two_J48 C hr v8 m7
theorem kX8_two {l : Launch} {A : Nat → Prop} {D : va_G} {ad : Nat → Nat} {cA : Nat → ClassId} (hPk : Pk A dsM ad cA EM) {x1 : Int32} {x2 : Int32} {μ : Mem} {v : Int32} {ν : Mem} (h : fX8_two x1 x2 μ = some (v, ν)) : Ct l A dsM D ad cA EM yX8_two cX8_two 4 (some .int) 4 [.ref (ad 0), .int x1, .int x2] μ (enI (v, ν)) :=
  ct_of (by decide) (Nat.le_of_ble_eq_true rfl) hPk rfl (fun p e s m args below meth c C hr => wX8_two C hr x1 x2 μ) h

/-! BasketRoundModel.undo(I)I -/
def fX8_undo (x1 : Int32) (μ : Mem) : Option (Int32 × Mem) := bi (fX8_in x1.toInt64 (0 : Int64) (1 : Int64) μ) fun v2 m1 => if v2 = (0 : Int32) then (some ((-1 : Int32), m1)) else (gr x1 2 <| if (m1 16 x1.toNatClampNeg) = (0 : Int32) then (some ((-2 : Int32), m1)) else (bv (fX8_copies ((32 : Int32) * (x1 + (1 : Int32))) (0 : Int32) m1) fun m3 => gr (31 : Int32) 160 <| some ((m3 1 (31 : Int32).toNatClampNeg), m3)))
set_option maxHeartbeats 4000000 in
set_option maxRecDepth 100000 in
theorem wX8_undo {p : Program} {l : Launch} {e : Env} {s : State} {m : MethodId} {args : Array Value} {below : List Frame} {meth : Method} {c : Code} {A : Nat → Prop} {D : va_G} {ad : Nat → Nat} {cA : Nat → ClassId} (C : Cx p s m args meth c cX8_undo RX8 2 A dsM D ad cA EM) (hr : meth.sig.returnType = some .int) (x1 : Int32) (μ : Mem) : T p l e (rmD 1) s m args below meth c 2 A dsM D ad cA enI (fX8_undo x1 μ) 0 [(0, .ref (ad 0)), (1, .int x1)] [] μ := by
  unfold fX8_undo
  refine tt_iload_n C 1 dX8_undo_0 rfl rfl ?_
  refine tt_i2l C dX8_undo_1 ?_
  refine tt_lconst (v := (0 : Int64)) C dX8_undo_2 (by decide) ?_
  refine tt_lconst (v := (1 : Int64)) C dX8_undo_3 (by decide) ?_
  refine tt_bi (fun v2 m1 h1 => ?_)
  refine tt_callS (st := []) (As := [.long x1.toInt64, .long (0 : Int64), .long (1 : Int64)]) C (kX8_in C.2.2.2.2.2.2.2.1 h1) mi_X8_in ml_RX8_70 mt_X8_in rfl (by decide) (by decide) (Nat.le_of_ble_eq_true rfl) dX8_undo_4 ?_
  refine tt_if (fun h2 => ?_) (fun h2 => ?_)
  · refine tt_if_neF C 12 h2 dX8_undo_7 (by decide) ?_
    refine tt_iconst (v := (-1 : Int32)) C dX8_undo_10 (by decide) ?_
    exact tt_iret rfl C hr dX8_undo_11
  · refine tt_if_neT (tgt := 12) C h2 dX8_undo_7 (by decide) ?_
    refine tt_aload_n C 0 dX8_undo_12 rfl rfl ?_
    refine tt_getR C (j := 40) (r0 := 16) dM_0 rfl fl_RX8_55 dX8_undo_13 ?_
    refine tt_iload_n C 1 dX8_undo_16 rfl rfl ?_
    refine tt_gr (fun h3 => ?_)
    refine tt_zald C dM_16 h3 dX8_undo_17 ?_
    refine tt_if (fun h4 => ?_) (fun h4 => ?_)
    · refine tt_if_neF C 24 h4 dX8_undo_18 (by decide) ?_
      refine tt_bipush (v := (-2 : Int32)) C dX8_undo_21 (by decide) ?_
      exact tt_iret rfl C hr dX8_undo_23
    · refine tt_if_neT (tgt := 24) C h4 dX8_undo_18 (by decide) ?_
      refine tt_aload_n C 0 dX8_undo_24 rfl rfl ?_
      refine tt_bipush (v := (32 : Int32)) C dX8_undo_25 (by decide) ?_
      refine tt_iload_n C 1 dX8_undo_27 rfl rfl ?_
      refine tt_iconst (v := (1 : Int32)) C dX8_undo_28 (by decide) ?_
      refine tt_iadd C dX8_undo_29 ?_
      refine tt_imul C dX8_undo_30 ?_
      refine tt_iconst (v := (0 : Int32)) C dX8_undo_31 (by decide) ?_
      refine tt_bv (fun m3 h5 => ?_)
      refine tt_callV (st := []) (As := [.int ((32 : Int32) * (x1 + (1 : Int32))), .int (0 : Int32)]) C (kX8_copies C.2.2.2.2.2.2.2.1 h5) mi_X8_copies ml_RX8_300 mv_X8_copies ms_X8_copies (q := (RX8, TX8, 45)) dM_0 rfl rfl (by decide) (by decide) (Nat.le_of_ble_eq_true rfl) dX8_undo_32 ?_
      refine tt_aload_n C 0 dX8_undo_35 rfl rfl ?_
      refine tt_getR C (j := 0) (r0 := 1) dM_0 rfl fl_RX8_7 dX8_undo_36 ?_
      refine tt_bipush (v := (31 : Int32)) C dX8_undo_39 (by decide) ?_
      refine tt_gr (fun h6 => ?_)
      refine tt_iald C dM_1 h6 dX8_undo_41 ?_
      exact tt_iret rfl C hr dX8_undo_42
theorem kX8_undo {l : Launch} {A : Nat → Prop} {D : va_G} {ad : Nat → Nat} {cA : Nat → ClassId} (hPk : Pk A dsM ad cA EM) {x1 : Int32} {μ : Mem} {v : Int32} {ν : Mem} (h : fX8_undo x1 μ = some (v, ν)) : Ct l A dsM D ad cA EM yX8_undo cX8_undo 2 (some .int) 1 [.ref (ad 0), .int x1] μ (enI (v, ν)) :=
  ct_of (by decide) (Nat.le_of_ble_eq_true rfl) hPk rfl (fun p e s m args below meth c C hr => wX8_undo C hr x1 μ) h

/-! BasketRoundModel.way(III)I -/
def fX8_way_J51 (z0 : Int32) (μ : Mem) : Option (Int32 × Mem) := some (z0, μ)
set_option maxHeartbeats 4000000 in
set_option maxRecDepth 100000 in
theorem wX8_way_J51 {p : Program} {l : Launch} {e : Env} {s : State} {m : MethodId} {args : Array Value} {below : List Frame} {meth : Method} {c : Code} {A : Nat → Prop} {D : va_G} {ad : Nat → Nat} {cA : Nat → ClassId} (C : Cx p s m args meth c cX8_way RX8 4 A dsM D ad cA EM) (hr : meth.sig.returnType = some .int) (z0 : Int32) (μ : Mem) : T p l e (rmD 2) s m args below meth c 4 A dsM D ad cA enI (fX8_way_J51 z0 μ) 51 [] [.int z0] μ := by
  unfold fX8_way_J51
  exact tt_iret rfl C hr dX8_way_51

def fX8_way_J50 (μ : Mem) : Option (Int32 × Mem) := fX8_way_J51 (-1 : Int32) μ
set_option maxHeartbeats 4000000 in
set_option maxRecDepth 100000 in
theorem wX8_way_J50 {p : Program} {l : Launch} {e : Env} {s : State} {m : MethodId} {args : Array Value} {below : List Frame} {meth : Method} {c : Code} {A : Nat → Prop} {D : va_G} {ad : Nat → Nat} {cA : Nat → ClassId} (C : Cx p s m args meth c cX8_way RX8 4 A dsM D ad cA EM) (hr : meth.sig.returnType = some .int) (μ : Mem) : T p l e (rmD 2) s m args below meth c 4 A dsM D ad cA enI (fX8_way_J50 μ) 50 [] [] μ := by
  unfold fX8_way_J50
  refine tt_iconst (v := (-1 : Int32)) C dX8_way_50 (by decide) ?_
  refine tt_sub [] (L2 := []) rfl ?_
  exact wX8_way_J51 C hr (-1 : Int32) μ

def fX8_way (x1 : Int32) (x2 : Int32) (x3 : Int32) (μ : Mem) : Option (Int32 × Mem) := bi (fX8_in x1.toInt64 (0 : Int64) ((μ 0 3).toInt64) μ) fun v2 m1 => if v2 = (0 : Int32) then (fX8_way_J50 m1) else (bi (fX8_in x2.toInt64 (0 : Int64) ((m1 0 3).toInt64) m1) fun v4 m3 => if v4 = (0 : Int32) then (fX8_way_J50 m3) else (bi (fX8_in x3.toInt64 (0 : Int64) (60 : Int64) m3) fun v6 m5 => if v6 = (0 : Int32) then (fX8_way_J50 m5) else (bi (fX8_wayOf x1 x2 x3 m5) fun v8 m7 => fX8_way_J51 v8 m7)))
set_option maxHeartbeats 4000000 in
set_option maxRecDepth 100000 in
theorem wX8_way {p : Program} {l : Launch} {e : Env} {s : State} {m : MethodId} {args : Array Value} {below : List Frame} {meth : Method} {c : Code} {A : Nat → Prop} {D : va_G} {ad : Nat → Nat} {cA : Nat → ClassId} (C : Cx p s m args meth c cX8_way RX8 4 A dsM D ad cA EM) (hr : meth.sig.returnType = some .int) (x1 : Int32) (x2 : Int32) (x3 : Int32) (μ : Mem) : T p l e (rmD 2) s m args below meth c 4 A dsM D ad cA enI (fX8_way x1 x2 x3 μ) 0 [(0, .ref (ad 0)), (1, .int x1), (2, .int x2), (3, .int x3)] [] μ := by
  unfold fX8_way
  refine tt_iload_n C 1 dX8_way_0 rfl rfl ?_
  refine tt_i2l C dX8_way_1 ?_
  refine tt_lconst (v := (0 : Int64)) C dX8_way_2 (by decide) ?_
  refine tt_aload_n C 0 dX8_way_3 rfl rfl ?_
  refine tt_getI C (j := 3) dM_0 rfl fl_RX8_164 dX8_way_4 ?_
  refine tt_i2l C dX8_way_7 ?_
  refine tt_bi (fun v2 m1 h1 => ?_)
  refine tt_callS (st := []) (As := [.long x1.toInt64, .long (0 : Int64), .long ((μ 0 3).toInt64)]) C (kX8_in C.2.2.2.2.2.2.2.1 h1) mi_X8_in ml_RX8_70 mt_X8_in rfl (by decide) (by decide) (Nat.le_of_ble_eq_true rfl) dX8_way_8 ?_
  refine tt_if (fun h2 => ?_) (fun h2 => ?_)
  · refine tt_if_eqT (tgt := 50) C h2 dX8_way_11 (by decide) ?_
    refine tt_sub [] (L2 := []) rfl ?_
    exact wX8_way_J50 C hr m1
  · refine tt_if_eqF C 50 h2 dX8_way_11 (by decide) ?_
    refine tt_iload_n C 2 dX8_way_14 rfl rfl ?_
    refine tt_i2l C dX8_way_15 ?_
    refine tt_lconst (v := (0 : Int64)) C dX8_way_16 (by decide) ?_
    refine tt_aload_n C 0 dX8_way_17 rfl rfl ?_
    refine tt_getI C (j := 3) dM_0 rfl fl_RX8_164 dX8_way_18 ?_
    refine tt_i2l C dX8_way_21 ?_
    refine tt_bi (fun v4 m3 h3 => ?_)
    refine tt_callS (st := []) (As := [.long x2.toInt64, .long (0 : Int64), .long ((m1 0 3).toInt64)]) C (kX8_in C.2.2.2.2.2.2.2.1 h3) mi_X8_in ml_RX8_70 mt_X8_in rfl (by decide) (by decide) (Nat.le_of_ble_eq_true rfl) dX8_way_22 ?_
    refine tt_if (fun h4 => ?_) (fun h4 => ?_)
    · refine tt_if_eqT (tgt := 50) C h4 dX8_way_25 (by decide) ?_
      refine tt_sub [] (L2 := []) rfl ?_
      exact wX8_way_J50 C hr m3
    · refine tt_if_eqF C 50 h4 dX8_way_25 (by decide) ?_
      refine tt_iload_n C 3 dX8_way_28 rfl rfl ?_
      refine tt_i2l C dX8_way_29 ?_
      refine tt_lconst (v := (0 : Int64)) C dX8_way_30 (by decide) ?_
      refine tt_ldc2 (v := (60 : Int64)) C kL_RX8_192 dX8_way_31 ?_
      refine tt_bi (fun v6 m5 h5 => ?_)
      refine tt_callS (st := []) (As := [.long x3.toInt64, .long (0 : Int64), .long (60 : Int64)]) C (kX8_in C.2.2.2.2.2.2.2.1 h5) mi_X8_in ml_RX8_70 mt_X8_in rfl (by decide) (by decide) (Nat.le_of_ble_eq_true rfl) dX8_way_34 ?_
      refine tt_if (fun h6 => ?_) (fun h6 => ?_)
      · refine tt_if_eqT (tgt := 50) C h6 dX8_way_37 (by decide) ?_
        refine tt_sub [] (L2 := []) rfl ?_
        exact wX8_way_J50 C hr m5
      · refine tt_if_eqF C 50 h6 dX8_way_37 (by decide) ?_
        refine tt_aload_n C 0 dX8_way_40 rfl rfl ?_
        refine tt_iload_n C 1 dX8_way_41 rfl rfl ?_
        refine tt_iload_n C 2 dX8_way_42 rfl rfl ?_
        refine tt_iload_n C 3 dX8_way_43 rfl rfl ?_
        refine tt_bi (fun v8 m7 h7 => ?_)
        refine tt_callV (st := []) (As := [.int x1, .int x2, .int x3]) C (kX8_wayOf C.2.2.2.2.2.2.2.1 h7) mi_X8_wayOf ml_RX8_209 mv_X8_wayOf ms_X8_wayOf (q := (RX8, TX8, 45)) dM_0 rfl rfl (by decide) (by decide) (Nat.le_of_ble_eq_true rfl) dX8_way_44 ?_
        refine tt_goto (tgt := 51) C dX8_way_47 (by decide) ?_
        refine tt_sub [] (L2 := []) rfl ?_
        exact wX8_way_J51 C hr v8 m7
theorem kX8_way {l : Launch} {A : Nat → Prop} {D : va_G} {ad : Nat → Nat} {cA : Nat → ClassId} (hPk : Pk A dsM ad cA EM) {x1 : Int32} {x2 : Int32} {x3 : Int32} {μ : Mem} {v : Int32} {ν : Mem} (h : fX8_way x1 x2 x3 μ = some (v, ν)) : Ct l A dsM D ad cA EM yX8_way cX8_way 4 (some .int) 2 [.ref (ad 0), .int x1, .int x2, .int x3] μ (enI (v, ν)) :=
  ct_of (by decide) (Nat.le_of_ble_eq_true rfl) hPk rfl (fun p e s m args below meth c C hr => wX8_way C hr x1 x2 x3 μ) h

/-! BasketRoundModel.weigh(II)I -/
def fX8_weigh_J26 (x1 : Int32) (x2 : Int32) (z1 : Int32) (μ : Mem) : Option (Int32 × Mem) := bi (fX8_puts z1 ((5 : Int32) + x1) x2 (0 : Int32) μ) fun v2 m1 => some (v2, m1)
set_option maxHeartbeats 4000000 in
set_option maxRecDepth 100000 in
theorem wX8_weigh_J26 {p : Program} {l : Launch} {e : Env} {s : State} {m : MethodId} {args : Array Value} {below : List Frame} {meth : Method} {c : Code} {A : Nat → Prop} {D : va_G} {ad : Nat → Nat} {cA : Nat → ClassId} (C : Cx p s m args meth c cX8_weigh RX8 3 A dsM D ad cA EM) (hr : meth.sig.returnType = some .int) (x1 : Int32) (x2 : Int32) (z1 : Int32) (μ : Mem) : T p l e (rmD 2) s m args below meth c 3 A dsM D ad cA enI (fX8_weigh_J26 x1 x2 z1 μ) 26 [(1, .int x1), (2, .int x2)] [.int z1, .ref (ad 0)] μ := by
  unfold fX8_weigh_J26
  refine tt_iconst (v := (5 : Int32)) C dX8_weigh_26 (by decide) ?_
  refine tt_iload_n C 0 dX8_weigh_27 rfl rfl ?_
  refine tt_iadd C dX8_weigh_28 ?_
  refine tt_iload_n C 1 dX8_weigh_29 rfl rfl ?_
  refine tt_iconst (v := (0 : Int32)) C dX8_weigh_30 (by decide) ?_
  refine tt_bi (fun v2 m1 h1 => ?_)
  refine tt_callV (st := []) (As := [.int z1, .int ((5 : Int32) + x1), .int x2, .int (0 : Int32)]) C (kX8_puts C.2.2.2.2.2.2.2.1 h1) mi_X8_puts ml_RX8_194 mv_X8_puts ms_X8_puts (q := (RX8, TX8, 45)) dM_0 rfl rfl (by decide) (by decide) (Nat.le_of_ble_eq_true rfl) dX8_weigh_31 ?_
  exact tt_iret rfl C hr dX8_weigh_34

def fX8_weigh_J25 (x1 : Int32) (x2 : Int32) (μ : Mem) : Option (Int32 × Mem) := fX8_weigh_J26 x1 x2 (0 : Int32) μ
set_option maxHeartbeats 4000000 in
set_option maxRecDepth 100000 in
theorem wX8_weigh_J25 {p : Program} {l : Launch} {e : Env} {s : State} {m : MethodId} {args : Array Value} {below : List Frame} {meth : Method} {c : Code} {A : Nat → Prop} {D : va_G} {ad : Nat → Nat} {cA : Nat → ClassId} (C : Cx p s m args meth c cX8_weigh RX8 3 A dsM D ad cA EM) (hr : meth.sig.returnType = some .int) (x1 : Int32) (x2 : Int32) (μ : Mem) : T p l e (rmD 2) s m args below meth c 3 A dsM D ad cA enI (fX8_weigh_J25 x1 x2 μ) 25 [(1, .int x1), (2, .int x2)] [.ref (ad 0)] μ := by
  unfold fX8_weigh_J25
  refine tt_iconst (v := (0 : Int32)) C dX8_weigh_25 (by decide) ?_
  refine tt_sub [0, 1] (L2 := [(1, .int x1), (2, .int x2)]) rfl ?_
  exact wX8_weigh_J26 C hr x1 x2 (0 : Int32) μ

def fX8_weigh (x1 : Int32) (x2 : Int32) (μ : Mem) : Option (Int32 × Mem) := bi (fX8_isOrder x1 μ) fun v2 m1 => if v2 = (0 : Int32) then (fX8_weigh_J25 x1 x2 m1) else (bi (fX8_in x2.toInt64 (1 : Int64) (9 : Int64) m1) fun v4 m3 => if v4 = (0 : Int32) then (fX8_weigh_J25 x1 x2 m3) else (fX8_weigh_J26 x1 x2 (1 : Int32) m3))
set_option maxHeartbeats 4000000 in
set_option maxRecDepth 100000 in
theorem wX8_weigh {p : Program} {l : Launch} {e : Env} {s : State} {m : MethodId} {args : Array Value} {below : List Frame} {meth : Method} {c : Code} {A : Nat → Prop} {D : va_G} {ad : Nat → Nat} {cA : Nat → ClassId} (C : Cx p s m args meth c cX8_weigh RX8 3 A dsM D ad cA EM) (hr : meth.sig.returnType = some .int) (x1 : Int32) (x2 : Int32) (μ : Mem) : T p l e (rmD 2) s m args below meth c 3 A dsM D ad cA enI (fX8_weigh x1 x2 μ) 0 [(0, .ref (ad 0)), (1, .int x1), (2, .int x2)] [] μ := by
  unfold fX8_weigh
  refine tt_aload_n C 0 dX8_weigh_0 rfl rfl ?_
  refine tt_aload_n C 0 dX8_weigh_1 rfl rfl ?_
  refine tt_iload_n C 1 dX8_weigh_2 rfl rfl ?_
  refine tt_bi (fun v2 m1 h1 => ?_)
  refine tt_callV (st := [.ref (ad 0)]) (As := [.int x1]) C (kX8_isOrder C.2.2.2.2.2.2.2.1 h1) mi_X8_isOrder ml_RX8_185 mv_X8_isOrder ms_X8_isOrder (q := (RX8, TX8, 45)) dM_0 rfl rfl (by decide) (by decide) (Nat.le_of_ble_eq_true rfl) dX8_weigh_3 ?_
  refine tt_if (fun h2 => ?_) (fun h2 => ?_)
  · refine tt_if_eqT (tgt := 25) C h2 dX8_weigh_6 (by decide) ?_
    refine tt_sub [1, 2] (L2 := [(1, .int x1), (2, .int x2)]) rfl ?_
    exact wX8_weigh_J25 C hr x1 x2 m1
  · refine tt_if_eqF C 25 h2 dX8_weigh_6 (by decide) ?_
    refine tt_iload_n C 2 dX8_weigh_9 rfl rfl ?_
    refine tt_i2l C dX8_weigh_10 ?_
    refine tt_lconst (v := (1 : Int64)) C dX8_weigh_11 (by decide) ?_
    refine tt_ldc2 (v := (9 : Int64)) C kL_RX8_205 dX8_weigh_12 ?_
    refine tt_bi (fun v4 m3 h3 => ?_)
    refine tt_callS (st := [.ref (ad 0)]) (As := [.long x2.toInt64, .long (1 : Int64), .long (9 : Int64)]) C (kX8_in C.2.2.2.2.2.2.2.1 h3) mi_X8_in ml_RX8_70 mt_X8_in rfl (by decide) (by decide) (Nat.le_of_ble_eq_true rfl) dX8_weigh_15 ?_
    refine tt_if (fun h4 => ?_) (fun h4 => ?_)
    · refine tt_if_eqT (tgt := 25) C h4 dX8_weigh_18 (by decide) ?_
      refine tt_sub [1, 2] (L2 := [(1, .int x1), (2, .int x2)]) rfl ?_
      exact wX8_weigh_J25 C hr x1 x2 m3
    · refine tt_if_eqF C 25 h4 dX8_weigh_18 (by decide) ?_
      refine tt_iconst (v := (1 : Int32)) C dX8_weigh_21 (by decide) ?_
      refine tt_goto (tgt := 26) C dX8_weigh_22 (by decide) ?_
      refine tt_sub [1, 2] (L2 := [(1, .int x1), (2, .int x2)]) rfl ?_
      exact wX8_weigh_J26 C hr x1 x2 (1 : Int32) m3
theorem kX8_weigh {l : Launch} {A : Nat → Prop} {D : va_G} {ad : Nat → Nat} {cA : Nat → ClassId} (hPk : Pk A dsM ad cA EM) {x1 : Int32} {x2 : Int32} {μ : Mem} {v : Int32} {ν : Mem} (h : fX8_weigh x1 x2 μ = some (v, ν)) : Ct l A dsM D ad cA EM yX8_weigh cX8_weigh 3 (some .int) 2 [.ref (ad 0), .int x1, .int x2] μ (enI (v, ν)) :=
  ct_of (by decide) (Nat.le_of_ble_eq_true rfl) hPk rfl (fun p e s m args below meth c C hr => wX8_weigh C hr x1 x2 μ) h

