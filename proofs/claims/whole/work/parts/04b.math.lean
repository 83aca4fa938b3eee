section TM
variable {p : Program} {l : Launch} {e : Env} {R : Room} {s : State} {m : MethodId} {args : Array Value} {below : List Frame} {meth : Method} {c : Code} {cc : ByteArray} {own : String} {nL : Nat} {A : Nat → Prop} {ds : List dsE} {D : va_G} {ad : Nat → Nat} {cA : Nat → ClassId} {E : State → Prop} {ρ : Type} {en : ρ → Option Value × Mem} {x : Option ρ} {pc : Nat} {L : List (Nat × Value)} {st : List Value} {μ : Mem}
theorem ini_Math : Cond.initialized "java/lang/Math" ∈ GW := gw_of 78 (by decide +kernel) (by decide +kernel)
theorem mt_Math_max : Cond.static Lib.Math.max.name ∈ GW := gw_of 645 (by decide +kernel) (by decide +kernel)
theorem cd_Math_max : Cond.code Lib.Math.max.name Lib.Math.max.code 2 (some .int) ∈ GW := gw_of 646 (by decide +kernel) (by decide +kernel)
def imax (x1 y1 : Int32) : Int32 := if x1 < y1 then y1 else x1
theorem tt_mmax (C : Cx p s m args meth c cc own nL A ds D ad cA E) {index : Nat} {x1 y1 : Int32} (hl : Cond.methodLink own index Lib.Math.max.name ∈ GW) (hR1 : 1 ≤ R.frames) (hR2 : 21 ≤ R.locals) (hst : (st.map fun v => v.category).sum ≤ 8) (hdg : decode cc pc = .ok (.invokestatic index, 3)) (k : T p l e R s m args below meth c nL A ds D ad cA en x (pc + 3) L (.int (imax x1 y1) :: st) μ) : T p l e R s m args below meth c nL A ds D ad cA en x pc L (.int y1 :: .int x1 :: st) μ := fun r hr H locs ls hP hS hL => va_mmax C.1 C.2.1 (C.2.2.1.trans hL.1.symm) C.2.2.2.1 (C.2.2.2.2.1 _ hl) (C.2.2.2.2.1 _ mt_Math_max) (C.2.2.2.2.1 _ ini_Math) (C.2.2.2.2.1 _ cd_Math_max) hR1 (by omega) (Nat.zero_le _) (Nat.zero_le _) hdg (k r hr H locs ls hP hS hL)
theorem mt_Math_min : Cond.static Lib.Math.min.name ∈ GW := gw_of 642 (by decide +kernel) (by decide +kernel)
theorem cd_Math_min : Cond.code Lib.Math.min.name Lib.Math.min.code 2 (some .int) ∈ GW := gw_of 643 (by decide +kernel) (by decide +kernel)
def imin (x1 y1 : Int32) : Int32 := if y1 < x1 then y1 else x1
theorem tt_mmin (C : Cx p s m args meth c cc own nL A ds D ad cA E) {index : Nat} {x1 y1 : Int32} (hl : Cond.methodLink own index Lib.Math.min.name ∈ GW) (hR1 : 1 ≤ R.frames) (hR2 : 21 ≤ R.locals) (hst : (st.map fun v => v.category).sum ≤ 8) (hdg : decode cc pc = .ok (.invokestatic index, 3)) (k : T p l e R s m args below meth c nL A ds D ad cA en x (pc + 3) L (.int (imin x1 y1) :: st) μ) : T p l e R s m args below meth c nL A ds D ad cA en x pc L (.int y1 :: .int x1 :: st) μ := fun r hr H locs ls hP hS hL => va_mmin C.1 C.2.1 (C.2.2.1.trans hL.1.symm) C.2.2.2.1 (C.2.2.2.2.1 _ hl) (C.2.2.2.2.1 _ mt_Math_min) (C.2.2.2.2.1 _ ini_Math) (C.2.2.2.2.1 _ cd_Math_min) hR1 (by omega) (Nat.zero_le _) (Nat.zero_le _) hdg (k r hr H locs ls hP hS hL)
end TM
theorem mm_RX7_287 : Cond.methodLink RX7 287 Lib.Math.max.name ∈ GW := gw_of 838 (by decide +kernel) (by decide +kernel)
theorem mm_RX7_292 : Cond.methodLink RX7 292 Lib.Math.min.name ∈ GW := gw_of 839 (by decide +kernel) (by decide +kernel)
theorem mm_RX4_47 : Cond.methodLink RX4 47 Lib.Math.min.name ∈ GW := gw_of 641 (by decide +kernel) (by decide +kernel)
theorem mm_RX4_52 : Cond.methodLink RX4 52 Lib.Math.max.name ∈ GW := gw_of 644 (by decide +kernel) (by decide +kernel)
