theorem sf_val : Cond.fieldLink RJ0 9 "java/lang/String" "value" "[B" ∈ GW := gw_of 1373 (by decide +kernel) (by decide +kernel)
theorem sf_cod : Cond.fieldLink RJ0 15 "java/lang/String" "coder" "B" ∈ GW := gw_of 1374 (by decide +kernel) (by decide +kernel)
theorem sf_cmp : Cond.fieldLink RJ0 38 "java/lang/String" "COMPACT_STRINGS" "Z" ∈ GW := gw_of 428 (by decide +kernel) (by decide +kernel)
theorem sf_sio : Cond.fieldLink RJ0 1053 "jdk/internal/util/Preconditions" "SIOOBE_FORMATTER" "Ljava/util/function/BiFunction;" ∈ GW := gw_of 444 (by decide +kernel) (by decide +kernel)
section TS
variable {p : Program} {l : Launch} {e : Env} {R : Room} {s : State} {m : MethodId} {args : Array Value} {below : List Frame} {meth : Method} {c : Code} {cc : ByteArray} {own : String} {nL : Nat} {A : Nat → Prop} {ds : List dsE} {D : va_G} {ad : Nat → Nat} {cA : Nat → ClassId} {E : State → Prop} {ρ : Type} {en : ρ → Option Value × Mem} {x : Option ρ} {pc : Nat} {L : List (Nat × Value)} {st : List Value} {μ : Mem}
theorem tt_sval (C : Cx p s m args meth c cc own nL A ds D ad cA (EX A ad)) {k index : Nat} (hk : k < 13) (hl : Cond.fieldLink own index "java/lang/String" "value" "[B" ∈ GW) (hdg : decode cc pc = .ok (.getfield index, 3)) (kk : T p l e R s m args below meth c nL A ds D ad cA en x (pc + 3) L (.ref (ad (2000 + k)) :: st) μ) : T p l e R s m args below meth c nL A ds D ad cA en x pc L (.ref (ad (1000 + k)) :: st) μ := fun r hr H locs ls hP hS hL => vk_getf C.1 C.2.1 (C.2.2.2.2.2.2.2.2.2.2.2.1.1 k hk).2.2.1 hS C.2.2.2.1 (C.2.2.2.2.1 _ hl) (fun _ h => h) hdg (kk r hr H locs ls hP hS hL)
theorem tt_scod (C : Cx p s m args meth c cc own nL A ds D ad cA (EX A ad)) {k index : Nat} (hk : k < 13) (hl : Cond.fieldLink own index "java/lang/String" "coder" "B" ∈ GW) (hdg : decode cc pc = .ok (.getfield index, 3)) (kk : T p l e R s m args below meth c nL A ds D ad cA en x (pc + 3) L (.int 0 :: st) μ) : T p l e R s m args below meth c nL A ds D ad cA en x pc L (.ref (ad (1000 + k)) :: st) μ := fun r hr H locs ls hP hS hL => vk_getf C.1 C.2.1 (C.2.2.2.2.2.2.2.2.2.2.2.1.1 k hk).2.1 hS C.2.2.2.1 (C.2.2.2.2.1 _ hl) (fun _ h => h) hdg (kk r hr H locs ls hP hS hL)
theorem tt_scmp (C : Cx p s m args meth c cc own nL A ds D ad cA (EX A ad)) {index : Nat} (hl : Cond.fieldLink own index "java/lang/String" "COMPACT_STRINGS" "Z" ∈ GW) (hdg : decode cc pc = .ok (.getstatic index, 3)) (kk : T p l e R s m args below meth c nL A ds D ad cA en x (pc + 3) L (.int 1 :: st) μ) : T p l e R s m args below meth c nL A ds D ad cA en x pc L st μ := fun r hr H locs ls hP hS hL => va_gets C.1 C.2.1 C.2.2.2.2.2.2.2.2.2.2.2.2.1 hS C.2.2.2.1 (C.2.2.2.2.1 _ hl) (fun _ h => h) hdg (kk r hr H locs ls hP hS hL)
theorem tt_ssio (C : Cx p s m args meth c cc own nL A ds D ad cA (EX A ad)) {index : Nat} (hl : Cond.fieldLink own index "jdk/internal/util/Preconditions" "SIOOBE_FORMATTER" "Ljava/util/function/BiFunction;" ∈ GW) (hdg : decode cc pc = .ok (.getstatic index, 3)) (kk : T p l e R s m args below meth c nL A ds D ad cA en x (pc + 3) L (sV (ad 3000) :: st) μ) : T p l e R s m args below meth c nL A ds D ad cA en x pc L st μ := fun r hr H locs ls hP hS hL => va_gets C.1 C.2.1 C.2.2.2.2.2.2.2.2.2.2.2.2.2 hS C.2.2.2.1 (C.2.2.2.2.1 _ hl) (fun _ h => h) hdg (kk r hr H locs ls hP hS hL)
theorem tt_slen (C : Cx p s m args meth c cc own nL A ds D ad cA (EX A ad)) {k : Nat} (hk : k < 13) (hdg : decode cc pc = .ok (.arraylength, 1)) (kk : T p l e R s m args below meth c nL A ds D ad cA en x (pc + 1) L (.int (Int32.ofNat (sLen.getD k 0)) :: st) μ) : T p l e R s m args below meth c nL A ds D ad cA en x pc L (.ref (ad (2000 + k)) :: st) μ := fun r hr H locs ls hP hS hL => va_tlen C.1 C.2.1 (C.2.2.2.2.2.2.2.2.2.2.2.1.1 k hk).2.2.2 hS rfl hdg (kk r hr H locs ls hP hS hL)
theorem tt_sald (C : Cx p s m args meth c cc own nL A ds D ad cA (EX A ad)) {k : Nat} {i : Int32} (hk : k < 13) (hin : inr i (sLen.getD k 0)) (hdg : decode cc pc = .ok (.baload, 1)) (kk : T p l e R s m args below meth c nL A ds D ad cA en x (pc + 1) L (.int ((sByt.getD k []).getD i.toNatClampNeg 0) :: st) μ) : T p l e R s m args below meth c nL A ds D ad cA en x pc L (.int i :: .ref (ad (2000 + k)) :: st) μ := fun r hr H locs ls hP hS hL => va_tb C.1 C.2.1 (C.2.2.2.2.2.2.2.2.2.2.2.1.1 k hk).2.2.2 hS hin rfl hdg (kk r hr H locs ls hP hS hL)
theorem tt_i2c (C : Cx p s m args meth c cc own nL A ds D ad cA E) {x1 : Int32} (hdg : decode cc pc = .ok (.i2c, 1)) (kk : T p l e R s m args below meth c nL A ds D ad cA en x (pc + 1) L (.int (x1.toUInt32 % 65536).toInt32 :: st) μ) : T p l e R s m args below meth c nL A ds D ad cA en x pc L (.int x1 :: st) μ := fun r hr H locs ls hP hS hL => lv_i2c C.1 C.2.1 hdg rfl (kk r hr H locs ls hP hS hL)
theorem tt_xret {en : Int32 × Mem → Option Value × Mem} (he : en = enI) (C : Cx p s m args meth c cc own nL A ds D ad cA E) {v : Int32} {ty : FieldType} (hr : meth.sig.returnType = some ty) (hn : narrow ty (.int v) = .int v) (hdg : decode cc pc = .ok (.ireturn, 1)) : T p l e R s m args below meth c nL A ds D ad cA en (some (v, μ)) pc L [.int v] μ := by
  subst he
  intro r h H locs ls hP hS hL
  cases h
  have hlocks : meth.locks = false := C.2.2.2.2.2.2.2.2.1
  exact W.zret C.1 C.2.1 hr hn (fun t ht hW => ⟨rfl, by rw [ht]; exact hP, hS.F ht⟩) hS.2.2 hdg hlocks
theorem tt_callStr (C : Cx p s m args meth c cc own nL A ds D ad cA (EX A ad)) {y : MethodName} {bytes : ByteArray} {maxL n index d k : Nat} {ret : Option FieldType} {As : List Value} {rr : Option Value × Mem} (hk : k < 13) (hct : Ct l A ds D ad cA (EX A ad) y bytes maxL ret d (.ref (ad (1000 + k)) :: As) μ rr) (hm : MI y bytes maxL ret n) (hl : Cond.methodLink own index y ∈ GW) (hi : Cond.instanceMethod y ∈ GW) (hs : Cond.selects "java/lang/String" y y ∈ GW) (hn : As.length = n) (hR1 : d + 1 ≤ R.frames) (hR2 : 32 * (d + 1) ≤ R.locals) (hst : (st.map fun v => v.category).sum ≤ 8) (hdg : decode cc pc = .ok (.invokevirtual index, 3)) (kk : T p l e R s m args below meth c nL A ds D ad cA en x (pc + 3) L (rr.1.toList ++ st) rr.2) : T p l e R s m args below meth c nL A ds D ad cA en x pc L (As.reverse ++ .ref (ad (1000 + k)) :: st) μ :=
  tt_run (fun H locs ls hz hP hS => va_runV (C := "java/lang/String") (As := As) (rest := st) ⟨C.1, C.2.1, C.2.2.1, C.2.2.2.1, C.2.2.2.2.1⟩ hct ⟨ct_B C hm hl hR1 hR2, C.2.2.2.2.1 _ hi, C.2.2.2.2.1 _ hs⟩ ⟨ct_blind C.2.2.2.2.2.2.2.1.2.1, vk_recv C.2.2.2.2.2.2.2.2.2.2.2.1 hk hS, ct_pre C hP hS⟩ rfl hn hz rfl (lv_room hst) hdg ⟨Nat.zero_le _, Nat.zero_le _⟩) kk
end TS
theorem kJ3_check {l : Launch} {A : Nat → Prop} {D : va_G} {ad : Nat → Nat} {cA : Nat → ClassId} (hPk : Pk A dsX ad cA (EX A ad)) {x0 x1 : Int32} {q : Nat} {μ : Mem} (h0 : ¬ x0 < 0) (h1 : x0 < x1) : Ct l A dsX D ad cA (EX A ad) yJ3_checkIndex_8e157 cJ3_checkIndex_8e157 3 (some .int) 0 [.int x0, .int x1, sV q] μ (enI (x0, μ)) := by
  refine ct_of (en := enI) (x := some (x0, μ)) (L := [(0, .int x0), (1, .int x1), (2, sV q)]) (by decide) (by cases q <;> exact Nat.le_of_ble_eq_true rfl) hPk rfl (fun p e s m args below meth c C hr => ?_) rfl
  refine tt_iload_n C 0 dJ3_checkIndex_8e157_0 rfl rfl ?_
  refine tt_if_ltF C 9 h0 dJ3_checkIndex_8e157_1 (by decide) ?_
  refine tt_iload_n C 0 dJ3_checkIndex_8e157_4 rfl rfl ?_
  refine tt_iload_n C 1 dJ3_checkIndex_8e157_5 rfl rfl ?_
  refine tt_icmp_ltT (tgt := 16) C h1 dJ3_checkIndex_8e157_6 (by decide) ?_
  refine tt_iload_n C 0 dJ3_checkIndex_8e157_16 rfl rfl ?_
  exact tt_iret rfl C hr dJ3_checkIndex_8e157_17
theorem kJ0_check {l : Launch} {A : Nat → Prop} {D : va_G} {ad : Nat → Nat} {cA : Nat → ClassId} (hPk : Pk A dsX ad cA (EX A ad)) {x0 x1 : Int32} {μ : Mem} (h0 : ¬ x0 < 0) (h1 : x0 < x1) : Ct l A dsX D ad cA (EX A ad) yJ0_checkIndex_df160 cJ0_checkIndex_df160 2 none 1 [.int x0, .int x1] μ (enV μ) := by
  refine ct_of (en := enV) (x := some μ) (by decide) (Nat.le_of_ble_eq_true rfl) hPk rfl (fun p e s m args below meth c C hr => ?_) rfl
  refine tt_iload_n C 0 dJ0_checkIndex_df160_0 rfl rfl ?_
  refine tt_iload_n C 1 dJ0_checkIndex_df160_1 rfl rfl ?_
  refine tt_ssio C sf_sio dJ0_checkIndex_df160_2 ?_
  refine tt_callS (st := []) (As := [.int x0, .int x1, sV (ad 3000)]) C (kJ3_check C.2.2.2.2.2.2.2.1 h0 h1) mi_J3_checkIndex_8e157 ml_RJ0_1059 mt_J3_checkIndex_8e157 rfl (by decide) (by decide) (Nat.le_of_ble_eq_true rfl) dJ0_checkIndex_df160_5 ?_
  refine tt_pop C dJ0_checkIndex_df160_8 rfl ?_
  exact tt_vret rfl C hr dJ0_checkIndex_df160_9
def fJ0_charAt_5068e (sk : Nat) (x1 : Int32) (μ : Mem) : Option (Int32 × Mem) := gr x1 (sLen.getD sk 0) <| some ((((sByt.getD sk []).getD x1.toNatClampNeg 0) &&& (255 : Int32)).toUInt32 % 65536 |>.toInt32, μ)
theorem sLen_ok : ∀ k, k < 13 → sLen.getD k 0 < 100 := by decide
theorem kJ1_charAt {l : Launch} {A : Nat → Prop} {D : va_G} {ad : Nat → Nat} {cA : Nat → ClassId} (hPk : Pk A dsX ad cA (EX A ad)) {sk : Nat} (hsk : sk < 13) {x1 : Int32} {μ : Mem} (h : inr x1 (sLen.getD sk 0)) : Ct l A dsX D ad cA (EX A ad) yJ1_charAt_3b067 cJ1_charAt_3b067 2 (some .char) 2 [.ref (ad (2000 + sk)), .int x1] μ (enI ((((sByt.getD sk []).getD x1.toNatClampNeg 0) &&& (255 : Int32)).toUInt32 % 65536 |>.toInt32, μ)) := by
  refine ct_of (en := enI) (x := some ((((sByt.getD sk []).getD x1.toNatClampNeg 0) &&& (255 : Int32)).toUInt32 % 65536 |>.toInt32, μ)) (by decide) (Nat.le_of_ble_eq_true rfl) hPk rfl (fun p e s m args below meth c C hr => ?_) rfl
  refine tt_iload_n C 1 dJ1_charAt_3b067_0 rfl rfl ?_
  refine tt_aload_n C 0 dJ1_charAt_3b067_1 rfl rfl ?_
  refine tt_slen C hsk dJ1_charAt_3b067_2 ?_
  have h9 := sLen_ok sk hsk
  obtain ⟨j, hj, ej⟩ := vp_in_of h (by omega)
  refine tt_callS (st := []) (As := [.int x1, .int (Int32.ofNat (sLen.getD sk 0))]) C (kJ0_check C.2.2.2.2.2.2.2.1 (fun q => h (Or.inl q)) (by rw [ej]; exact nI_lt hj (by omega))) mi_J0_checkIndex_df160 ml_RJ1_9 mt_J0_checkIndex_df160 rfl (by decide) (by decide) (Nat.le_of_ble_eq_true rfl) dJ1_charAt_3b067_3 ?_
  refine tt_aload_n C 0 dJ1_charAt_3b067_6 rfl rfl ?_
  refine tt_iload_n C 1 dJ1_charAt_3b067_7 rfl rfl ?_
  refine tt_sald C hsk h dJ1_charAt_3b067_8 ?_
  refine tt_sipush (v := (255 : Int32)) C dJ1_charAt_3b067_9 (by decide) ?_
  refine tt_iand C dJ1_charAt_3b067_12 ?_
  refine tt_i2c C dJ1_charAt_3b067_13 ?_
  exact tt_xret rfl C hr (pk_nc _) dJ1_charAt_3b067_14
theorem kJ0_isLatin1 {l : Launch} {A : Nat → Prop} {D : va_G} {ad : Nat → Nat} {cA : Nat → ClassId} (hPk : Pk A dsX ad cA (EX A ad)) {sk : Nat} (hsk : sk < 13) {μ : Mem} : Ct l A dsX D ad cA (EX A ad) yJ0_isLatin1_aae02 cJ0_isLatin1_aae02 1 (some .boolean) 0 [.ref (ad (1000 + sk))] μ (enI (1, μ)) := by
  refine ct_of (en := enI) (x := some ((1 : Int32), μ)) (by decide) (Nat.le_of_ble_eq_true rfl) hPk rfl (fun p e s m args below meth c C hr => ?_) rfl
  refine tt_scmp C sf_cmp dJ0_isLatin1_aae02_0 ?_
  refine tt_if_eqF C 17 (by decide) dJ0_isLatin1_aae02_3 (by decide) ?_
  refine tt_aload_n C 0 dJ0_isLatin1_aae02_6 rfl rfl ?_
  refine tt_scod C hsk sf_cod dJ0_isLatin1_aae02_7 ?_
  refine tt_if_neF C 17 rfl dJ0_isLatin1_aae02_10 (by decide) ?_
  refine tt_iconst (v := (1 : Int32)) C dJ0_isLatin1_aae02_13 (by decide) ?_
  refine tt_goto (tgt := 18) C dJ0_isLatin1_aae02_14 (by decide) ?_
  exact tt_xret rfl C hr (by decide) dJ0_isLatin1_aae02_18
theorem kJ0_coder {l : Launch} {A : Nat → Prop} {D : va_G} {ad : Nat → Nat} {cA : Nat → ClassId} (hPk : Pk A dsX ad cA (EX A ad)) {sk : Nat} (hsk : sk < 13) {μ : Mem} : Ct l A dsX D ad cA (EX A ad) yJ0_coder_7d493 cJ0_coder_7d493 1 (some .byte) 0 [.ref (ad (1000 + sk))] μ (enI (0, μ)) := by
  refine ct_of (en := enI) (x := some ((0 : Int32), μ)) (by decide) (Nat.le_of_ble_eq_true rfl) hPk rfl (fun p e s m args below meth c C hr => ?_) rfl
  refine tt_scmp C sf_cmp dJ0_coder_7d493_0 ?_
  refine tt_if_eqF C 13 (by decide) dJ0_coder_7d493_3 (by decide) ?_
  refine tt_aload_n C 0 dJ0_coder_7d493_6 rfl rfl ?_
  refine tt_scod C hsk sf_cod dJ0_coder_7d493_7 ?_
  refine tt_goto (tgt := 14) C dJ0_coder_7d493_10 (by decide) ?_
  exact tt_xret rfl C hr (by decide) dJ0_coder_7d493_14
def fJ0_length_8abf5 (sk : Nat) (μ : Mem) : Option (Int32 × Mem) := some ((Int32.ofNat (sLen.getD sk 0)) >>> ((0 : Int32) &&& 31), μ)
theorem kJ0_length_8abf5 {l : Launch} {A : Nat → Prop} {D : va_G} {ad : Nat → Nat} {cA : Nat → ClassId} (hPk : Pk A dsX ad cA (EX A ad)) (sk : Nat) (hsk : sk < 13) {μ : Mem} {v : Int32} {ν : Mem} (h : fJ0_length_8abf5 sk μ = some (v, ν)) : Ct l A dsX D ad cA (EX A ad) yJ0_length_8abf5 cJ0_length_8abf5 1 (some .int) 1 [.ref (ad (1000 + sk))] μ (enI (v, ν)) := by
  refine ct_of (en := enI) (x := fJ0_length_8abf5 sk μ) (by decide) (Nat.le_of_ble_eq_true rfl) hPk rfl (fun p e s m args below meth c C hr => ?_) h
  unfold fJ0_length_8abf5
  refine tt_aload_n C 0 dJ0_length_8abf5_0 rfl rfl ?_
  refine tt_sval C hsk sf_val dJ0_length_8abf5_1 ?_
  refine tt_slen C hsk dJ0_length_8abf5_4 ?_
  refine tt_aload_n C 0 dJ0_length_8abf5_5 rfl rfl ?_
  refine tt_callStr (st := [.int (Int32.ofNat (sLen.getD sk 0))]) (As := []) C hsk (kJ0_coder C.2.2.2.2.2.2.2.1 hsk) mi_J0_coder_7d493 ml_RJ0_335 mv_J0_coder_7d493 ms_J0_coder_7d493 rfl (by decide) (by decide) (Nat.le_of_ble_eq_true rfl) dJ0_length_8abf5_6 ?_
  refine tt_ishr C dJ0_length_8abf5_9 ?_
  exact tt_iret rfl C hr dJ0_length_8abf5_10
theorem kJ0_charAt_5068e {l : Launch} {A : Nat → Prop} {D : va_G} {ad : Nat → Nat} {cA : Nat → ClassId} (hPk : Pk A dsX ad cA (EX A ad)) (sk : Nat) (hsk : sk < 13) {x1 : Int32} {μ : Mem} {v : Int32} {ν : Mem} (h : fJ0_charAt_5068e sk x1 μ = some (v, ν)) : Ct l A dsX D ad cA (EX A ad) yJ0_charAt_5068e cJ0_charAt_5068e 2 (some .char) 3 [.ref (ad (1000 + sk)), .int x1] μ (enI (v, ν)) := by
  refine ct_of (en := enI) (x := fJ0_charAt_5068e sk x1 μ) (by decide) (Nat.le_of_ble_eq_true rfl) hPk rfl (fun p e s m args below meth c C hr => ?_) h
  unfold fJ0_charAt_5068e
  refine tt_gr (fun h2 => ?_)
  refine tt_aload_n C 0 dJ0_charAt_5068e_0 rfl rfl ?_
  refine tt_callStr (st := []) (As := []) C hsk (kJ0_isLatin1 C.2.2.2.2.2.2.2.1 hsk) mi_J0_isLatin1_aae02 ml_RJ0_492 mv_J0_isLatin1_aae02 ms_J0_isLatin1_aae02 rfl (by decide) (by decide) (Nat.le_of_ble_eq_true rfl) dJ0_charAt_5068e_1 ?_
  refine tt_if_eqF C 16 (show ¬ (1 : Int32) = 0 by decide) dJ0_charAt_5068e_4 (by decide) ?_
  refine tt_aload_n C 0 dJ0_charAt_5068e_7 rfl rfl ?_
  refine tt_sval C hsk sf_val dJ0_charAt_5068e_8 ?_
  refine tt_iload_n C 1 dJ0_charAt_5068e_11 rfl rfl ?_
  refine tt_callS (st := []) (As := [.ref (ad (2000 + sk)), .int x1]) C (kJ1_charAt C.2.2.2.2.2.2.2.1 hsk h2) mi_J1_charAt_3b067 ml_RJ0_495 mt_J1_charAt_3b067 rfl (by decide) (by decide) (Nat.le_of_ble_eq_true rfl) dJ0_charAt_5068e_12 ?_
  exact tt_xret rfl C hr (pk_nc _) dJ0_charAt_5068e_15
