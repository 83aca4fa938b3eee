def lwA (sz : Nat) (ad : Nat → Nat) (n : Nat) : Nat → Prop := fun q => (∃ k, k < n ∧ q = ad k) ∨ sz ≤ q
section LAW
variable {p : Program} {l : Launch} {e : Env} {s : State} {m : MethodId} {below : List Frame} {meth : Method} {c : Code} {b Ln sz : Nat} {xs : Nat → Int32} {D : va_G} {adX adM : Nat → Nat} {cA : Nat → ClassId}
/-- what holds around the law's loop -/
def CL (p : Program) (s : State) (m : MethodId) (meth : Method) (c : Code) (b Ln : Nat) (xs : Nat → Int32) (D : va_G) (adX adM : Nat → Nat) (cA : Nat → ClassId) (sz : Nat) : Prop :=
  lw_At p s m meth c b Ln xs ∧ Ln ≤ 320 ∧ va_K D vwCl (tysl cA) s ∧ EX (lwA sz adX 44) adX s ∧ Pk (lwA sz adX 44) dsX adX cA (EX (lwA sz adX 44) adX) ∧ Pk (lwA sz adM 20) dsM adM cA EM ∧ (∀ k, k < 44 → s.heap.size ≤ adX k ∧ ¬ lwA sz adM 20 (adX k)) ∧ (∀ k, k < 20 → s.heap.size ≤ adM k ∧ ¬ lwA sz adX 44 (adM k)) ∧ s.heap.size ≤ sz
def LW (p : Program) (l : Launch) (e : Env) (s : State) (m : MethodId) (below : List Frame) (meth : Method) (c : Code) (b sz : Nat) (D : va_G) (adX adM : Nat → Nat) (cA : Nat → ClassId) (pc : Nat) (L : List (Nat × Value)) (st : List Value) (μ κ : Mem) : Prop :=
  ∀ (H : Heap) (locs : List Loc) (ls : Array Slot), sz ≤ H.size → va_P D vwCl (wd adX cA dsX μ) H → va_P D vwCl (wd adM cA dsM κ) H → va_S (fun q : Nat => s.heap.size ≤ q) s.heap H locs → lv_has ls 4 L → W p l e room_1 s m #[Value.ref b] below meth c H locs 64 1347 (lw_Z below #[Value.ref b] s) (F0 m pc ls st)
theorem cl_ts (C : CL p s m meth c b Ln xs D adX adM cA sz) : ∀ w ∈ GW, w.before #[Value.ref b] s = true := fun w hw => C.1.2.2.2.2.2.1 w (gw_in hw)
variable {pc : Nat} {L : List (Nat × Value)} {st : List Value} {μ κ : Mem}
theorem lwr_aload (C : CL p s m meth c b Ln xs D adX adM cA sz) (j : Nat) {n : Fin 4} {i : Nat} {v : Nat} (hdg : decode code pc = .ok (.aload_n n, 1)) (hi : (n : Nat) = i) (hj : L[j]? = some (i, .ref v)) (k : LW p l e s m below meth c b sz D adX adM cA (pc + 1) L (.ref v :: st) μ κ) : LW p l e s m below meth c b sz D adX adM cA pc L (st) μ κ := fun H locs ls hz hP hM hS hL => lv_aload_n C.1.1 C.1.2.1 hdg hi (lv_at hL j hj) (k H locs ls hz hP hM hS hL)
theorem lwr_iload (C : CL p s m meth c b Ln xs D adX adM cA sz) (j : Nat) {n : Fin 4} {i : Nat} {v : Int32} (hdg : decode code pc = .ok (.iload_n n, 1)) (hi : (n : Nat) = i) (hj : L[j]? = some (i, .int v)) (k : LW p l e s m below meth c b sz D adX adM cA (pc + 1) L (.int v :: st) μ κ) : LW p l e s m below meth c b sz D adX adM cA pc L (st) μ κ := fun H locs ls hz hP hM hS hL => lv_iload_n C.1.1 C.1.2.1 hdg hi (lv_at hL j hj) (k H locs ls hz hP hM hS hL)
theorem lwr_iconst (C : CL p s m meth c b Ln xs D adX adM cA sz) {n : Int} {v : Int32} (hdg : decode code pc = .ok (.iconst n, 1)) (hv : Int32.ofInt n = v) (k : LW p l e s m below meth c b sz D adX adM cA (pc + 1) L (.int v :: st) μ κ) : LW p l e s m below meth c b sz D adX adM cA pc L (st) μ κ := fun H locs ls hz hP hM hS hL => lv_iconst C.1.1 C.1.2.1 hdg hv (k H locs ls hz hP hM hS hL)
theorem lwr_bipush (C : CL p s m meth c b Ln xs D adX adM cA sz) {n : Int} {v : Int32} (hdg : decode code pc = .ok (.bipush n, 2)) (hv : (Int8.ofInt n).toInt32 = v) (k : LW p l e s m below meth c b sz D adX adM cA (pc + 2) L (.int v :: st) μ κ) : LW p l e s m below meth c b sz D adX adM cA pc L (st) μ κ := fun H locs ls hz hP hM hS hL => lv_bipush C.1.1 C.1.2.1 hdg hv (k H locs ls hz hP hM hS hL)
theorem lwr_iadd (C : CL p s m meth c b Ln xs D adX adM cA sz) {x1 y1 : Int32} (hdg : decode code pc = .ok (.iadd, 1)) (k : LW p l e s m below meth c b sz D adX adM cA (pc + 1) L (.int (x1 + y1) :: st) μ κ) : LW p l e s m below meth c b sz D adX adM cA pc L (.int y1 :: .int x1 :: st) μ κ := fun H locs ls hz hP hM hS hL => lv_iadd C.1.1 C.1.2.1 hdg (k H locs ls hz hP hM hS hL)
theorem lwr_isub (C : CL p s m meth c b Ln xs D adX adM cA sz) {x1 y1 : Int32} (hdg : decode code pc = .ok (.isub, 1)) (k : LW p l e s m below meth c b sz D adX adM cA (pc + 1) L (.int (x1 - y1) :: st) μ κ) : LW p l e s m below meth c b sz D adX adM cA pc L (.int y1 :: .int x1 :: st) μ κ := fun H locs ls hz hP hM hS hL => lv_isub C.1.1 C.1.2.1 hdg (k H locs ls hz hP hM hS hL)
theorem lwr_iand (C : CL p s m meth c b Ln xs D adX adM cA sz) {x1 y1 : Int32} (hdg : decode code pc = .ok (.iand, 1)) (k : LW p l e s m below meth c b sz D adX adM cA (pc + 1) L (.int (x1 &&& y1) :: st) μ κ) : LW p l e s m below meth c b sz D adX adM cA pc L (.int y1 :: .int x1 :: st) μ κ := fun H locs ls hz hP hM hS hL => lv_iand C.1.1 C.1.2.1 hdg (k H locs ls hz hP hM hS hL)
theorem lwr_lcmp (C : CL p s m meth c b Ln xs D adX adM cA sz) {x1 y1 : Int64} (hdg : decode code pc = .ok (.lcmp, 1)) (k : LW p l e s m below meth c b sz D adX adM cA (pc + 1) L (.int (lg_cmp x1 y1) :: st) μ κ) : LW p l e s m below meth c b sz D adX adM cA pc L (.long y1 :: .long x1 :: st) μ κ := fun H locs ls hz hP hM hS hL => W.lcmp C.1.1 C.1.2.1 hdg (k H locs ls hz hP hM hS hL)
theorem lwr_slen (C : CL p s m meth c b Ln xs D adX adM cA sz) (hdg : decode code pc = .ok (.arraylength, 1)) (k : LW p l e s m below meth c b sz D adX adM cA (pc + 1) L (.int (nI Ln) :: st) μ κ) : LW p l e s m below meth c b sz D adX adM cA pc L (.ref b :: st) μ κ := fun H locs ls hz hP hM hS hL => va_slen C.1.1 C.1.2.1 C.1.2.2.2.2.2.2.1 C.1.2.2.2.2.2.2.2.1 (Nat.not_le.mpr C.1.2.2.2.2.2.2.2.1) hS hdg (k H locs ls hz hP hM hS hL)
theorem lwr_sld (C : CL p s m meth c b Ln xs D adX adM cA sz) {i : Nat} {x1 : Int32} (hi : i < Ln) (hx1 : x1 = nI i) (hdg : decode code pc = .ok (.iaload, 1)) (k : LW p l e s m below meth c b sz D adX adM cA (pc + 1) L (.int (xs i) :: st) μ κ) : LW p l e s m below meth c b sz D adX adM cA pc L (.int x1 :: .ref b :: st) μ κ := by
  subst hx1
  intro H locs ls hz hP hM hS hL
  have h3 := C.2.1
  refine va_sld C.1.1 C.1.2.1 C.1.2.2.2.2.2.2.1 C.1.2.2.2.2.2.2.2.1 (Nat.not_le.mpr C.1.2.2.2.2.2.2.2.1) hS (vp_in_nI hi (by omega)) hdg ?_
  rw [nI_clamp (by omega)]
  exact k H locs ls hz hP hM hS hL
theorem lwr_arg (C : CL p s m meth c b Ln xs D adX adM cA sz) (jb jk : Nat) {i k : Nat} {v : Int32} {n : Int} (hi : i + k < Ln) (h0 : decode code pc = .ok (.aload_n 0, 1)) (h1 : decode code (pc + 1) = .ok (.iload_n 3, 1)) (h2 : decode code (pc + 1 + 1) = .ok (.iconst n, 1)) (h3 : decode code (pc + 1 + 1 + 1) = .ok (.iadd, 1)) (h4 : decode code (pc + 1 + 1 + 1 + 1) = .ok (.iaload, 1)) (hv : Int32.ofInt n = v) (hk : v = nI k) (hjb : L[jb]? = some (0, .ref b)) (hjk : L[jk]? = some (3, .int (nI i))) (kk : LW p l e s m below meth c b sz D adX adM cA (pc + 5) L (.int (xs (i + k)) :: st) μ κ) : LW p l e s m below meth c b sz D adX adM cA pc L st μ κ := by
  refine lwr_aload C jb h0 rfl hjb ?_
  refine lwr_iload C jk h1 rfl hjk ?_
  refine lwr_iconst C h2 hv ?_
  refine lwr_iadd C h3 ?_
  exact lwr_sld C hi (by rw [hk, nI_add]) h4 kk
theorem lwr_eqT (C : CL p s m meth c b Ln xs D adX adM cA sz) {x1 : Int32} {off : Int} {tgt : Nat} (hdg : decode code pc = .ok (.if_icmp .eq off, 3)) (ht : (pc : Int) + off = (tgt : Int)) (k : LW p l e s m below meth c b sz D adX adM cA tgt L st μ κ) : LW p l e s m below meth c b sz D adX adM cA pc L (.int x1 :: .int x1 :: st) μ κ := fun H locs ls hz hP hM hS hL => lv_icmp_eq C.1.1 C.1.2.1 hdg ht (fun _ => k H locs ls hz hP hM hS hL) (fun n => absurd rfl n)
theorem lwr_leqT (C : CL p s m meth c b Ln xs D adX adM cA sz) {x1 : Int64} {off : Int} {tgt : Nat} (hd0 : decode code pc = .ok (.lcmp, 1)) (hdg : decode code (pc + 1) = .ok (.ifCond .eq off, 3)) (ht : ((pc + 1 : Nat) : Int) + off = (tgt : Int)) (k : LW p l e s m below meth c b sz D adX adM cA tgt L st μ κ) : LW p l e s m below meth c b sz D adX adM cA pc L (.long x1 :: .long x1 :: st) μ κ := lwr_lcmp C hd0 (fun H locs ls hz hP hM hS hL => lv_if_eq C.1.1 C.1.2.1 hdg ht (fun _ => k H locs ls hz hP hM hS hL) (fun n => absurd (by simp [lg_cmp]) n))
theorem lw_keep {ad : Nat → Nat} {ds : List dsE} {n : Nat} {A1 : Nat → Prop} {ν : Mem} {H H1 : Heap} (hn : ds.length = n) (hd : ∀ k, k < n → ¬ A1 (ad k)) (hP : va_P D vwCl (wd ad cA ds ν) H) (hk : ∀ q : Nat, q < H.size → ¬ A1 q → H1[q]? = H[q]?) : va_P D vwCl (wd ad cA ds ν) H1 := by
  refine hP.kept (fun k q hq => ?_)
  have hlt := (hP k q hq).lt
  rw [wd, wdF_get] at hq
  cases hd2 : ds[k]? with
  | none => rw [hd2] at hq; cases hq
  | some d =>
    rw [hd2] at hq
    cases hq
    have hk3 : k < n := by rw [← hn]; exact (List.getElem?_eq_some_iff.mp hd2).1
    have hz : 0 + k = k := Nat.zero_add k
    simp only [hz] at hlt ⊢
    exact hk (ad k) hlt (hd k hk3)
theorem lwr_callX (C : CL p s m meth c b Ln xs D adX adM cA sz) {y : MethodName} {bytes : ByteArray} {maxL n index dd : Nat} {ret : Option FieldType} {As : List Value} {rr : Option Value × Mem} (hct : Ct l (lwA sz adX 44) dsX D adX cA (EX (lwA sz adX 44) adX) y bytes maxL ret dd (.ref (adX 0) :: As) μ rr) (hm : MI y bytes maxL ret n) (hl : Cond.methodLink RL index y ∈ GW) (hi : Cond.instanceMethod y ∈ GW) (hs : Cond.selects RX7 y y ∈ GW) (hn : As.length = n) (hdd : dd ≤ 12) (hst : (st.map fun v => v.category).sum ≤ 8) (hdg : decode code pc = .ok (.invokevirtual index, 3)) (kk : LW p l e s m below meth c b sz D adX adM cA (pc + 3) L (rr.1.toList ++ st) rr.2 κ) : LW p l e s m below meth c b sz D adX adM cA pc L (As.reverse ++ .ref (adX 0) :: st) μ κ := by
  intro H locs ls hz hP hM hS hL T0 hT Xs
  have hts := cl_ts C
  have hr := va_runV (p := p) (e := e) (R := room_1) (below := below) (meth := meth) (H := H) (locs := locs) (cells := 64) (slots := 1347) (C := RX7) (As := As) (rest := st) (g := F0 m pc ls (As.reverse ++ .ref (adX 0) :: st)) ⟨C.1.1, C.1.2.1, C.1.2.2.2.1, C.1.2.2.2.2.1, hts⟩ hct ⟨callB_of n hts (gw_cons hm.1) rfl rfl rfl (hts _ hm.2.1) (hts _ hl) hm.2.2.1 ⟨by show dd + 1 ≤ 14; omega, by have := hm.2.2.2; show 8 + (maxL + 11) + 32 * dd ≤ 508; omega⟩, hts _ hi, hts _ hs⟩ ⟨ct_blind C.2.2.2.2.1.2.1, va_recv C.2.2.1 hP (ci := 7) (q := (RX7, TX7, 11)) rfl (wd_get dX_0), fun U hU hW => ⟨rfl, fun q hq => Or.inr (by rw [hU] at hq; omega), by rw [hU]; exact hP, va_K.moved hW.alike C.2.2.1, C.2.2.2.2.1.2.2 s U C.2.2.2.1 hW (fun q h1 _ => by rw [hU]; exact hS.2.1 q h1 (by omega))⟩⟩ rfl hn hL.1 rfl (lv_room hst) hdg ⟨by decide, by decide⟩
  obtain ⟨v, st₀, t, T', Ls, h0, X', hLs, e1, e2, ⟨hv, hP1, hz1, hk⟩, stp⟩ := hr T0 hT Xs
  cases hv
  rw [h0] at hz1 hk
  obtain ⟨t2, a1, b1⟩ := kk T'.heap (locs ++ Ls) ls (by rw [e1]; omega) (by rw [e1]; exact hP1) (by rw [e1]; exact lw_keep (n := 20) rfl (fun k hk3 => (C.2.2.2.2.2.2.2.1 k hk3).2) hM hk)
    ⟨Nat.le_trans hS.1 (by rw [e1]; exact hz1), fun q h1 h2 => by
      rw [e1, hk q (Nat.lt_of_lt_of_le h1 hS.1) (fun hA => by
        rcases hA with ⟨k3, hk3, rfl⟩ | hA
        · exact h2 (C.2.2.2.2.2.2.1 k3 hk3).1
        · have := C.2.2.2.2.2.2.2.2; omega)]
      exact hS.2.1 q h1 h2, fun q hq => by
      rcases List.mem_append.mp hq with h | h
      · exact hS.2.2 q h
      · rcases hLs q h with ⟨k3, hk3, e3⟩ | hA
        · show s.heap.size ≤ q.base
          rw [e3]; exact (C.2.2.2.2.2.2.1 k3 hk3).1
        · have := C.2.2.2.2.2.2.2.2
          show s.heap.size ≤ q.base
          omega⟩ hL T' rfl X'
  exact ⟨t2, stp t2 a1, b1⟩
theorem lwr_callM (C : CL p s m meth c b Ln xs D adX adM cA sz) {y : MethodName} {bytes : ByteArray} {maxL n index dd : Nat} {ret : Option FieldType} {As : List Value} {rr : Option Value × Mem} (hct : Ct l (lwA sz adM 20) dsM D adM cA EM y bytes maxL ret dd (.ref (adM 0) :: As) κ rr) (hm : MI y bytes maxL ret n) (hl : Cond.methodLink RL index y ∈ GW) (hi : Cond.instanceMethod y ∈ GW) (hs : Cond.selects RX8 y y ∈ GW) (hn : As.length = n) (hdd : dd ≤ 12) (hst : (st.map fun v => v.category).sum ≤ 8) (hdg : decode code pc = .ok (.invokevirtual index, 3)) (kk : LW p l e s m below meth c b sz D adX adM cA (pc + 3) L (rr.1.toList ++ st) μ rr.2) : LW p l e s m below meth c b sz D adX adM cA pc L (As.reverse ++ .ref (adM 0) :: st) μ κ := by
  intro H locs ls hz hP hM hS hL T0 hT Xs
  have hts := cl_ts C
  have hr := va_runV (p := p) (e := e) (R := room_1) (below := below) (meth := meth) (H := H) (locs := locs) (cells := 64) (slots := 1347) (C := RX8) (As := As) (rest := st) (g := F0 m pc ls (As.reverse ++ .ref (adM 0) :: st)) ⟨C.1.1, C.1.2.1, C.1.2.2.2.1, C.1.2.2.2.2.1, hts⟩ hct ⟨callB_of n hts (gw_cons hm.1) rfl rfl rfl (hts _ hm.2.1) (hts _ hl) hm.2.2.1 ⟨by show dd + 1 ≤ 14; omega, by have := hm.2.2.2; show 8 + (maxL + 11) + 32 * dd ≤ 508; omega⟩, hts _ hi, hts _ hs⟩ ⟨ct_blind C.2.2.2.2.2.1.2.1, va_recv C.2.2.1 hM (ci := 8) (q := (RX8, TX8, 45)) rfl (wd_get dM_0), fun U hU hW => ⟨rfl, fun q hq => Or.inr (by rw [hU] at hq; omega), by rw [hU]; exact hM, va_K.moved hW.alike C.2.2.1, trivial⟩⟩ rfl hn hL.1 rfl (lv_room hst) hdg ⟨by decide, by decide⟩
  obtain ⟨v, st₀, t, T', Ls, h0, X', hLs, e1, e2, ⟨hv, hP1, hz1, hk⟩, stp⟩ := hr T0 hT Xs
  cases hv
  rw [h0] at hz1 hk
  obtain ⟨t2, a1, b1⟩ := kk T'.heap (locs ++ Ls) ls (by rw [e1]; omega) (by rw [e1]; exact lw_keep (n := 44) rfl (fun k hk3 => (C.2.2.2.2.2.2.1 k hk3).2) hP hk) (by rw [e1]; exact hP1)
    ⟨Nat.le_trans hS.1 (by rw [e1]; exact hz1), fun q h1 h2 => by
      rw [e1, hk q (Nat.lt_of_lt_of_le h1 hS.1) (fun hA => by
        rcases hA with ⟨k3, hk3, rfl⟩ | hA
        · exact h2 (C.2.2.2.2.2.2.2.1 k3 hk3).1
        · have := C.2.2.2.2.2.2.2.2; omega)]
      exact hS.2.1 q h1 h2, fun q hq => by
      rcases List.mem_append.mp hq with h | h
      · exact hS.2.2 q h
      · rcases hLs q h with ⟨k3, hk3, e3⟩ | hA
        · show s.heap.size ≤ q.base
          rw [e3]; exact (C.2.2.2.2.2.2.2.1 k3 hk3).1
        · have := C.2.2.2.2.2.2.2.2
          show s.heap.size ≤ q.base
          omega⟩ hL T' rfl X'
  exact ⟨t2, stp t2 a1, b1⟩
def ST_feed (Inv : Mem → Mem → Prop) : Prop := ∀ μ κ : Mem, Inv μ κ → ∀ a1 : Int32, ∃ (r : Int32) (ν ξ : Mem), fX7_feed a1 μ = some (r, ν) ∧ fX8_feed a1 κ = some (r, ξ) ∧ Inv ν ξ
theorem mlL_13 : Cond.methodLink RL 13 yX7_feed ∈ GW := gw_of 374 (by decide +kernel) (by decide +kernel)
theorem mlL_17 : Cond.methodLink RL 17 yX8_feed ∈ GW := gw_of 1033 (by decide +kernel) (by decide +kernel)
def ST_end (Inv : Mem → Mem → Prop) : Prop := ∀ μ κ : Mem, Inv μ κ → ∀ a1 : Int32, ∃ (r : Int32) (ν ξ : Mem), fX7_end a1 μ = some (r, ν) ∧ fX8_end a1 κ = some (r, ξ) ∧ Inv ν ξ
theorem mlL_18 : Cond.methodLink RL 18 yX7_end ∈ GW := gw_of 381 (by decide +kernel) (by decide +kernel)
theorem mlL_21 : Cond.methodLink RL 21 yX8_end ∈ GW := gw_of 1041 (by decide +kernel) (by decide +kernel)
def ST_text (Inv : Mem → Mem → Prop) : Prop := ∀ μ κ : Mem, Inv μ κ → ∃ (r : Int32) (ν ξ : Mem), fX7_text μ = some (r, ν) ∧ fX8_text κ = some (r, ξ) ∧ Inv ν ξ
theorem mlL_22 : Cond.methodLink RL 22 yX7_text ∈ GW := gw_of 385 (by decide +kernel) (by decide +kernel)
theorem mlL_26 : Cond.methodLink RL 26 yX8_text ∈ GW := gw_of 1045 (by decide +kernel) (by decide +kernel)
def ST_fault (Inv : Mem → Mem → Prop) : Prop := ∀ μ κ : Mem, Inv μ κ → ∃ (r : Int32) (ν ξ : Mem), fX7_fault μ = some (r, ν) ∧ fX8_fault κ = some (r, ξ) ∧ Inv ν ξ
theorem mlL_27 : Cond.methodLink RL 27 yX7_fault ∈ GW := gw_of 548 (by decide +kernel) (by decide +kernel)
theorem mlL_30 : Cond.methodLink RL 30 yX8_fault ∈ GW := gw_of 1099 (by decide +kernel) (by decide +kernel)
def ST_rule (Inv : Mem → Mem → Prop) : Prop := ∀ μ κ : Mem, Inv μ κ → ∀ a1 : Int32, ∃ (r : Int32) (ν ξ : Mem), fX7_rule a1 μ = some (r, ν) ∧ fX8_rule a1 κ = some (r, ξ) ∧ Inv ν ξ
theorem mlL_31 : Cond.methodLink RL 31 yX7_rule ∈ GW := gw_of 552 (by decide +kernel) (by decide +kernel)
theorem mlL_34 : Cond.methodLink RL 34 yX8_rule ∈ GW := gw_of 1103 (by decide +kernel) (by decide +kernel)
def ST_house (Inv : Mem → Mem → Prop) : Prop := ∀ μ κ : Mem, Inv μ κ → ∀ a1 a2 : Int32, ∃ (r : Int32) (ν ξ : Mem), fX7_house a1 a2 μ = some (r, ν) ∧ fX8_house a1 a2 κ = some (r, ξ) ∧ Inv ν ξ
theorem mlL_35 : Cond.methodLink RL 35 yX7_house ∈ GW := gw_of 564 (by decide +kernel) (by decide +kernel)
theorem mlL_39 : Cond.methodLink RL 39 yX8_house ∈ GW := gw_of 1123 (by decide +kernel) (by decide +kernel)
def ST_order (Inv : Mem → Mem → Prop) : Prop := ∀ μ κ : Mem, Inv μ κ → ∀ a1 a2 : Int32, ∃ (r : Int32) (ν ξ : Mem), fX7_order a1 a2 μ = some (r, ν) ∧ fX8_order a1 a2 κ = some (r, ξ) ∧ Inv ν ξ
theorem mlL_40 : Cond.methodLink RL 40 yX7_order ∈ GW := gw_of 572 (by decide +kernel) (by decide +kernel)
theorem mlL_43 : Cond.methodLink RL 43 yX8_order ∈ GW := gw_of 1127 (by decide +kernel) (by decide +kernel)
def ST_set (Inv : Mem → Mem → Prop) : Prop := ∀ μ κ : Mem, Inv μ κ → ∀ a1 a2 : Int32, ∃ (r : Int32) (ν ξ : Mem), fX7_set a1 a2 μ = some (r, ν) ∧ fX8_set a1 a2 κ = some (r, ξ) ∧ Inv ν ξ
theorem mlL_44 : Cond.methodLink RL 44 yX7_set ∈ GW := gw_of 584 (by decide +kernel) (by decide +kernel)
theorem mlL_47 : Cond.methodLink RL 47 yX8_set ∈ GW := gw_of 1139 (by decide +kernel) (by decide +kernel)
def ST_pack (Inv : Mem → Mem → Prop) : Prop := ∀ μ κ : Mem, Inv μ κ → ∀ a1 a2 : Int32, ∃ (r : Int32) (ν ξ : Mem), fX7_pack a1 a2 μ = some (r, ν) ∧ fX8_pack a1 a2 κ = some (r, ξ) ∧ Inv ν ξ
theorem mlL_48 : Cond.methodLink RL 48 yX7_pack ∈ GW := gw_of 588 (by decide +kernel) (by decide +kernel)
theorem mlL_51 : Cond.methodLink RL 51 yX8_pack ∈ GW := gw_of 1148 (by decide +kernel) (by decide +kernel)
def ST_swap (Inv : Mem → Mem → Prop) : Prop := ∀ μ κ : Mem, Inv μ κ → ∀ a1 a2 : Int32, ∃ (r : Int32) (ν ξ : Mem), fX7_swap a1 a2 μ = some (r, ν) ∧ fX8_swap a1 a2 κ = some (r, ξ) ∧ Inv ν ξ
theorem mlL_52 : Cond.methodLink RL 52 yX7_swap ∈ GW := gw_of 596 (by decide +kernel) (by decide +kernel)
theorem mlL_55 : Cond.methodLink RL 55 yX8_swap ∈ GW := gw_of 1156 (by decide +kernel) (by decide +kernel)
def ST_top (Inv : Mem → Mem → Prop) : Prop := ∀ μ κ : Mem, Inv μ κ → ∀ a1 : Int32, ∃ (r : Int32) (ν ξ : Mem), fX7_top a1 μ = some (r, ν) ∧ fX8_top a1 κ = some (r, ξ) ∧ Inv ν ξ
theorem mlL_56 : Cond.methodLink RL 56 yX7_top ∈ GW := gw_of 600 (by decide +kernel) (by decide +kernel)
theorem mlL_59 : Cond.methodLink RL 59 yX8_top ∈ GW := gw_of 1160 (by decide +kernel) (by decide +kernel)
def ST_first (Inv : Mem → Mem → Prop) : Prop := ∀ μ κ : Mem, Inv μ κ → ∀ a1 : Int32, ∃ (r : Int32) (ν ξ : Mem), fX7_first a1 μ = some (r, ν) ∧ fX8_first a1 κ = some (r, ξ) ∧ Inv ν ξ
theorem mlL_60 : Cond.methodLink RL 60 yX7_first ∈ GW := gw_of 611 (by decide +kernel) (by decide +kernel)
theorem mlL_63 : Cond.methodLink RL 63 yX8_first ∈ GW := gw_of 1168 (by decide +kernel) (by decide +kernel)
def ST_ask (Inv : Mem → Mem → Prop) : Prop := ∀ μ κ : Mem, Inv μ κ → ∀ a1 a2 a3 : Int32, ∃ (r : Int32) (ν ξ : Mem), fX7_ask a1 a2 a3 μ = some (r, ν) ∧ fX8_ask a1 a2 a3 κ = some (r, ξ) ∧ Inv ν ξ
theorem mlL_64 : Cond.methodLink RL 64 yX7_ask ∈ GW := gw_of 615 (by decide +kernel) (by decide +kernel)
theorem mlL_68 : Cond.methodLink RL 68 yX8_ask ∈ GW := gw_of 1172 (by decide +kernel) (by decide +kernel)
def ST_turn (Inv : Mem → Mem → Prop) : Prop := ∀ μ κ : Mem, Inv μ κ → ∀ a1 a2 : Int32, ∃ (r : Int32) (ν ξ : Mem), fX7_turn a1 a2 μ = some (r, ν) ∧ fX8_turn a1 a2 κ = some (r, ξ) ∧ Inv ν ξ
theorem mlL_69 : Cond.methodLink RL 69 yX7_turn ∈ GW := gw_of 625 (by decide +kernel) (by decide +kernel)
theorem mlL_72 : Cond.methodLink RL 72 yX8_turn ∈ GW := gw_of 1178 (by decide +kernel) (by decide +kernel)
def ST_weigh (Inv : Mem → Mem → Prop) : Prop := ∀ μ κ : Mem, Inv μ κ → ∀ a1 a2 : Int32, ∃ (r : Int32) (ν ξ : Mem), fX7_weigh a1 a2 μ = some (r, ν) ∧ fX8_weigh a1 a2 κ = some (r, ξ) ∧ Inv ν ξ
theorem mlL_73 : Cond.methodLink RL 73 yX7_weigh ∈ GW := gw_of 629 (by decide +kernel) (by decide +kernel)
theorem mlL_76 : Cond.methodLink RL 76 yX8_weigh ∈ GW := gw_of 1182 (by decide +kernel) (by decide +kernel)
def ST_way (Inv : Mem → Mem → Prop) : Prop := ∀ μ κ : Mem, Inv μ κ → ∀ a1 a2 a3 : Int32, ∃ (r : Int32) (ν ξ : Mem), fX7_way a1 a2 a3 μ = some (r, ν) ∧ fX8_way a1 a2 a3 κ = some (r, ξ) ∧ Inv ν ξ
theorem mlL_77 : Cond.methodLink RL 77 yX7_way ∈ GW := gw_of 633 (by decide +kernel) (by decide +kernel)
theorem mlL_80 : Cond.methodLink RL 80 yX8_way ∈ GW := gw_of 1186 (by decide +kernel) (by decide +kernel)
def ST_time (Inv : Mem → Mem → Prop) : Prop := ∀ μ κ : Mem, Inv μ κ → ∀ a1 : Int32, ∃ (r : Int32) (ν ξ : Mem), fX7_time a1 μ = some (r, ν) ∧ fX8_time a1 κ = some (r, ξ) ∧ Inv ν ξ
theorem mlL_81 : Cond.methodLink RL 81 yX7_time ∈ GW := gw_of 648 (by decide +kernel) (by decide +kernel)
theorem mlL_84 : Cond.methodLink RL 84 yX8_time ∈ GW := gw_of 1194 (by decide +kernel) (by decide +kernel)
def ST_back (Inv : Mem → Mem → Prop) : Prop := ∀ μ κ : Mem, Inv μ κ → ∃ (r : Int32) (ν ξ : Mem), fX7_back μ = some (r, ν) ∧ fX8_back κ = some (r, ξ) ∧ Inv ν ξ
theorem mlL_85 : Cond.methodLink RL 85 yX7_back ∈ GW := gw_of 695 (by decide +kernel) (by decide +kernel)
theorem mlL_88 : Cond.methodLink RL 88 yX8_back ∈ GW := gw_of 1225 (by decide +kernel) (by decide +kernel)
def ST_spoilt (Inv : Mem → Mem → Prop) : Prop := ∀ μ κ : Mem, Inv μ κ → ∃ (r : Int32) (ν ξ : Mem), fX7_spoilt μ = some (r, ν) ∧ fX8_spoilt κ = some (r, ξ) ∧ Inv ν ξ
theorem mlL_89 : Cond.methodLink RL 89 yX7_spoilt ∈ GW := gw_of 699 (by decide +kernel) (by decide +kernel)
theorem mlL_92 : Cond.methodLink RL 92 yX8_spoilt ∈ GW := gw_of 1229 (by decide +kernel) (by decide +kernel)
def ST_late (Inv : Mem → Mem → Prop) : Prop := ∀ μ κ : Mem, Inv μ κ → ∃ (r : Int32) (ν ξ : Mem), fX7_late μ = some (r, ν) ∧ fX8_late κ = some (r, ξ) ∧ Inv ν ξ
theorem mlL_93 : Cond.methodLink RL 93 yX7_late ∈ GW := gw_of 703 (by decide +kernel) (by decide +kernel)
theorem mlL_96 : Cond.methodLink RL 96 yX8_late ∈ GW := gw_of 1233 (by decide +kernel) (by decide +kernel)
def ST_pennies (Inv : Mem → Mem → Prop) : Prop := ∀ μ κ : Mem, Inv μ κ → ∃ (r : Int32) (ν ξ : Mem), fX7_pennies μ = some (r, ν) ∧ fX8_pennies κ = some (r, ξ) ∧ Inv ν ξ
theorem mlL_97 : Cond.methodLink RL 97 yX7_pennies ∈ GW := gw_of 707 (by decide +kernel) (by decide +kernel)
theorem mlL_100 : Cond.methodLink RL 100 yX8_pennies ∈ GW := gw_of 1237 (by decide +kernel) (by decide +kernel)
def ST_spent (Inv : Mem → Mem → Prop) : Prop := ∀ μ κ : Mem, Inv μ κ → ∀ a1 : Int32, ∃ (r : Int32) (ν ξ : Mem), fX7_spent a1 μ = some (r, ν) ∧ fX8_spent a1 κ = some (r, ξ) ∧ Inv ν ξ
theorem mlL_101 : Cond.methodLink RL 101 yX7_spent ∈ GW := gw_of 711 (by decide +kernel) (by decide +kernel)
theorem mlL_104 : Cond.methodLink RL 104 yX8_spent ∈ GW := gw_of 1245 (by decide +kernel) (by decide +kernel)
def ST_best (Inv : Mem → Mem → Prop) : Prop := ∀ μ κ : Mem, Inv μ κ → ∀ a1 : Int32, ∃ (r : Int32) (ν ξ : Mem), fX7_best a1 μ = some (r, ν) ∧ fX8_best a1 κ = some (r, ξ) ∧ Inv ν ξ
theorem mlL_105 : Cond.methodLink RL 105 yX7_best ∈ GW := gw_of 715 (by decide +kernel) (by decide +kernel)
theorem mlL_108 : Cond.methodLink RL 108 yX8_best ∈ GW := gw_of 1250 (by decide +kernel) (by decide +kernel)
def ST_packing (Inv : Mem → Mem → Prop) : Prop := ∀ μ κ : Mem, Inv μ κ → ∀ a1 : Int32, ∃ (r : Int32) (ν ξ : Mem), fX7_packing a1 μ = some (r, ν) ∧ fX8_packing a1 κ = some (r, ξ) ∧ Inv ν ξ
theorem mlL_109 : Cond.methodLink RL 109 yX7_packing ∈ GW := gw_of 758 (by decide +kernel) (by decide +kernel)
theorem mlL_112 : Cond.methodLink RL 112 yX8_packing ∈ GW := gw_of 1272 (by decide +kernel) (by decide +kernel)
def ST_soonest (Inv : Mem → Mem → Prop) : Prop := ∀ μ κ : Mem, Inv μ κ → ∀ a1 : Int32, ∃ (r : Int32) (ν ξ : Mem), fX7_soonest a1 μ = some (r, ν) ∧ fX8_soonest a1 κ = some (r, ξ) ∧ Inv ν ξ
theorem mlL_113 : Cond.methodLink RL 113 yX7_soonest ∈ GW := gw_of 762 (by decide +kernel) (by decide +kernel)
theorem mlL_116 : Cond.methodLink RL 116 yX8_soonest ∈ GW := gw_of 1276 (by decide +kernel) (by decide +kernel)
def ST_two (Inv : Mem → Mem → Prop) : Prop := ∀ μ κ : Mem, Inv μ κ → ∀ a1 a2 : Int32, ∃ (r : Int32) (ν ξ : Mem), fX7_two a1 a2 μ = some (r, ν) ∧ fX8_two a1 a2 κ = some (r, ξ) ∧ Inv ν ξ
theorem mlL_117 : Cond.methodLink RL 117 yX7_two ∈ GW := gw_of 770 (by decide +kernel) (by decide +kernel)
theorem mlL_120 : Cond.methodLink RL 120 yX8_two ∈ GW := gw_of 1280 (by decide +kernel) (by decide +kernel)
def ST_split (Inv : Mem → Mem → Prop) : Prop := ∀ μ κ : Mem, Inv μ κ → ∀ a1 : Int32, ∃ (r : Int32) (ν ξ : Mem), fX7_split a1 μ = some (r, ν) ∧ fX8_split a1 κ = some (r, ξ) ∧ Inv ν ξ
theorem mlL_121 : Cond.methodLink RL 121 yX7_split ∈ GW := gw_of 778 (by decide +kernel) (by decide +kernel)
theorem mlL_124 : Cond.methodLink RL 124 yX8_split ∈ GW := gw_of 1288 (by decide +kernel) (by decide +kernel)
def ST_strength (Inv : Mem → Mem → Prop) : Prop := ∀ μ κ : Mem, Inv μ κ → ∃ (r : Int32) (ν ξ : Mem), fX7_strength μ = some (r, ν) ∧ fX8_strength κ = some (r, ξ) ∧ Inv ν ξ
theorem mlL_125 : Cond.methodLink RL 125 yX7_strength ∈ GW := gw_of 782 (by decide +kernel) (by decide +kernel)
theorem mlL_128 : Cond.methodLink RL 128 yX8_strength ∈ GW := gw_of 1292 (by decide +kernel) (by decide +kernel)
def ST_latest (Inv : Mem → Mem → Prop) : Prop := ∀ μ κ : Mem, Inv μ κ → ∃ (r : Int32) (ν ξ : Mem), fX7_latest μ = some (r, ν) ∧ fX8_latest κ = some (r, ξ) ∧ Inv ν ξ
theorem mlL_129 : Cond.methodLink RL 129 yX7_latest ∈ GW := gw_of 786 (by decide +kernel) (by decide +kernel)
theorem mlL_132 : Cond.methodLink RL 132 yX8_latest ∈ GW := gw_of 1296 (by decide +kernel) (by decide +kernel)
def ST_leave (Inv : Mem → Mem → Prop) : Prop := ∀ μ κ : Mem, Inv μ κ → ∀ a1 : Int32, ∃ (r : Int32) (ν ξ : Mem), fX7_leave a1 μ = some (r, ν) ∧ fX8_leave a1 κ = some (r, ξ) ∧ Inv ν ξ
theorem mlL_133 : Cond.methodLink RL 133 yX7_leave ∈ GW := gw_of 790 (by decide +kernel) (by decide +kernel)
theorem mlL_136 : Cond.methodLink RL 136 yX8_leave ∈ GW := gw_of 1300 (by decide +kernel) (by decide +kernel)
def ST_mean (Inv : Mem → Mem → Prop) : Prop := ∀ μ κ : Mem, Inv μ κ → ∀ a1 a2 : Int32, ∃ (r : Int64) (ν ξ : Mem), fX7_mean a1 a2 μ = some (r, ν) ∧ fX8_mean a1 a2 κ = some (r, ξ) ∧ Inv ν ξ
theorem mlL_137 : Cond.methodLink RL 137 yX7_mean ∈ GW := gw_of 796 (by decide +kernel) (by decide +kernel)
theorem mlL_141 : Cond.methodLink RL 141 yX8_mean ∈ GW := gw_of 1304 (by decide +kernel) (by decide +kernel)
def ST_luck (Inv : Mem → Mem → Prop) : Prop := ∀ μ κ : Mem, Inv μ κ → ∀ a1 a2 a3 : Int32, ∃ (r : Int64) (ν ξ : Mem), fX7_luck a1 a2 a3 μ = some (r, ν) ∧ fX8_luck a1 a2 a3 κ = some (r, ξ) ∧ Inv ν ξ
theorem mlL_142 : Cond.methodLink RL 142 yX7_luck ∈ GW := gw_of 805 (by decide +kernel) (by decide +kernel)
theorem mlL_146 : Cond.methodLink RL 146 yX8_luck ∈ GW := gw_of 1313 (by decide +kernel) (by decide +kernel)
def ST_see (Inv : Mem → Mem → Prop) : Prop := ∀ μ κ : Mem, Inv μ κ → ∀ a1 a2 : Int32, ∃ (r : Int32) (ν ξ : Mem), fX7_see a1 a2 μ = some (r, ν) ∧ fX8_see a1 a2 κ = some (r, ξ) ∧ Inv ν ξ
theorem mlL_147 : Cond.methodLink RL 147 yX7_see ∈ GW := gw_of 813 (by decide +kernel) (by decide +kernel)
theorem mlL_150 : Cond.methodLink RL 150 yX8_see ∈ GW := gw_of 1318 (by decide +kernel) (by decide +kernel)
def ST_forget (Inv : Mem → Mem → Prop) : Prop := ∀ μ κ : Mem, Inv μ κ → ∀ a1 : Int32, ∃ (r : Int32) (ν ξ : Mem), fX7_forget a1 μ = some (r, ν) ∧ fX8_forget a1 κ = some (r, ξ) ∧ Inv ν ξ
theorem mlL_151 : Cond.methodLink RL 151 yX7_forget ∈ GW := gw_of 821 (by decide +kernel) (by decide +kernel)
theorem mlL_154 : Cond.methodLink RL 154 yX8_forget ∈ GW := gw_of 1323 (by decide +kernel) (by decide +kernel)
def ST_fits (Inv : Mem → Mem → Prop) : Prop := ∀ μ κ : Mem, Inv μ κ → ∀ a1 : Int32, ∃ (r : Int32) (ν ξ : Mem), fX7_fits a1 μ = some (r, ν) ∧ fX8_fits a1 κ = some (r, ξ) ∧ Inv ν ξ
theorem mlL_155 : Cond.methodLink RL 155 yX7_fits ∈ GW := gw_of 825 (by decide +kernel) (by decide +kernel)
theorem mlL_158 : Cond.methodLink RL 158 yX8_fits ∈ GW := gw_of 1327 (by decide +kernel) (by decide +kernel)
def ST_drift (Inv : Mem → Mem → Prop) : Prop := ∀ μ κ : Mem, Inv μ κ → ∀ a1 a2 a3 : Int32, ∃ (r : Int32) (ν ξ : Mem), fX7_drift a1 a2 a3 μ = some (r, ν) ∧ fX8_drift a1 a2 a3 κ = some (r, ξ) ∧ Inv ν ξ
theorem mlL_159 : Cond.methodLink RL 159 yX7_drift ∈ GW := gw_of 833 (by decide +kernel) (by decide +kernel)
theorem mlL_162 : Cond.methodLink RL 162 yX8_drift ∈ GW := gw_of 1335 (by decide +kernel) (by decide +kernel)
def ST_keep (Inv : Mem → Mem → Prop) : Prop := ∀ μ κ : Mem, Inv μ κ → ∀ a1 : Int32, ∃ (r : Int32) (ν ξ : Mem), fX7_keep a1 μ = some (r, ν) ∧ fX8_keep a1 κ = some (r, ξ) ∧ Inv ν ξ
theorem mlL_163 : Cond.methodLink RL 163 yX7_keep ∈ GW := gw_of 840 (by decide +kernel) (by decide +kernel)
theorem mlL_166 : Cond.methodLink RL 166 yX8_keep ∈ GW := gw_of 1344 (by decide +kernel) (by decide +kernel)
def ST_undo (Inv : Mem → Mem → Prop) : Prop := ∀ μ κ : Mem, Inv μ κ → ∀ a1 : Int32, ∃ (r : Int32) (ν ξ : Mem), fX7_undo a1 μ = some (r, ν) ∧ fX8_undo a1 κ = some (r, ξ) ∧ Inv ν ξ
theorem mlL_167 : Cond.methodLink RL 167 yX7_undo ∈ GW := gw_of 844 (by decide +kernel) (by decide +kernel)
theorem mlL_170 : Cond.methodLink RL 170 yX8_undo ∈ GW := gw_of 1348 (by decide +kernel) (by decide +kernel)
def ST_sheet (Inv : Mem → Mem → Prop) : Prop := ∀ μ κ : Mem, Inv μ κ → ∀ a1 a2 a3 : Int32, ∃ (r : Int32) (ν ξ : Mem), fX7_sheet a1 a2 a3 μ = some (r, ν) ∧ fX8_sheet a1 a2 a3 κ = some (r, ξ) ∧ Inv ν ξ
theorem mlL_171 : Cond.methodLink RL 171 yX7_sheet ∈ GW := gw_of 848 (by decide +kernel) (by decide +kernel)
theorem mlL_174 : Cond.methodLink RL 174 yX8_sheet ∈ GW := gw_of 1352 (by decide +kernel) (by decide +kernel)
def ST_lay (Inv : Mem → Mem → Prop) : Prop := ∀ μ κ : Mem, Inv μ κ → ∀ a1 a2 a3 : Int32, ∃ (r : Int32) (ν ξ : Mem), fX7_lay a1 a2 a3 μ = some (r, ν) ∧ fX8_lay a1 a2 a3 κ = some (r, ξ) ∧ Inv ν ξ
theorem mlL_175 : Cond.methodLink RL 175 yX7_lay ∈ GW := gw_of 857 (by decide +kernel) (by decide +kernel)
theorem mlL_178 : Cond.methodLink RL 178 yX8_lay ∈ GW := gw_of 1356 (by decide +kernel) (by decide +kernel)
def ST_read (Inv : Mem → Mem → Prop) : Prop := ∀ μ κ : Mem, Inv μ κ → ∀ a1 a2 a3 a4 : Int32, ∃ (r : Int32) (ν ξ : Mem), fX7_read a1 a2 a3 a4 μ = some (r, ν) ∧ fX8_read a1 a2 a3 a4 κ = some (r, ξ) ∧ Inv ν ξ
theorem mlL_179 : Cond.methodLink RL 179 yX7_read ∈ GW := gw_of 869 (by decide +kernel) (by decide +kernel)
theorem mlL_183 : Cond.methodLink RL 183 yX8_read ∈ GW := gw_of 1360 (by decide +kernel) (by decide +kernel)
def ST_torn (Inv : Mem → Mem → Prop) : Prop := ∀ μ κ : Mem, Inv μ κ → ∃ (r : Int32) (ν ξ : Mem), fX7_torn μ = some (r, ν) ∧ fX8_torn κ = some (r, ξ) ∧ Inv ν ξ
theorem mlL_184 : Cond.methodLink RL 184 yX7_torn ∈ GW := gw_of 883 (by decide +kernel) (by decide +kernel)
theorem mlL_187 : Cond.methodLink RL 187 yX8_torn ∈ GW := gw_of 1365 (by decide +kernel) (by decide +kernel)
def ST_count (Inv : Mem → Mem → Prop) : Prop := ∀ μ κ : Mem, Inv μ κ → ∀ a1 : Int32, ∃ (r : Int32) (ν ξ : Mem), fX7_count a1 μ = some (r, ν) ∧ fX8_count a1 κ = some (r, ξ) ∧ Inv ν ξ
theorem mlL_188 : Cond.methodLink RL 188 yX7_count ∈ GW := gw_of 887 (by decide +kernel) (by decide +kernel)
theorem mlL_191 : Cond.methodLink RL 191 yX8_count ∈ GW := gw_of 1369 (by decide +kernel) (by decide +kernel)
set_option maxHeartbeats 4000000 in
theorem lwc_feed {Inv : Mem → Mem → Prop} (C : CL p s m meth c b Ln xs D adX adM cA sz) (hst : ST_feed Inv) {i : Nat} (hi : i + 4 < Ln) (hI : Inv μ κ) (hk : ∀ ν ξ, Inv ν ξ → LW p l e s m below meth c b sz D adX adM cA 1371 [(0, .ref b), (1, .ref (adX 0)), (2, .ref (adM 0)), (3, .int (nI i))] [] ν ξ) : LW p l e s m below meth c b sz D adX adM cA 220 [(0, .ref b), (1, .ref (adX 0)), (2, .ref (adM 0)), (3, .int (nI i))] [] μ κ := by
  obtain ⟨r, ν, ξ, h1, h2, h3⟩ := hst μ κ hI (xs (i + 1))
  refine lwr_aload C 1 dL_law_220 rfl rfl ?_
  refine lwr_arg (v := (1 : Int32)) (k := 1) C 0 3 (by omega) dL_law_221 dL_law_222 dL_law_223 dL_law_224 dL_law_225 (by decide) rfl rfl rfl ?_
  refine lwr_callX (st := []) (As := [.int (xs (i + 1))]) C (kX7_feed C.2.2.2.2.1 h1) mi_X7_feed mlL_13 mv_X7_feed ms_X7_feed rfl (by decide) (Nat.le_of_ble_eq_true rfl) dL_law_226 ?_
  refine lwr_aload C 2 dL_law_229 rfl rfl ?_
  refine lwr_arg (v := (1 : Int32)) (k := 1) C 0 3 (by omega) dL_law_230 dL_law_231 dL_law_232 dL_law_233 dL_law_234 (by decide) rfl rfl rfl ?_
  refine lwr_callM (st := [.int r]) (As := [.int (xs (i + 1))]) C (kX8_feed C.2.2.2.2.2.1 h2) mi_X8_feed mlL_17 mv_X8_feed ms_X8_feed rfl (by decide) (Nat.le_of_ble_eq_true rfl) dL_law_235 ?_
  refine lwr_eqT (tgt := 1371) C dL_law_238 (by decide) ?_
  exact hk ν ξ h3
set_option maxHeartbeats 4000000 in
theorem lwc_end {Inv : Mem → Mem → Prop} (C : CL p s m meth c b Ln xs D adX adM cA sz) (hst : ST_end Inv) {i : Nat} (hi : i + 4 < Ln) (hI : Inv μ κ) (hk : ∀ ν ξ, Inv ν ξ → LW p l e s m below meth c b sz D adX adM cA 1371 [(0, .ref b), (1, .ref (adX 0)), (2, .ref (adM 0)), (3, .int (nI i))] [] ν ξ) : LW p l e s m below meth c b sz D adX adM cA 243 [(0, .ref b), (1, .ref (adX 0)), (2, .ref (adM 0)), (3, .int (nI i))] [] μ κ := by
  obtain ⟨r, ν, ξ, h1, h2, h3⟩ := hst μ κ hI (xs (i + 1))
  refine lwr_aload C 1 dL_law_243 rfl rfl ?_
  refine lwr_arg (v := (1 : Int32)) (k := 1) C 0 3 (by omega) dL_law_244 dL_law_245 dL_law_246 dL_law_247 dL_law_248 (by decide) rfl rfl rfl ?_
  refine lwr_callX (st := []) (As := [.int (xs (i + 1))]) C (kX7_end C.2.2.2.2.1 h1) mi_X7_end mlL_18 mv_X7_end ms_X7_end rfl (by decide) (Nat.le_of_ble_eq_true rfl) dL_law_249 ?_
  refine lwr_aload C 2 dL_law_252 rfl rfl ?_
  refine lwr_arg (v := (1 : Int32)) (k := 1) C 0 3 (by omega) dL_law_253 dL_law_254 dL_law_255 dL_law_256 dL_law_257 (by decide) rfl rfl rfl ?_
  refine lwr_callM (st := [.int r]) (As := [.int (xs (i + 1))]) C (kX8_end C.2.2.2.2.2.1 h2) mi_X8_end mlL_21 mv_X8_end ms_X8_end rfl (by decide) (Nat.le_of_ble_eq_true rfl) dL_law_258 ?_
  refine lwr_eqT (tgt := 1371) C dL_law_261 (by decide) ?_
  exact hk ν ξ h3
set_option maxHeartbeats 4000000 in
theorem lwc_text {Inv : Mem → Mem → Prop} (C : CL p s m meth c b Ln xs D adX adM cA sz) (hst : ST_text Inv) {i : Nat} (hi : i + 4 < Ln) (hI : Inv μ κ) (hk : ∀ ν ξ, Inv ν ξ → LW p l e s m below meth c b sz D adX adM cA 1371 [(0, .ref b), (1, .ref (adX 0)), (2, .ref (adM 0)), (3, .int (nI i))] [] ν ξ) : LW p l e s m below meth c b sz D adX adM cA 266 [(0, .ref b), (1, .ref (adX 0)), (2, .ref (adM 0)), (3, .int (nI i))] [] μ κ := by
  obtain ⟨r, ν, ξ, h1, h2, h3⟩ := hst μ κ hI
  refine lwr_aload C 1 dL_law_266 rfl rfl ?_
  refine lwr_callX (st := []) (As := []) C (kX7_text C.2.2.2.2.1 h1) mi_X7_text mlL_22 mv_X7_text ms_X7_text rfl (by decide) (Nat.le_of_ble_eq_true rfl) dL_law_267 ?_
  refine lwr_aload C 2 dL_law_270 rfl rfl ?_
  refine lwr_callM (st := [.int r]) (As := []) C (kX8_text C.2.2.2.2.2.1 h2) mi_X8_text mlL_26 mv_X8_text ms_X8_text rfl (by decide) (Nat.le_of_ble_eq_true rfl) dL_law_271 ?_
  refine lwr_eqT (tgt := 1371) C dL_law_274 (by decide) ?_
  exact hk ν ξ h3
set_option maxHeartbeats 4000000 in
theorem lwc_fault {Inv : Mem → Mem → Prop} (C : CL p s m meth c b Ln xs D adX adM cA sz) (hst : ST_fault Inv) {i : Nat} (hi : i + 4 < Ln) (hI : Inv μ κ) (hk : ∀ ν ξ, Inv ν ξ → LW p l e s m below meth c b sz D adX adM cA 1371 [(0, .ref b), (1, .ref (adX 0)), (2, .ref (adM 0)), (3, .int (nI i))] [] ν ξ) : LW p l e s m below meth c b sz D adX adM cA 279 [(0, .ref b), (1, .ref (adX 0)), (2, .ref (adM 0)), (3, .int (nI i))] [] μ κ := by
  obtain ⟨r, ν, ξ, h1, h2, h3⟩ := hst μ κ hI
  refine lwr_aload C 1 dL_law_279 rfl rfl ?_
  refine lwr_callX (st := []) (As := []) C (kX7_fault C.2.2.2.2.1 h1) mi_X7_fault mlL_27 mv_X7_fault ms_X7_fault rfl (by decide) (Nat.le_of_ble_eq_true rfl) dL_law_280 ?_
  refine lwr_aload C 2 dL_law_283 rfl rfl ?_
  refine lwr_callM (st := [.int r]) (As := []) C (kX8_fault C.2.2.2.2.2.1 h2) mi_X8_fault mlL_30 mv_X8_fault ms_X8_fault rfl (by decide) (Nat.le_of_ble_eq_true rfl) dL_law_284 ?_
  refine lwr_eqT (tgt := 1371) C dL_law_287 (by decide) ?_
  exact hk ν ξ h3
set_option maxHeartbeats 4000000 in
theorem lwc_rule {Inv : Mem → Mem → Prop} (C : CL p s m meth c b Ln xs D adX adM cA sz) (hst : ST_rule Inv) {i : Nat} (hi : i + 4 < Ln) (hI : Inv μ κ) (hk : ∀ ν ξ, Inv ν ξ → LW p l e s m below meth c b sz D adX adM cA 1371 [(0, .ref b), (1, .ref (adX 0)), (2, .ref (adM 0)), (3, .int (nI i))] [] ν ξ) : LW p l e s m below meth c b sz D adX adM cA 292 [(0, .ref b), (1, .ref (adX 0)), (2, .ref (adM 0)), (3, .int (nI i))] [] μ κ := by
  obtain ⟨r, ν, ξ, h1, h2, h3⟩ := hst μ κ hI (xs (i + 1))
  refine lwr_aload C 1 dL_law_292 rfl rfl ?_
  refine lwr_arg (v := (1 : Int32)) (k := 1) C 0 3 (by omega) dL_law_293 dL_law_294 dL_law_295 dL_law_296 dL_law_297 (by decide) rfl rfl rfl ?_
  refine lwr_callX (st := []) (As := [.int (xs (i + 1))]) C (kX7_rule C.2.2.2.2.1 h1) mi_X7_rule mlL_31 mv_X7_rule ms_X7_rule rfl (by decide) (Nat.le_of_ble_eq_true rfl) dL_law_298 ?_
  refine lwr_aload C 2 dL_law_301 rfl rfl ?_
  refine lwr_arg (v := (1 : Int32)) (k := 1) C 0 3 (by omega) dL_law_302 dL_law_303 dL_law_304 dL_law_305 dL_law_306 (by decide) rfl rfl rfl ?_
  refine lwr_callM (st := [.int r]) (As := [.int (xs (i + 1))]) C (kX8_rule C.2.2.2.2.2.1 h2) mi_X8_rule mlL_34 mv_X8_rule ms_X8_rule rfl (by decide) (Nat.le_of_ble_eq_true rfl) dL_law_307 ?_
  refine lwr_eqT (tgt := 1371) C dL_law_310 (by decide) ?_
  exact hk ν ξ h3
set_option maxHeartbeats 4000000 in
theorem lwc_house {Inv : Mem → Mem → Prop} (C : CL p s m meth c b Ln xs D adX adM cA sz) (hst : ST_house Inv) {i : Nat} (hi : i + 4 < Ln) (hI : Inv μ κ) (hk : ∀ ν ξ, Inv ν ξ → LW p l e s m below meth c b sz D adX adM cA 1371 [(0, .ref b), (1, .ref (adX 0)), (2, .ref (adM 0)), (3, .int (nI i))] [] ν ξ) : LW p l e s m below meth c b sz D adX adM cA 315 [(0, .ref b), (1, .ref (adX 0)), (2, .ref (adM 0)), (3, .int (nI i))] [] μ κ := by
  obtain ⟨r, ν, ξ, h1, h2, h3⟩ := hst μ κ hI (xs (i + 1)) (xs (i + 2))
  refine lwr_aload C 1 dL_law_315 rfl rfl ?_
  refine lwr_arg (v := (1 : Int32)) (k := 1) C 0 3 (by omega) dL_law_316 dL_law_317 dL_law_318 dL_law_319 dL_law_320 (by decide) rfl rfl rfl ?_
  refine lwr_arg (v := (2 : Int32)) (k := 2) C 0 3 (by omega) dL_law_321 dL_law_322 dL_law_323 dL_law_324 dL_law_325 (by decide) rfl rfl rfl ?_
  refine lwr_callX (st := []) (As := [.int (xs (i + 1)), .int (xs (i + 2))]) C (kX7_house C.2.2.2.2.1 h1) mi_X7_house mlL_35 mv_X7_house ms_X7_house rfl (by decide) (Nat.le_of_ble_eq_true rfl) dL_law_326 ?_
  refine lwr_aload C 2 dL_law_329 rfl rfl ?_
  refine lwr_arg (v := (1 : Int32)) (k := 1) C 0 3 (by omega) dL_law_330 dL_law_331 dL_law_332 dL_law_333 dL_law_334 (by decide) rfl rfl rfl ?_
  refine lwr_arg (v := (2 : Int32)) (k := 2) C 0 3 (by omega) dL_law_335 dL_law_336 dL_law_337 dL_law_338 dL_law_339 (by decide) rfl rfl rfl ?_
  refine lwr_callM (st := [.int r]) (As := [.int (xs (i + 1)), .int (xs (i + 2))]) C (kX8_house C.2.2.2.2.2.1 h2) mi_X8_house mlL_39 mv_X8_house ms_X8_house rfl (by decide) (Nat.le_of_ble_eq_true rfl) dL_law_340 ?_
  refine lwr_eqT (tgt := 1371) C dL_law_343 (by decide) ?_
  exact hk ν ξ h3
set_option maxHeartbeats 4000000 in
theorem lwc_order {Inv : Mem → Mem → Prop} (C : CL p s m meth c b Ln xs D adX adM cA sz) (hst : ST_order Inv) {i : Nat} (hi : i + 4 < Ln) (hI : Inv μ κ) (hk : ∀ ν ξ, Inv ν ξ → LW p l e s m below meth c b sz D adX adM cA 1371 [(0, .ref b), (1, .ref (adX 0)), (2, .ref (adM 0)), (3, .int (nI i))] [] ν ξ) : LW p l e s m below meth c b sz D adX adM cA 348 [(0, .ref b), (1, .ref (adX 0)), (2, .ref (adM 0)), (3, .int (nI i))] [] μ κ := by
  obtain ⟨r, ν, ξ, h1, h2, h3⟩ := hst μ κ hI (xs (i + 1)) (xs (i + 2))
  refine lwr_aload C 1 dL_law_348 rfl rfl ?_
  refine lwr_arg (v := (1 : Int32)) (k := 1) C 0 3 (by omega) dL_law_349 dL_law_350 dL_law_351 dL_law_352 dL_law_353 (by decide) rfl rfl rfl ?_
  refine lwr_arg (v := (2 : Int32)) (k := 2) C 0 3 (by omega) dL_law_354 dL_law_355 dL_law_356 dL_law_357 dL_law_358 (by decide) rfl rfl rfl ?_
  refine lwr_callX (st := []) (As := [.int (xs (i + 1)), .int (xs (i + 2))]) C (kX7_order C.2.2.2.2.1 h1) mi_X7_order mlL_40 mv_X7_order ms_X7_order rfl (by decide) (Nat.le_of_ble_eq_true rfl) dL_law_359 ?_
  refine lwr_aload C 2 dL_law_362 rfl rfl ?_
  refine lwr_arg (v := (1 : Int32)) (k := 1) C 0 3 (by omega) dL_law_363 dL_law_364 dL_law_365 dL_law_366 dL_law_367 (by decide) rfl rfl rfl ?_
  refine lwr_arg (v := (2 : Int32)) (k := 2) C 0 3 (by omega) dL_law_368 dL_law_369 dL_law_370 dL_law_371 dL_law_372 (by decide) rfl rfl rfl ?_
  refine lwr_callM (st := [.int r]) (As := [.int (xs (i + 1)), .int (xs (i + 2))]) C (kX8_order C.2.2.2.2.2.1 h2) mi_X8_order mlL_43 mv_X8_order ms_X8_order rfl (by decide) (Nat.le_of_ble_eq_true rfl) dL_law_373 ?_
  refine lwr_eqT (tgt := 1371) C dL_law_376 (by decide) ?_
  exact hk ν ξ h3
set_option maxHeartbeats 4000000 in
theorem lwc_set {Inv : Mem → Mem → Prop} (C : CL p s m meth c b Ln xs D adX adM cA sz) (hst : ST_set Inv) {i : Nat} (hi : i + 4 < Ln) (hI : Inv μ κ) (hk : ∀ ν ξ, Inv ν ξ → LW p l e s m below meth c b sz D adX adM cA 1371 [(0, .ref b), (1, .ref (adX 0)), (2, .ref (adM 0)), (3, .int (nI i))] [] ν ξ) : LW p l e s m below meth c b sz D adX adM cA 381 [(0, .ref b), (1, .ref (adX 0)), (2, .ref (adM 0)), (3, .int (nI i))] [] μ κ := by
  obtain ⟨r, ν, ξ, h1, h2, h3⟩ := hst μ κ hI (xs (i + 1)) (xs (i + 2))
  refine lwr_aload C 1 dL_law_381 rfl rfl ?_
  refine lwr_arg (v := (1 : Int32)) (k := 1) C 0 3 (by omega) dL_law_382 dL_law_383 dL_law_384 dL_law_385 dL_law_386 (by decide) rfl rfl rfl ?_
  refine lwr_arg (v := (2 : Int32)) (k := 2) C 0 3 (by omega) dL_law_387 dL_law_388 dL_law_389 dL_law_390 dL_law_391 (by decide) rfl rfl rfl ?_
  refine lwr_callX (st := []) (As := [.int (xs (i + 1)), .int (xs (i + 2))]) C (kX7_set C.2.2.2.2.1 h1) mi_X7_set mlL_44 mv_X7_set ms_X7_set rfl (by decide) (Nat.le_of_ble_eq_true rfl) dL_law_392 ?_
  refine lwr_aload C 2 dL_law_395 rfl rfl ?_
  refine lwr_arg (v := (1 : Int32)) (k := 1) C 0 3 (by omega) dL_law_396 dL_law_397 dL_law_398 dL_law_399 dL_law_400 (by decide) rfl rfl rfl ?_
  refine lwr_arg (v := (2 : Int32)) (k := 2) C 0 3 (by omega) dL_law_401 dL_law_402 dL_law_403 dL_law_404 dL_law_405 (by decide) rfl rfl rfl ?_
  refine lwr_callM (st := [.int r]) (As := [.int (xs (i + 1)), .int (xs (i + 2))]) C (kX8_set C.2.2.2.2.2.1 h2) mi_X8_set mlL_47 mv_X8_set ms_X8_set rfl (by decide) (Nat.le_of_ble_eq_true rfl) dL_law_406 ?_
  refine lwr_eqT (tgt := 1371) C dL_law_409 (by decide) ?_
  exact hk ν ξ h3
set_option maxHeartbeats 4000000 in
theorem lwc_pack {Inv : Mem → Mem → Prop} (C : CL p s m meth c b Ln xs D adX adM cA sz) (hst : ST_pack Inv) {i : Nat} (hi : i + 4 < Ln) (hI : Inv μ κ) (hk : ∀ ν ξ, Inv ν ξ → LW p l e s m below meth c b sz D adX adM cA 1371 [(0, .ref b), (1, .ref (adX 0)), (2, .ref (adM 0)), (3, .int (nI i))] [] ν ξ) : LW p l e s m below meth c b sz D adX adM cA 414 [(0, .ref b), (1, .ref (adX 0)), (2, .ref (adM 0)), (3, .int (nI i))] [] μ κ := by
  obtain ⟨r, ν, ξ, h1, h2, h3⟩ := hst μ κ hI (xs (i + 1)) (xs (i + 2))
  refine lwr_aload C 1 dL_law_414 rfl rfl ?_
  refine lwr_arg (v := (1 : Int32)) (k := 1) C 0 3 (by omega) dL_law_415 dL_law_416 dL_law_417 dL_law_418 dL_law_419 (by decide) rfl rfl rfl ?_
  refine lwr_arg (v := (2 : Int32)) (k := 2) C 0 3 (by omega) dL_law_420 dL_law_421 dL_law_422 dL_law_423 dL_law_424 (by decide) rfl rfl rfl ?_
  refine lwr_callX (st := []) (As := [.int (xs (i + 1)), .int (xs (i + 2))]) C (kX7_pack C.2.2.2.2.1 h1) mi_X7_pack mlL_48 mv_X7_pack ms_X7_pack rfl (by decide) (Nat.le_of_ble_eq_true rfl) dL_law_425 ?_
  refine lwr_aload C 2 dL_law_428 rfl rfl ?_
  refine lwr_arg (v := (1 : Int32)) (k := 1) C 0 3 (by omega) dL_law_429 dL_law_430 dL_law_431 dL_law_432 dL_law_433 (by decide) rfl rfl rfl ?_
  refine lwr_arg (v := (2 : Int32)) (k := 2) C 0 3 (by omega) dL_law_434 dL_law_435 dL_law_436 dL_law_437 dL_law_438 (by decide) rfl rfl rfl ?_
  refine lwr_callM (st := [.int r]) (As := [.int (xs (i + 1)), .int (xs (i + 2))]) C (kX8_pack C.2.2.2.2.2.1 h2) mi_X8_pack mlL_51 mv_X8_pack ms_X8_pack rfl (by decide) (Nat.le_of_ble_eq_true rfl) dL_law_439 ?_
  refine lwr_eqT (tgt := 1371) C dL_law_442 (by decide) ?_
  exact hk ν ξ h3
set_option maxHeartbeats 4000000 in
theorem lwc_swap {Inv : Mem → Mem → Prop} (C : CL p s m meth c b Ln xs D adX adM cA sz) (hst : ST_swap Inv) {i : Nat} (hi : i + 4 < Ln) (hI : Inv μ κ) (hk : ∀ ν ξ, Inv ν ξ → LW p l e s m below meth c b sz D adX adM cA 1371 [(0, .ref b), (1, .ref (adX 0)), (2, .ref (adM 0)), (3, .int (nI i))] [] ν ξ) : LW p l e s m below meth c b sz D adX adM cA 447 [(0, .ref b), (1, .ref (adX 0)), (2, .ref (adM 0)), (3, .int (nI i))] [] μ κ := by
  obtain ⟨r, ν, ξ, h1, h2, h3⟩ := hst μ κ hI (xs (i + 1)) (xs (i + 2))
  refine lwr_aload C 1 dL_law_447 rfl rfl ?_
  refine lwr_arg (v := (1 : Int32)) (k := 1) C 0 3 (by omega) dL_law_448 dL_law_449 dL_law_450 dL_law_451 dL_law_452 (by decide) rfl rfl rfl ?_
  refine lwr_arg (v := (2 : Int32)) (k := 2) C 0 3 (by omega) dL_law_453 dL_law_454 dL_law_455 dL_law_456 dL_law_457 (by decide) rfl rfl rfl ?_
  refine lwr_callX (st := []) (As := [.int (xs (i + 1)), .int (xs (i + 2))]) C (kX7_swap C.2.2.2.2.1 h1) mi_X7_swap mlL_52 mv_X7_swap ms_X7_swap rfl (by decide) (Nat.le_of_ble_eq_true rfl) dL_law_458 ?_
  refine lwr_aload C 2 dL_law_461 rfl rfl ?_
  refine lwr_arg (v := (1 : Int32)) (k := 1) C 0 3 (by omega) dL_law_462 dL_law_463 dL_law_464 dL_law_465 dL_law_466 (by decide) rfl rfl rfl ?_
  refine lwr_arg (v := (2 : Int32)) (k := 2) C 0 3 (by omega) dL_law_467 dL_law_468 dL_law_469 dL_law_470 dL_law_471 (by decide) rfl rfl rfl ?_
  refine lwr_callM (st := [.int r]) (As := [.int (xs (i + 1)), .int (xs (i + 2))]) C (kX8_swap C.2.2.2.2.2.1 h2) mi_X8_swap mlL_55 mv_X8_swap ms_X8_swap rfl (by decide) (Nat.le_of_ble_eq_true rfl) dL_law_472 ?_
  refine lwr_eqT (tgt := 1371) C dL_law_475 (by decide) ?_
  exact hk ν ξ h3
set_option maxHeartbeats 4000000 in
theorem lwc_top {Inv : Mem → Mem → Prop} (C : CL p s m meth c b Ln xs D adX adM cA sz) (hst : ST_top Inv) {i : Nat} (hi : i + 4 < Ln) (hI : Inv μ κ) (hk : ∀ ν ξ, Inv ν ξ → LW p l e s m below meth c b sz D adX adM cA 1371 [(0, .ref b), (1, .ref (adX 0)), (2, .ref (adM 0)), (3, .int (nI i))] [] ν ξ) : LW p l e s m below meth c b sz D adX adM cA 480 [(0, .ref b), (1, .ref (adX 0)), (2, .ref (adM 0)), (3, .int (nI i))] [] μ κ := by
  obtain ⟨r, ν, ξ, h1, h2, h3⟩ := hst μ κ hI (xs (i + 1))
  refine lwr_aload C 1 dL_law_480 rfl rfl ?_
  refine lwr_arg (v := (1 : Int32)) (k := 1) C 0 3 (by omega) dL_law_481 dL_law_482 dL_law_483 dL_law_484 dL_law_485 (by decide) rfl rfl rfl ?_
  refine lwr_callX (st := []) (As := [.int (xs (i + 1))]) C (kX7_top C.2.2.2.2.1 h1) mi_X7_top mlL_56 mv_X7_top ms_X7_top rfl (by decide) (Nat.le_of_ble_eq_true rfl) dL_law_486 ?_
  refine lwr_aload C 2 dL_law_489 rfl rfl ?_
  refine lwr_arg (v := (1 : Int32)) (k := 1) C 0 3 (by omega) dL_law_490 dL_law_491 dL_law_492 dL_law_493 dL_law_494 (by decide) rfl rfl rfl ?_
  refine lwr_callM (st := [.int r]) (As := [.int (xs (i + 1))]) C (kX8_top C.2.2.2.2.2.1 h2) mi_X8_top mlL_59 mv_X8_top ms_X8_top rfl (by decide) (Nat.le_of_ble_eq_true rfl) dL_law_495 ?_
  refine lwr_eqT (tgt := 1371) C dL_law_498 (by decide) ?_
  exact hk ν ξ h3
set_option maxHeartbeats 4000000 in
theorem lwc_first {Inv : Mem → Mem → Prop} (C : CL p s m meth c b Ln xs D adX adM cA sz) (hst : ST_first Inv) {i : Nat} (hi : i + 4 < Ln) (hI : Inv μ κ) (hk : ∀ ν ξ, Inv ν ξ → LW p l e s m below meth c b sz D adX adM cA 1371 [(0, .ref b), (1, .ref (adX 0)), (2, .ref (adM 0)), (3, .int (nI i))] [] ν ξ) : LW p l e s m below meth c b sz D adX adM cA 503 [(0, .ref b), (1, .ref (adX 0)), (2, .ref (adM 0)), (3, .int (nI i))] [] μ κ := by
  obtain ⟨r, ν, ξ, h1, h2, h3⟩ := hst μ κ hI (xs (i + 1))
  refine lwr_aload C 1 dL_law_503 rfl rfl ?_
  refine lwr_arg (v := (1 : Int32)) (k := 1) C 0 3 (by omega) dL_law_504 dL_law_505 dL_law_506 dL_law_507 dL_law_508 (by decide) rfl rfl rfl ?_
  refine lwr_callX (st := []) (As := [.int (xs (i + 1))]) C (kX7_first C.2.2.2.2.1 h1) mi_X7_first mlL_60 mv_X7_first ms_X7_first rfl (by decide) (Nat.le_of_ble_eq_true rfl) dL_law_509 ?_
  refine lwr_aload C 2 dL_law_512 rfl rfl ?_
  refine lwr_arg (v := (1 : Int32)) (k := 1) C 0 3 (by omega) dL_law_513 dL_law_514 dL_law_515 dL_law_516 dL_law_517 (by decide) rfl rfl rfl ?_
  refine lwr_callM (st := [.int r]) (As := [.int (xs (i + 1))]) C (kX8_first C.2.2.2.2.2.1 h2) mi_X8_first mlL_63 mv_X8_first ms_X8_first rfl (by decide) (Nat.le_of_ble_eq_true rfl) dL_law_518 ?_
  refine lwr_eqT (tgt := 1371) C dL_law_521 (by decide) ?_
  exact hk ν ξ h3
set_option maxHeartbeats 4000000 in
theorem lwc_ask {Inv : Mem → Mem → Prop} (C : CL p s m meth c b Ln xs D adX adM cA sz) (hst : ST_ask Inv) {i : Nat} (hi : i + 4 < Ln) (hI : Inv μ κ) (hk : ∀ ν ξ, Inv ν ξ → LW p l e s m below meth c b sz D adX adM cA 1371 [(0, .ref b), (1, .ref (adX 0)), (2, .ref (adM 0)), (3, .int (nI i))] [] ν ξ) : LW p l e s m below meth c b sz D adX adM cA 526 [(0, .ref b), (1, .ref (adX 0)), (2, .ref (adM 0)), (3, .int (nI i))] [] μ κ := by
  obtain ⟨r, ν, ξ, h1, h2, h3⟩ := hst μ κ hI (xs (i + 1)) (xs (i + 2)) (xs (i + 3))
  refine lwr_aload C 1 dL_law_526 rfl rfl ?_
  refine lwr_arg (v := (1 : Int32)) (k := 1) C 0 3 (by omega) dL_law_527 dL_law_528 dL_law_529 dL_law_530 dL_law_531 (by decide) rfl rfl rfl ?_
  refine lwr_arg (v := (2 : Int32)) (k := 2) C 0 3 (by omega) dL_law_532 dL_law_533 dL_law_534 dL_law_535 dL_law_536 (by decide) rfl rfl rfl ?_
  refine lwr_arg (v := (3 : Int32)) (k := 3) C 0 3 (by omega) dL_law_537 dL_law_538 dL_law_539 dL_law_540 dL_law_541 (by decide) rfl rfl rfl ?_
  refine lwr_callX (st := []) (As := [.int (xs (i + 1)), .int (xs (i + 2)), .int (xs (i + 3))]) C (kX7_ask C.2.2.2.2.1 h1) mi_X7_ask mlL_64 mv_X7_ask ms_X7_ask rfl (by decide) (Nat.le_of_ble_eq_true rfl) dL_law_542 ?_
  refine lwr_aload C 2 dL_law_545 rfl rfl ?_
  refine lwr_arg (v := (1 : Int32)) (k := 1) C 0 3 (by omega) dL_law_546 dL_law_547 dL_law_548 dL_law_549 dL_law_550 (by decide) rfl rfl rfl ?_
  refine lwr_arg (v := (2 : Int32)) (k := 2) C 0 3 (by omega) dL_law_551 dL_law_552 dL_law_553 dL_law_554 dL_law_555 (by decide) rfl rfl rfl ?_
  refine lwr_arg (v := (3 : Int32)) (k := 3) C 0 3 (by omega) dL_law_556 dL_law_557 dL_law_558 dL_law_559 dL_law_560 (by decide) rfl rfl rfl ?_
  refine lwr_callM (st := [.int r]) (As := [.int (xs (i + 1)), .int (xs (i + 2)), .int (xs (i + 3))]) C (kX8_ask C.2.2.2.2.2.1 h2) mi_X8_ask mlL_68 mv_X8_ask ms_X8_ask rfl (by decide) (Nat.le_of_ble_eq_true rfl) dL_law_561 ?_
  refine lwr_eqT (tgt := 1371) C dL_law_564 (by decide) ?_
  exact hk ν ξ h3
set_option maxHeartbeats 4000000 in
theorem lwc_turn {Inv : Mem → Mem → Prop} (C : CL p s m meth c b Ln xs D adX adM cA sz) (hst : ST_turn Inv) {i : Nat} (hi : i + 4 < Ln) (hI : Inv μ κ) (hk : ∀ ν ξ, Inv ν ξ → LW p l e s m below meth c b sz D adX adM cA 1371 [(0, .ref b), (1, .ref (adX 0)), (2, .ref (adM 0)), (3, .int (nI i))] [] ν ξ) : LW p l e s m below meth c b sz D adX adM cA 569 [(0, .ref b), (1, .ref (adX 0)), (2, .ref (adM 0)), (3, .int (nI i))] [] μ κ := by
  obtain ⟨r, ν, ξ, h1, h2, h3⟩ := hst μ κ hI (xs (i + 1)) (xs (i + 2))
  refine lwr_aload C 1 dL_law_569 rfl rfl ?_
  refine lwr_arg (v := (1 : Int32)) (k := 1) C 0 3 (by omega) dL_law_570 dL_law_571 dL_law_572 dL_law_573 dL_law_574 (by decide) rfl rfl rfl ?_
  refine lwr_arg (v := (2 : Int32)) (k := 2) C 0 3 (by omega) dL_law_575 dL_law_576 dL_law_577 dL_law_578 dL_law_579 (by decide) rfl rfl rfl ?_
  refine lwr_callX (st := []) (As := [.int (xs (i + 1)), .int (xs (i + 2))]) C (kX7_turn C.2.2.2.2.1 h1) mi_X7_turn mlL_69 mv_X7_turn ms_X7_turn rfl (by decide) (Nat.le_of_ble_eq_true rfl) dL_law_580 ?_
  refine lwr_aload C 2 dL_law_583 rfl rfl ?_
  refine lwr_arg (v := (1 : Int32)) (k := 1) C 0 3 (by omega) dL_law_584 dL_law_585 dL_law_586 dL_law_587 dL_law_588 (by decide) rfl rfl rfl ?_
  refine lwr_arg (v := (2 : Int32)) (k := 2) C 0 3 (by omega) dL_law_589 dL_law_590 dL_law_591 dL_law_592 dL_law_593 (by decide) rfl rfl rfl ?_
  refine lwr_callM (st := [.int r]) (As := [.int (xs (i + 1)), .int (xs (i + 2))]) C (kX8_turn C.2.2.2.2.2.1 h2) mi_X8_turn mlL_72 mv_X8_turn ms_X8_turn rfl (by decide) (Nat.le_of_ble_eq_true rfl) dL_law_594 ?_
  refine lwr_eqT (tgt := 1371) C dL_law_597 (by decide) ?_
  exact hk ν ξ h3
set_option maxHeartbeats 4000000 in
theorem lwc_weigh {Inv : Mem → Mem → Prop} (C : CL p s m meth c b Ln xs D adX adM cA sz) (hst : ST_weigh Inv) {i : Nat} (hi : i + 4 < Ln) (hI : Inv μ κ) (hk : ∀ ν ξ, Inv ν ξ → LW p l e s m below meth c b sz D adX adM cA 1371 [(0, .ref b), (1, .ref (adX 0)), (2, .ref (adM 0)), (3, .int (nI i))] [] ν ξ) : LW p l e s m below meth c b sz D adX adM cA 602 [(0, .ref b), (1, .ref (adX 0)), (2, .ref (adM 0)), (3, .int (nI i))] [] μ κ := by
  obtain ⟨r, ν, ξ, h1, h2, h3⟩ := hst μ κ hI (xs (i + 1)) (xs (i + 2))
  refine lwr_aload C 1 dL_law_602 rfl rfl ?_
  refine lwr_arg (v := (1 : Int32)) (k := 1) C 0 3 (by omega) dL_law_603 dL_law_604 dL_law_605 dL_law_606 dL_law_607 (by decide) rfl rfl rfl ?_
  refine lwr_arg (v := (2 : Int32)) (k := 2) C 0 3 (by omega) dL_law_608 dL_law_609 dL_law_610 dL_law_611 dL_law_612 (by decide) rfl rfl rfl ?_
  refine lwr_callX (st := []) (As := [.int (xs (i + 1)), .int (xs (i + 2))]) C (kX7_weigh C.2.2.2.2.1 h1) mi_X7_weigh mlL_73 mv_X7_weigh ms_X7_weigh rfl (by decide) (Nat.le_of_ble_eq_true rfl) dL_law_613 ?_
  refine lwr_aload C 2 dL_law_616 rfl rfl ?_
  refine lwr_arg (v := (1 : Int32)) (k := 1) C 0 3 (by omega) dL_law_617 dL_law_618 dL_law_619 dL_law_620 dL_law_621 (by decide) rfl rfl rfl ?_
  refine lwr_arg (v := (2 : Int32)) (k := 2) C 0 3 (by omega) dL_law_622 dL_law_623 dL_law_624 dL_law_625 dL_law_626 (by decide) rfl rfl rfl ?_
  refine lwr_callM (st := [.int r]) (As := [.int (xs (i + 1)), .int (xs (i + 2))]) C (kX8_weigh C.2.2.2.2.2.1 h2) mi_X8_weigh mlL_76 mv_X8_weigh ms_X8_weigh rfl (by decide) (Nat.le_of_ble_eq_true rfl) dL_law_627 ?_
  refine lwr_eqT (tgt := 1371) C dL_law_630 (by decide) ?_
  exact hk ν ξ h3
set_option maxHeartbeats 4000000 in
theorem lwc_way {Inv : Mem → Mem → Prop} (C : CL p s m meth c b Ln xs D adX adM cA sz) (hst : ST_way Inv) {i : Nat} (hi : i + 4 < Ln) (hI : Inv μ κ) (hk : ∀ ν ξ, Inv ν ξ → LW p l e s m below meth c b sz D adX adM cA 1371 [(0, .ref b), (1, .ref (adX 0)), (2, .ref (adM 0)), (3, .int (nI i))] [] ν ξ) : LW p l e s m below meth c b sz D adX adM cA 635 [(0, .ref b), (1, .ref (adX 0)), (2, .ref (adM 0)), (3, .int (nI i))] [] μ κ := by
  obtain ⟨r, ν, ξ, h1, h2, h3⟩ := hst μ κ hI (xs (i + 1)) (xs (i + 2)) (xs (i + 3))
  refine lwr_aload C 1 dL_law_635 rfl rfl ?_
  refine lwr_arg (v := (1 : Int32)) (k := 1) C 0 3 (by omega) dL_law_636 dL_law_637 dL_law_638 dL_law_639 dL_law_640 (by decide) rfl rfl rfl ?_
  refine lwr_arg (v := (2 : Int32)) (k := 2) C 0 3 (by omega) dL_law_641 dL_law_642 dL_law_643 dL_law_644 dL_law_645 (by decide) rfl rfl rfl ?_
  refine lwr_arg (v := (3 : Int32)) (k := 3) C 0 3 (by omega) dL_law_646 dL_law_647 dL_law_648 dL_law_649 dL_law_650 (by decide) rfl rfl rfl ?_
  refine lwr_callX (st := []) (As := [.int (xs (i + 1)), .int (xs (i + 2)), .int (xs (i + 3))]) C (kX7_way C.2.2.2.2.1 h1) mi_X7_way mlL_77 mv_X7_way ms_X7_way rfl (by decide) (Nat.le_of_ble_eq_true rfl) dL_law_651 ?_
  refine lwr_aload C 2 dL_law_654 rfl rfl ?_
  refine lwr_arg (v := (1 : Int32)) (k := 1) C 0 3 (by omega) dL_law_655 dL_law_656 dL_law_657 dL_law_658 dL_law_659 (by decide) rfl rfl rfl ?_
  refine lwr_arg (v := (2 : Int32)) (k := 2) C 0 3 (by omega) dL_law_660 dL_law_661 dL_law_662 dL_law_663 dL_law_664 (by decide) rfl rfl rfl ?_
  refine lwr_arg (v := (3 : Int32)) (k := 3) C 0 3 (by omega) dL_law_665 dL_law_666 dL_law_667 dL_law_668 dL_law_669 (by decide) rfl rfl rfl ?_
  refine lwr_callM (st := [.int r]) (As := [.int (xs (i + 1)), .int (xs (i + 2)), .int (xs (i + 3))]) C (kX8_way C.2.2.2.2.2.1 h2) mi_X8_way mlL_80 mv_X8_way ms_X8_way rfl (by decide) (Nat.le_of_ble_eq_true rfl) dL_law_670 ?_
  refine lwr_eqT (tgt := 1371) C dL_law_673 (by decide) ?_
  exact hk ν ξ h3
set_option maxHeartbeats 4000000 in
theorem lwc_time {Inv : Mem → Mem → Prop} (C : CL p s m meth c b Ln xs D adX adM cA sz) (hst : ST_time Inv) {i : Nat} (hi : i + 4 < Ln) (hI : Inv μ κ) (hk : ∀ ν ξ, Inv ν ξ → LW p l e s m below meth c b sz D adX adM cA 1371 [(0, .ref b), (1, .ref (adX 0)), (2, .ref (adM 0)), (3, .int (nI i))] [] ν ξ) : LW p l e s m below meth c b sz D adX adM cA 678 [(0, .ref b), (1, .ref (adX 0)), (2, .ref (adM 0)), (3, .int (nI i))] [] μ κ := by
  obtain ⟨r, ν, ξ, h1, h2, h3⟩ := hst μ κ hI (xs (i + 1))
  refine lwr_aload C 1 dL_law_678 rfl rfl ?_
  refine lwr_arg (v := (1 : Int32)) (k := 1) C 0 3 (by omega) dL_law_679 dL_law_680 dL_law_681 dL_law_682 dL_law_683 (by decide) rfl rfl rfl ?_
  refine lwr_callX (st := []) (As := [.int (xs (i + 1))]) C (kX7_time C.2.2.2.2.1 h1) mi_X7_time mlL_81 mv_X7_time ms_X7_time rfl (by decide) (Nat.le_of_ble_eq_true rfl) dL_law_684 ?_
  refine lwr_aload C 2 dL_law_687 rfl rfl ?_
  refine lwr_arg (v := (1 : Int32)) (k := 1) C 0 3 (by omega) dL_law_688 dL_law_689 dL_law_690 dL_law_691 dL_law_692 (by decide) rfl rfl rfl ?_
  refine lwr_callM (st := [.int r]) (As := [.int (xs (i + 1))]) C (kX8_time C.2.2.2.2.2.1 h2) mi_X8_time mlL_84 mv_X8_time ms_X8_time rfl (by decide) (Nat.le_of_ble_eq_true rfl) dL_law_693 ?_
  refine lwr_eqT (tgt := 1371) C dL_law_696 (by decide) ?_
  exact hk ν ξ h3
set_option maxHeartbeats 4000000 in
theorem lwc_back {Inv : Mem → Mem → Prop} (C : CL p s m meth c b Ln xs D adX adM cA sz) (hst : ST_back Inv) {i : Nat} (hi : i + 4 < Ln) (hI : Inv μ κ) (hk : ∀ ν ξ, Inv ν ξ → LW p l e s m below meth c b sz D adX adM cA 1371 [(0, .ref b), (1, .ref (adX 0)), (2, .ref (adM 0)), (3, .int (nI i))] [] ν ξ) : LW p l e s m below meth c b sz D adX adM cA 701 [(0, .ref b), (1, .ref (adX 0)), (2, .ref (adM 0)), (3, .int (nI i))] [] μ κ := by
  obtain ⟨r, ν, ξ, h1, h2, h3⟩ := hst μ κ hI
  refine lwr_aload C 1 dL_law_701 rfl rfl ?_
  refine lwr_callX (st := []) (As := []) C (kX7_back C.2.2.2.2.1 h1) mi_X7_back mlL_85 mv_X7_back ms_X7_back rfl (by decide) (Nat.le_of_ble_eq_true rfl) dL_law_702 ?_
  refine lwr_aload C 2 dL_law_705 rfl rfl ?_
  refine lwr_callM (st := [.int r]) (As := []) C (kX8_back C.2.2.2.2.2.1 h2) mi_X8_back mlL_88 mv_X8_back ms_X8_back rfl (by decide) (Nat.le_of_ble_eq_true rfl) dL_law_706 ?_
  refine lwr_eqT (tgt := 1371) C dL_law_709 (by decide) ?_
  exact hk ν ξ h3
set_option maxHeartbeats 4000000 in
theorem lwc_spoilt {Inv : Mem → Mem → Prop} (C : CL p s m meth c b Ln xs D adX adM cA sz) (hst : ST_spoilt Inv) {i : Nat} (hi : i + 4 < Ln) (hI : Inv μ κ) (hk : ∀ ν ξ, Inv ν ξ → LW p l e s m below meth c b sz D adX adM cA 1371 [(0, .ref b), (1, .ref (adX 0)), (2, .ref (adM 0)), (3, .int (nI i))] [] ν ξ) : LW p l e s m below meth c b sz D adX adM cA 714 [(0, .ref b), (1, .ref (adX 0)), (2, .ref (adM 0)), (3, .int (nI i))] [] μ κ := by
  obtain ⟨r, ν, ξ, h1, h2, h3⟩ := hst μ κ hI
  refine lwr_aload C 1 dL_law_714 rfl rfl ?_
  refine lwr_callX (st := []) (As := []) C (kX7_spoilt C.2.2.2.2.1 h1) mi_X7_spoilt mlL_89 mv_X7_spoilt ms_X7_spoilt rfl (by decide) (Nat.le_of_ble_eq_true rfl) dL_law_715 ?_
  refine lwr_aload C 2 dL_law_718 rfl rfl ?_
  refine lwr_callM (st := [.int r]) (As := []) C (kX8_spoilt C.2.2.2.2.2.1 h2) mi_X8_spoilt mlL_92 mv_X8_spoilt ms_X8_spoilt rfl (by decide) (Nat.le_of_ble_eq_true rfl) dL_law_719 ?_
  refine lwr_eqT (tgt := 1371) C dL_law_722 (by decide) ?_
  exact hk ν ξ h3
set_option maxHeartbeats 4000000 in
theorem lwc_late {Inv : Mem → Mem → Prop} (C : CL p s m meth c b Ln xs D adX adM cA sz) (hst : ST_late Inv) {i : Nat} (hi : i + 4 < Ln) (hI : Inv μ κ) (hk : ∀ ν ξ, Inv ν ξ → LW p l e s m below meth c b sz D adX adM cA 1371 [(0, .ref b), (1, .ref (adX 0)), (2, .ref (adM 0)), (3, .int (nI i))] [] ν ξ) : LW p l e s m below meth c b sz D adX adM cA 727 [(0, .ref b), (1, .ref (adX 0)), (2, .ref (adM 0)), (3, .int (nI i))] [] μ κ := by
  obtain ⟨r, ν, ξ, h1, h2, h3⟩ := hst μ κ hI
  refine lwr_aload C 1 dL_law_727 rfl rfl ?_
  refine lwr_callX (st := []) (As := []) C (kX7_late C.2.2.2.2.1 h1) mi_X7_late mlL_93 mv_X7_late ms_X7_late rfl (by decide) (Nat.le_of_ble_eq_true rfl) dL_law_728 ?_
  refine lwr_aload C 2 dL_law_731 rfl rfl ?_
  refine lwr_callM (st := [.int r]) (As := []) C (kX8_late C.2.2.2.2.2.1 h2) mi_X8_late mlL_96 mv_X8_late ms_X8_late rfl (by decide) (Nat.le_of_ble_eq_true rfl) dL_law_732 ?_
  refine lwr_eqT (tgt := 1371) C dL_law_735 (by decide) ?_
  exact hk ν ξ h3
set_option maxHeartbeats 4000000 in
theorem lwc_pennies {Inv : Mem → Mem → Prop} (C : CL p s m meth c b Ln xs D adX adM cA sz) (hst : ST_pennies Inv) {i : Nat} (hi : i + 4 < Ln) (hI : Inv μ κ) (hk : ∀ ν ξ, Inv ν ξ → LW p l e s m below meth c b sz D adX adM cA 1371 [(0, .ref b), (1, .ref (adX 0)), (2, .ref (adM 0)), (3, .int (nI i))] [] ν ξ) : LW p l e s m below meth c b sz D adX adM cA 740 [(0, .ref b), (1, .ref (adX 0)), (2, .ref (adM 0)), (3, .int (nI i))] [] μ κ := by
  obtain ⟨r, ν, ξ, h1, h2, h3⟩ := hst μ κ hI
  refine lwr_aload C 1 dL_law_740 rfl rfl ?_
  refine lwr_callX (st := []) (As := []) C (kX7_pennies C.2.2.2.2.1 h1) mi_X7_pennies mlL_97 mv_X7_pennies ms_X7_pennies rfl (by decide) (Nat.le_of_ble_eq_true rfl) dL_law_741 ?_
  refine lwr_aload C 2 dL_law_744 rfl rfl ?_
  refine lwr_callM (st := [.int r]) (As := []) C (kX8_pennies C.2.2.2.2.2.1 h2) mi_X8_pennies mlL_100 mv_X8_pennies ms_X8_pennies rfl (by decide) (Nat.le_of_ble_eq_true rfl) dL_law_745 ?_
  refine lwr_eqT (tgt := 1371) C dL_law_748 (by decide) ?_
  exact hk ν ξ h3
set_option maxHeartbeats 4000000 in
theorem lwc_spent {Inv : Mem → Mem → Prop} (C : CL p s m meth c b Ln xs D adX adM cA sz) (hst : ST_spent Inv) {i : Nat} (hi : i + 4 < Ln) (hI : Inv μ κ) (hk : ∀ ν ξ, Inv ν ξ → LW p l e s m below meth c b sz D adX adM cA 1371 [(0, .ref b), (1, .ref (adX 0)), (2, .ref (adM 0)), (3, .int (nI i))] [] ν ξ) : LW p l e s m below meth c b sz D adX adM cA 753 [(0, .ref b), (1, .ref (adX 0)), (2, .ref (adM 0)), (3, .int (nI i))] [] μ κ := by
  obtain ⟨r, ν, ξ, h1, h2, h3⟩ := hst μ κ hI (xs (i + 1))
  refine lwr_aload C 1 dL_law_753 rfl rfl ?_
  refine lwr_arg (v := (1 : Int32)) (k := 1) C 0 3 (by omega) dL_law_754 dL_law_755 dL_law_756 dL_law_757 dL_law_758 (by decide) rfl rfl rfl ?_
  refine lwr_callX (st := []) (As := [.int (xs (i + 1))]) C (kX7_spent C.2.2.2.2.1 h1) mi_X7_spent mlL_101 mv_X7_spent ms_X7_spent rfl (by decide) (Nat.le_of_ble_eq_true rfl) dL_law_759 ?_
  refine lwr_aload C 2 dL_law_762 rfl rfl ?_
  refine lwr_arg (v := (1 : Int32)) (k := 1) C 0 3 (by omega) dL_law_763 dL_law_764 dL_law_765 dL_law_766 dL_law_767 (by decide) rfl rfl rfl ?_
  refine lwr_callM (st := [.int r]) (As := [.int (xs (i + 1))]) C (kX8_spent C.2.2.2.2.2.1 h2) mi_X8_spent mlL_104 mv_X8_spent ms_X8_spent rfl (by decide) (Nat.le_of_ble_eq_true rfl) dL_law_768 ?_
  refine lwr_eqT (tgt := 1371) C dL_law_771 (by decide) ?_
  exact hk ν ξ h3
set_option maxHeartbeats 4000000 in
theorem lwc_best {Inv : Mem → Mem → Prop} (C : CL p s m meth c b Ln xs D adX adM cA sz) (hst : ST_best Inv) {i : Nat} (hi : i + 4 < Ln) (hI : Inv μ κ) (hk : ∀ ν ξ, Inv ν ξ → LW p l e s m below meth c b sz D adX adM cA 1371 [(0, .ref b), (1, .ref (adX 0)), (2, .ref (adM 0)), (3, .int (nI i))] [] ν ξ) : LW p l e s m below meth c b sz D adX adM cA 776 [(0, .ref b), (1, .ref (adX 0)), (2, .ref (adM 0)), (3, .int (nI i))] [] μ κ := by
  obtain ⟨r, ν, ξ, h1, h2, h3⟩ := hst μ κ hI (xs (i + 1))
  refine lwr_aload C 1 dL_law_776 rfl rfl ?_
  refine lwr_arg (v := (1 : Int32)) (k := 1) C 0 3 (by omega) dL_law_777 dL_law_778 dL_law_779 dL_law_780 dL_law_781 (by decide) rfl rfl rfl ?_
  refine lwr_callX (st := []) (As := [.int (xs (i + 1))]) C (kX7_best C.2.2.2.2.1 h1) mi_X7_best mlL_105 mv_X7_best ms_X7_best rfl (by decide) (Nat.le_of_ble_eq_true rfl) dL_law_782 ?_
  refine lwr_aload C 2 dL_law_785 rfl rfl ?_
  refine lwr_arg (v := (1 : Int32)) (k := 1) C 0 3 (by omega) dL_law_786 dL_law_787 dL_law_788 dL_law_789 dL_law_790 (by decide) rfl rfl rfl ?_
  refine lwr_callM (st := [.int r]) (As := [.int (xs (i + 1))]) C (kX8_best C.2.2.2.2.2.1 h2) mi_X8_best mlL_108 mv_X8_best ms_X8_best rfl (by decide) (Nat.le_of_ble_eq_true rfl) dL_law_791 ?_
  refine lwr_eqT (tgt := 1371) C dL_law_794 (by decide) ?_
  exact hk ν ξ h3
set_option maxHeartbeats 4000000 in
theorem lwc_packing {Inv : Mem → Mem → Prop} (C : CL p s m meth c b Ln xs D adX adM cA sz) (hst : ST_packing Inv) {i : Nat} (hi : i + 4 < Ln) (hI : Inv μ κ) (hk : ∀ ν ξ, Inv ν ξ → LW p l e s m below meth c b sz D adX adM cA 1371 [(0, .ref b), (1, .ref (adX 0)), (2, .ref (adM 0)), (3, .int (nI i))] [] ν ξ) : LW p l e s m below meth c b sz D adX adM cA 799 [(0, .ref b), (1, .ref (adX 0)), (2, .ref (adM 0)), (3, .int (nI i))] [] μ κ := by
  obtain ⟨r, ν, ξ, h1, h2, h3⟩ := hst μ κ hI (xs (i + 1))
  refine lwr_aload C 1 dL_law_799 rfl rfl ?_
  refine lwr_arg (v := (1 : Int32)) (k := 1) C 0 3 (by omega) dL_law_800 dL_law_801 dL_law_802 dL_law_803 dL_law_804 (by decide) rfl rfl rfl ?_
  refine lwr_callX (st := []) (As := [.int (xs (i + 1))]) C (kX7_packing C.2.2.2.2.1 h1) mi_X7_packing mlL_109 mv_X7_packing ms_X7_packing rfl (by decide) (Nat.le_of_ble_eq_true rfl) dL_law_805 ?_
  refine lwr_aload C 2 dL_law_808 rfl rfl ?_
  refine lwr_arg (v := (1 : Int32)) (k := 1) C 0 3 (by omega) dL_law_809 dL_law_810 dL_law_811 dL_law_812 dL_law_813 (by decide) rfl rfl rfl ?_
  refine lwr_callM (st := [.int r]) (As := [.int (xs (i + 1))]) C (kX8_packing C.2.2.2.2.2.1 h2) mi_X8_packing mlL_112 mv_X8_packing ms_X8_packing rfl (by decide) (Nat.le_of_ble_eq_true rfl) dL_law_814 ?_
  refine lwr_eqT (tgt := 1371) C dL_law_817 (by decide) ?_
  exact hk ν ξ h3
set_option maxHeartbeats 4000000 in
theorem lwc_soonest {Inv : Mem → Mem → Prop} (C : CL p s m meth c b Ln xs D adX adM cA sz) (hst : ST_soonest Inv) {i : Nat} (hi : i + 4 < Ln) (hI : Inv μ κ) (hk : ∀ ν ξ, Inv ν ξ → LW p l e s m below meth c b sz D adX adM cA 1371 [(0, .ref b), (1, .ref (adX 0)), (2, .ref (adM 0)), (3, .int (nI i))] [] ν ξ) : LW p l e s m below meth c b sz D adX adM cA 822 [(0, .ref b), (1, .ref (adX 0)), (2, .ref (adM 0)), (3, .int (nI i))] [] μ κ := by
  obtain ⟨r, ν, ξ, h1, h2, h3⟩ := hst μ κ hI (xs (i + 1))
  refine lwr_aload C 1 dL_law_822 rfl rfl ?_
  refine lwr_arg (v := (1 : Int32)) (k := 1) C 0 3 (by omega) dL_law_823 dL_law_824 dL_law_825 dL_law_826 dL_law_827 (by decide) rfl rfl rfl ?_
  refine lwr_callX (st := []) (As := [.int (xs (i + 1))]) C (kX7_soonest C.2.2.2.2.1 h1) mi_X7_soonest mlL_113 mv_X7_soonest ms_X7_soonest rfl (by decide) (Nat.le_of_ble_eq_true rfl) dL_law_828 ?_
  refine lwr_aload C 2 dL_law_831 rfl rfl ?_
  refine lwr_arg (v := (1 : Int32)) (k := 1) C 0 3 (by omega) dL_law_832 dL_law_833 dL_law_834 dL_law_835 dL_law_836 (by decide) rfl rfl rfl ?_
  refine lwr_callM (st := [.int r]) (As := [.int (xs (i + 1))]) C (kX8_soonest C.2.2.2.2.2.1 h2) mi_X8_soonest mlL_116 mv_X8_soonest ms_X8_soonest rfl (by decide) (Nat.le_of_ble_eq_true rfl) dL_law_837 ?_
  refine lwr_eqT (tgt := 1371) C dL_law_840 (by decide) ?_
  exact hk ν ξ h3
set_option maxHeartbeats 4000000 in
theorem lwc_two {Inv : Mem → Mem → Prop} (C : CL p s m meth c b Ln xs D adX adM cA sz) (hst : ST_two Inv) {i : Nat} (hi : i + 4 < Ln) (hI : Inv μ κ) (hk : ∀ ν ξ, Inv ν ξ → LW p l e s m below meth c b sz D adX adM cA 1371 [(0, .ref b), (1, .ref (adX 0)), (2, .ref (adM 0)), (3, .int (nI i))] [] ν ξ) : LW p l e s m below meth c b sz D adX adM cA 845 [(0, .ref b), (1, .ref (adX 0)), (2, .ref (adM 0)), (3, .int (nI i))] [] μ κ := by
  obtain ⟨r, ν, ξ, h1, h2, h3⟩ := hst μ κ hI (xs (i + 1)) (xs (i + 2))
  refine lwr_aload C 1 dL_law_845 rfl rfl ?_
  refine lwr_arg (v := (1 : Int32)) (k := 1) C 0 3 (by omega) dL_law_846 dL_law_847 dL_law_848 dL_law_849 dL_law_850 (by decide) rfl rfl rfl ?_
  refine lwr_arg (v := (2 : Int32)) (k := 2) C 0 3 (by omega) dL_law_851 dL_law_852 dL_law_853 dL_law_854 dL_law_855 (by decide) rfl rfl rfl ?_
  refine lwr_callX (st := []) (As := [.int (xs (i + 1)), .int (xs (i + 2))]) C (kX7_two C.2.2.2.2.1 h1) mi_X7_two mlL_117 mv_X7_two ms_X7_two rfl (by decide) (Nat.le_of_ble_eq_true rfl) dL_law_856 ?_
  refine lwr_aload C 2 dL_law_859 rfl rfl ?_
  refine lwr_arg (v := (1 : Int32)) (k := 1) C 0 3 (by omega) dL_law_860 dL_law_861 dL_law_862 dL_law_863 dL_law_864 (by decide) rfl rfl rfl ?_
  refine lwr_arg (v := (2 : Int32)) (k := 2) C 0 3 (by omega) dL_law_865 dL_law_866 dL_law_867 dL_law_868 dL_law_869 (by decide) rfl rfl rfl ?_
  refine lwr_callM (st := [.int r]) (As := [.int (xs (i + 1)), .int (xs (i + 2))]) C (kX8_two C.2.2.2.2.2.1 h2) mi_X8_two mlL_120 mv_X8_two ms_X8_two rfl (by decide) (Nat.le_of_ble_eq_true rfl) dL_law_870 ?_
  refine lwr_eqT (tgt := 1371) C dL_law_873 (by decide) ?_
  exact hk ν ξ h3
set_option maxHeartbeats 4000000 in
theorem lwc_split {Inv : Mem → Mem → Prop} (C : CL p s m meth c b Ln xs D adX adM cA sz) (hst : ST_split Inv) {i : Nat} (hi : i + 4 < Ln) (hI : Inv μ κ) (hk : ∀ ν ξ, Inv ν ξ → LW p l e s m below meth c b sz D adX adM cA 1371 [(0, .ref b), (1, .ref (adX 0)), (2, .ref (adM 0)), (3, .int (nI i))] [] ν ξ) : LW p l e s m below meth c b sz D adX adM cA 878 [(0, .ref b), (1, .ref (adX 0)), (2, .ref (adM 0)), (3, .int (nI i))] [] μ κ := by
  obtain ⟨r, ν, ξ, h1, h2, h3⟩ := hst μ κ hI (xs (i + 1))
  refine lwr_aload C 1 dL_law_878 rfl rfl ?_
  refine lwr_arg (v := (1 : Int32)) (k := 1) C 0 3 (by omega) dL_law_879 dL_law_880 dL_law_881 dL_law_882 dL_law_883 (by decide) rfl rfl rfl ?_
  refine lwr_callX (st := []) (As := [.int (xs (i + 1))]) C (kX7_split C.2.2.2.2.1 h1) mi_X7_split mlL_121 mv_X7_split ms_X7_split rfl (by decide) (Nat.le_of_ble_eq_true rfl) dL_law_884 ?_
  refine lwr_aload C 2 dL_law_887 rfl rfl ?_
  refine lwr_arg (v := (1 : Int32)) (k := 1) C 0 3 (by omega) dL_law_888 dL_law_889 dL_law_890 dL_law_891 dL_law_892 (by decide) rfl rfl rfl ?_
  refine lwr_callM (st := [.int r]) (As := [.int (xs (i + 1))]) C (kX8_split C.2.2.2.2.2.1 h2) mi_X8_split mlL_124 mv_X8_split ms_X8_split rfl (by decide) (Nat.le_of_ble_eq_true rfl) dL_law_893 ?_
  refine lwr_eqT (tgt := 1371) C dL_law_896 (by decide) ?_
  exact hk ν ξ h3
set_option maxHeartbeats 4000000 in
theorem lwc_strength {Inv : Mem → Mem → Prop} (C : CL p s m meth c b Ln xs D adX adM cA sz) (hst : ST_strength Inv) {i : Nat} (hi : i + 4 < Ln) (hI : Inv μ κ) (hk : ∀ ν ξ, Inv ν ξ → LW p l e s m below meth c b sz D adX adM cA 1371 [(0, .ref b), (1, .ref (adX 0)), (2, .ref (adM 0)), (3, .int (nI i))] [] ν ξ) : LW p l e s m below meth c b sz D adX adM cA 901 [(0, .ref b), (1, .ref (adX 0)), (2, .ref (adM 0)), (3, .int (nI i))] [] μ κ := by
  obtain ⟨r, ν, ξ, h1, h2, h3⟩ := hst μ κ hI
  refine lwr_aload C 1 dL_law_901 rfl rfl ?_
  refine lwr_callX (st := []) (As := []) C (kX7_strength C.2.2.2.2.1 h1) mi_X7_strength mlL_125 mv_X7_strength ms_X7_strength rfl (by decide) (Nat.le_of_ble_eq_true rfl) dL_law_902 ?_
  refine lwr_aload C 2 dL_law_905 rfl rfl ?_
  refine lwr_callM (st := [.int r]) (As := []) C (kX8_strength C.2.2.2.2.2.1 h2) mi_X8_strength mlL_128 mv_X8_strength ms_X8_strength rfl (by decide) (Nat.le_of_ble_eq_true rfl) dL_law_906 ?_
  refine lwr_eqT (tgt := 1371) C dL_law_909 (by decide) ?_
  exact hk ν ξ h3
set_option maxHeartbeats 4000000 in
theorem lwc_latest {Inv : Mem → Mem → Prop} (C : CL p s m meth c b Ln xs D adX adM cA sz) (hst : ST_latest Inv) {i : Nat} (hi : i + 4 < Ln) (hI : Inv μ κ) (hk : ∀ ν ξ, Inv ν ξ → LW p l e s m below meth c b sz D adX adM cA 1371 [(0, .ref b), (1, .ref (adX 0)), (2, .ref (adM 0)), (3, .int (nI i))] [] ν ξ) : LW p l e s m below meth c b sz D adX adM cA 914 [(0, .ref b), (1, .ref (adX 0)), (2, .ref (adM 0)), (3, .int (nI i))] [] μ κ := by
  obtain ⟨r, ν, ξ, h1, h2, h3⟩ := hst μ κ hI
  refine lwr_aload C 1 dL_law_914 rfl rfl ?_
  refine lwr_callX (st := []) (As := []) C (kX7_latest C.2.2.2.2.1 h1) mi_X7_latest mlL_129 mv_X7_latest ms_X7_latest rfl (by decide) (Nat.le_of_ble_eq_true rfl) dL_law_915 ?_
  refine lwr_aload C 2 dL_law_918 rfl rfl ?_
  refine lwr_callM (st := [.int r]) (As := []) C (kX8_latest C.2.2.2.2.2.1 h2) mi_X8_latest mlL_132 mv_X8_latest ms_X8_latest rfl (by decide) (Nat.le_of_ble_eq_true rfl) dL_law_919 ?_
  refine lwr_eqT (tgt := 1371) C dL_law_922 (by decide) ?_
  exact hk ν ξ h3
set_option maxHeartbeats 4000000 in
theorem lwc_leave {Inv : Mem → Mem → Prop} (C : CL p s m meth c b Ln xs D adX adM cA sz) (hst : ST_leave Inv) {i : Nat} (hi : i + 4 < Ln) (hI : Inv μ κ) (hk : ∀ ν ξ, Inv ν ξ → LW p l e s m below meth c b sz D adX adM cA 1371 [(0, .ref b), (1, .ref (adX 0)), (2, .ref (adM 0)), (3, .int (nI i))] [] ν ξ) : LW p l e s m below meth c b sz D adX adM cA 927 [(0, .ref b), (1, .ref (adX 0)), (2, .ref (adM 0)), (3, .int (nI i))] [] μ κ := by
  obtain ⟨r, ν, ξ, h1, h2, h3⟩ := hst μ κ hI (xs (i + 1))
  refine lwr_aload C 1 dL_law_927 rfl rfl ?_
  refine lwr_arg (v := (1 : Int32)) (k := 1) C 0 3 (by omega) dL_law_928 dL_law_929 dL_law_930 dL_law_931 dL_law_932 (by decide) rfl rfl rfl ?_
  refine lwr_callX (st := []) (As := [.int (xs (i + 1))]) C (kX7_leave C.2.2.2.2.1 h1) mi_X7_leave mlL_133 mv_X7_leave ms_X7_leave rfl (by decide) (Nat.le_of_ble_eq_true rfl) dL_law_933 ?_
  refine lwr_aload C 2 dL_law_936 rfl rfl ?_
  refine lwr_arg (v := (1 : Int32)) (k := 1) C 0 3 (by omega) dL_law_937 dL_law_938 dL_law_939 dL_law_940 dL_law_941 (by decide) rfl rfl rfl ?_
  refine lwr_callM (st := [.int r]) (As := [.int (xs (i + 1))]) C (kX8_leave C.2.2.2.2.2.1 h2) mi_X8_leave mlL_136 mv_X8_leave ms_X8_leave rfl (by decide) (Nat.le_of_ble_eq_true rfl) dL_law_942 ?_
  refine lwr_eqT (tgt := 1371) C dL_law_945 (by decide) ?_
  exact hk ν ξ h3
set_option maxHeartbeats 4000000 in
theorem lwc_mean {Inv : Mem → Mem → Prop} (C : CL p s m meth c b Ln xs D adX adM cA sz) (hst : ST_mean Inv) {i : Nat} (hi : i + 4 < Ln) (hI : Inv μ κ) (hk : ∀ ν ξ, Inv ν ξ → LW p l e s m below meth c b sz D adX adM cA 1371 [(0, .ref b), (1, .ref (adX 0)), (2, .ref (adM 0)), (3, .int (nI i))] [] ν ξ) : LW p l e s m below meth c b sz D adX adM cA 950 [(0, .ref b), (1, .ref (adX 0)), (2, .ref (adM 0)), (3, .int (nI i))] [] μ κ := by
  obtain ⟨r, ν, ξ, h1, h2, h3⟩ := hst μ κ hI (xs (i + 1)) (xs (i + 2))
  refine lwr_aload C 1 dL_law_950 rfl rfl ?_
  refine lwr_arg (v := (1 : Int32)) (k := 1) C 0 3 (by omega) dL_law_951 dL_law_952 dL_law_953 dL_law_954 dL_law_955 (by decide) rfl rfl rfl ?_
  refine lwr_arg (v := (2 : Int32)) (k := 2) C 0 3 (by omega) dL_law_956 dL_law_957 dL_law_958 dL_law_959 dL_law_960 (by decide) rfl rfl rfl ?_
  refine lwr_callX (st := []) (As := [.int (xs (i + 1)), .int (xs (i + 2))]) C (kX7_mean C.2.2.2.2.1 h1) mi_X7_mean mlL_137 mv_X7_mean ms_X7_mean rfl (by decide) (Nat.le_of_ble_eq_true rfl) dL_law_961 ?_
  refine lwr_aload C 2 dL_law_964 rfl rfl ?_
  refine lwr_arg (v := (1 : Int32)) (k := 1) C 0 3 (by omega) dL_law_965 dL_law_966 dL_law_967 dL_law_968 dL_law_969 (by decide) rfl rfl rfl ?_
  refine lwr_arg (v := (2 : Int32)) (k := 2) C 0 3 (by omega) dL_law_970 dL_law_971 dL_law_972 dL_law_973 dL_law_974 (by decide) rfl rfl rfl ?_
  refine lwr_callM (st := [.long r]) (As := [.int (xs (i + 1)), .int (xs (i + 2))]) C (kX8_mean C.2.2.2.2.2.1 h2) mi_X8_mean mlL_141 mv_X8_mean ms_X8_mean rfl (by decide) (Nat.le_of_ble_eq_true rfl) dL_law_975 ?_
  refine lwr_leqT (tgt := 1371) C dL_law_978 dL_law_979 (by decide) ?_
  exact hk ν ξ h3
set_option maxHeartbeats 4000000 in
theorem lwc_luck {Inv : Mem → Mem → Prop} (C : CL p s m meth c b Ln xs D adX adM cA sz) (hst : ST_luck Inv) {i : Nat} (hi : i + 4 < Ln) (hI : Inv μ κ) (hk : ∀ ν ξ, Inv ν ξ → LW p l e s m below meth c b sz D adX adM cA 1371 [(0, .ref b), (1, .ref (adX 0)), (2, .ref (adM 0)), (3, .int (nI i))] [] ν ξ) : LW p l e s m below meth c b sz D adX adM cA 984 [(0, .ref b), (1, .ref (adX 0)), (2, .ref (adM 0)), (3, .int (nI i))] [] μ κ := by
  obtain ⟨r, ν, ξ, h1, h2, h3⟩ := hst μ κ hI (xs (i + 1)) (xs (i + 2)) (xs (i + 3))
  refine lwr_aload C 1 dL_law_984 rfl rfl ?_
  refine lwr_arg (v := (1 : Int32)) (k := 1) C 0 3 (by omega) dL_law_985 dL_law_986 dL_law_987 dL_law_988 dL_law_989 (by decide) rfl rfl rfl ?_
  refine lwr_arg (v := (2 : Int32)) (k := 2) C 0 3 (by omega) dL_law_990 dL_law_991 dL_law_992 dL_law_993 dL_law_994 (by decide) rfl rfl rfl ?_
  refine lwr_arg (v := (3 : Int32)) (k := 3) C 0 3 (by omega) dL_law_995 dL_law_996 dL_law_997 dL_law_998 dL_law_999 (by decide) rfl rfl rfl ?_
  refine lwr_callX (st := []) (As := [.int (xs (i + 1)), .int (xs (i + 2)), .int (xs (i + 3))]) C (kX7_luck C.2.2.2.2.1 h1) mi_X7_luck mlL_142 mv_X7_luck ms_X7_luck rfl (by decide) (Nat.le_of_ble_eq_true rfl) dL_law_1000 ?_
  refine lwr_aload C 2 dL_law_1003 rfl rfl ?_
  refine lwr_arg (v := (1 : Int32)) (k := 1) C 0 3 (by omega) dL_law_1004 dL_law_1005 dL_law_1006 dL_law_1007 dL_law_1008 (by decide) rfl rfl rfl ?_
  refine lwr_arg (v := (2 : Int32)) (k := 2) C 0 3 (by omega) dL_law_1009 dL_law_1010 dL_law_1011 dL_law_1012 dL_law_1013 (by decide) rfl rfl rfl ?_
  refine lwr_arg (v := (3 : Int32)) (k := 3) C 0 3 (by omega) dL_law_1014 dL_law_1015 dL_law_1016 dL_law_1017 dL_law_1018 (by decide) rfl rfl rfl ?_
  refine lwr_callM (st := [.long r]) (As := [.int (xs (i + 1)), .int (xs (i + 2)), .int (xs (i + 3))]) C (kX8_luck C.2.2.2.2.2.1 h2) mi_X8_luck mlL_146 mv_X8_luck ms_X8_luck rfl (by decide) (Nat.le_of_ble_eq_true rfl) dL_law_1019 ?_
  refine lwr_leqT (tgt := 1371) C dL_law_1022 dL_law_1023 (by decide) ?_
  exact hk ν ξ h3
set_option maxHeartbeats 4000000 in
theorem lwc_see {Inv : Mem → Mem → Prop} (C : CL p s m meth c b Ln xs D adX adM cA sz) (hst : ST_see Inv) {i : Nat} (hi : i + 4 < Ln) (hI : Inv μ κ) (hk : ∀ ν ξ, Inv ν ξ → LW p l e s m below meth c b sz D adX adM cA 1371 [(0, .ref b), (1, .ref (adX 0)), (2, .ref (adM 0)), (3, .int (nI i))] [] ν ξ) : LW p l e s m below meth c b sz D adX adM cA 1028 [(0, .ref b), (1, .ref (adX 0)), (2, .ref (adM 0)), (3, .int (nI i))] [] μ κ := by
  obtain ⟨r, ν, ξ, h1, h2, h3⟩ := hst μ κ hI (xs (i + 1)) (xs (i + 2))
  refine lwr_aload C 1 dL_law_1028 rfl rfl ?_
  refine lwr_arg (v := (1 : Int32)) (k := 1) C 0 3 (by omega) dL_law_1029 dL_law_1030 dL_law_1031 dL_law_1032 dL_law_1033 (by decide) rfl rfl rfl ?_
  refine lwr_arg (v := (2 : Int32)) (k := 2) C 0 3 (by omega) dL_law_1034 dL_law_1035 dL_law_1036 dL_law_1037 dL_law_1038 (by decide) rfl rfl rfl ?_
  refine lwr_callX (st := []) (As := [.int (xs (i + 1)), .int (xs (i + 2))]) C (kX7_see C.2.2.2.2.1 h1) mi_X7_see mlL_147 mv_X7_see ms_X7_see rfl (by decide) (Nat.le_of_ble_eq_true rfl) dL_law_1039 ?_
  refine lwr_aload C 2 dL_law_1042 rfl rfl ?_
  refine lwr_arg (v := (1 : Int32)) (k := 1) C 0 3 (by omega) dL_law_1043 dL_law_1044 dL_law_1045 dL_law_1046 dL_law_1047 (by decide) rfl rfl rfl ?_
  refine lwr_arg (v := (2 : Int32)) (k := 2) C 0 3 (by omega) dL_law_1048 dL_law_1049 dL_law_1050 dL_law_1051 dL_law_1052 (by decide) rfl rfl rfl ?_
  refine lwr_callM (st := [.int r]) (As := [.int (xs (i + 1)), .int (xs (i + 2))]) C (kX8_see C.2.2.2.2.2.1 h2) mi_X8_see mlL_150 mv_X8_see ms_X8_see rfl (by decide) (Nat.le_of_ble_eq_true rfl) dL_law_1053 ?_
  refine lwr_eqT (tgt := 1371) C dL_law_1056 (by decide) ?_
  exact hk ν ξ h3
set_option maxHeartbeats 4000000 in
theorem lwc_forget {Inv : Mem → Mem → Prop} (C : CL p s m meth c b Ln xs D adX adM cA sz) (hst : ST_forget Inv) {i : Nat} (hi : i + 4 < Ln) (hI : Inv μ κ) (hk : ∀ ν ξ, Inv ν ξ → LW p l e s m below meth c b sz D adX adM cA 1371 [(0, .ref b), (1, .ref (adX 0)), (2, .ref (adM 0)), (3, .int (nI i))] [] ν ξ) : LW p l e s m below meth c b sz D adX adM cA 1061 [(0, .ref b), (1, .ref (adX 0)), (2, .ref (adM 0)), (3, .int (nI i))] [] μ κ := by
  obtain ⟨r, ν, ξ, h1, h2, h3⟩ := hst μ κ hI (xs (i + 1))
  refine lwr_aload C 1 dL_law_1061 rfl rfl ?_
  refine lwr_arg (v := (1 : Int32)) (k := 1) C 0 3 (by omega) dL_law_1062 dL_law_1063 dL_law_1064 dL_law_1065 dL_law_1066 (by decide) rfl rfl rfl ?_
  refine lwr_callX (st := []) (As := [.int (xs (i + 1))]) C (kX7_forget C.2.2.2.2.1 h1) mi_X7_forget mlL_151 mv_X7_forget ms_X7_forget rfl (by decide) (Nat.le_of_ble_eq_true rfl) dL_law_1067 ?_
  refine lwr_aload C 2 dL_law_1070 rfl rfl ?_
  refine lwr_arg (v := (1 : Int32)) (k := 1) C 0 3 (by omega) dL_law_1071 dL_law_1072 dL_law_1073 dL_law_1074 dL_law_1075 (by decide) rfl rfl rfl ?_
  refine lwr_callM (st := [.int r]) (As := [.int (xs (i + 1))]) C (kX8_forget C.2.2.2.2.2.1 h2) mi_X8_forget mlL_154 mv_X8_forget ms_X8_forget rfl (by decide) (Nat.le_of_ble_eq_true rfl) dL_law_1076 ?_
  refine lwr_eqT (tgt := 1371) C dL_law_1079 (by decide) ?_
  exact hk ν ξ h3
set_option maxHeartbeats 4000000 in
theorem lwc_fits {Inv : Mem → Mem → Prop} (C : CL p s m meth c b Ln xs D adX adM cA sz) (hst : ST_fits Inv) {i : Nat} (hi : i + 4 < Ln) (hI : Inv μ κ) (hk : ∀ ν ξ, Inv ν ξ → LW p l e s m below meth c b sz D adX adM cA 1371 [(0, .ref b), (1, .ref (adX 0)), (2, .ref (adM 0)), (3, .int (nI i))] [] ν ξ) : LW p l e s m below meth c b sz D adX adM cA 1084 [(0, .ref b), (1, .ref (adX 0)), (2, .ref (adM 0)), (3, .int (nI i))] [] μ κ := by
  obtain ⟨r, ν, ξ, h1, h2, h3⟩ := hst μ κ hI (xs (i + 1))
  refine lwr_aload C 1 dL_law_1084 rfl rfl ?_
  refine lwr_arg (v := (1 : Int32)) (k := 1) C 0 3 (by omega) dL_law_1085 dL_law_1086 dL_law_1087 dL_law_1088 dL_law_1089 (by decide) rfl rfl rfl ?_
  refine lwr_callX (st := []) (As := [.int (xs (i + 1))]) C (kX7_fits C.2.2.2.2.1 h1) mi_X7_fits mlL_155 mv_X7_fits ms_X7_fits rfl (by decide) (Nat.le_of_ble_eq_true rfl) dL_law_1090 ?_
  refine lwr_aload C 2 dL_law_1093 rfl rfl ?_
  refine lwr_arg (v := (1 : Int32)) (k := 1) C 0 3 (by omega) dL_law_1094 dL_law_1095 dL_law_1096 dL_law_1097 dL_law_1098 (by decide) rfl rfl rfl ?_
  refine lwr_callM (st := [.int r]) (As := [.int (xs (i + 1))]) C (kX8_fits C.2.2.2.2.2.1 h2) mi_X8_fits mlL_158 mv_X8_fits ms_X8_fits rfl (by decide) (Nat.le_of_ble_eq_true rfl) dL_law_1099 ?_
  refine lwr_eqT (tgt := 1371) C dL_law_1102 (by decide) ?_
  exact hk ν ξ h3
set_option maxHeartbeats 4000000 in
theorem lwc_drift {Inv : Mem → Mem → Prop} (C : CL p s m meth c b Ln xs D adX adM cA sz) (hst : ST_drift Inv) {i : Nat} (hi : i + 4 < Ln) (hI : Inv μ κ) (hk : ∀ ν ξ, Inv ν ξ → LW p l e s m below meth c b sz D adX adM cA 1371 [(0, .ref b), (1, .ref (adX 0)), (2, .ref (adM 0)), (3, .int (nI i))] [] ν ξ) : LW p l e s m below meth c b sz D adX adM cA 1107 [(0, .ref b), (1, .ref (adX 0)), (2, .ref (adM 0)), (3, .int (nI i))] [] μ κ := by
  obtain ⟨r, ν, ξ, h1, h2, h3⟩ := hst μ κ hI (xs (i + 1)) (xs (i + 2)) (xs (i + 3))
  refine lwr_aload C 1 dL_law_1107 rfl rfl ?_
  refine lwr_arg (v := (1 : Int32)) (k := 1) C 0 3 (by omega) dL_law_1108 dL_law_1109 dL_law_1110 dL_law_1111 dL_law_1112 (by decide) rfl rfl rfl ?_
  refine lwr_arg (v := (2 : Int32)) (k := 2) C 0 3 (by omega) dL_law_1113 dL_law_1114 dL_law_1115 dL_law_1116 dL_law_1117 (by decide) rfl rfl rfl ?_
  refine lwr_arg (v := (3 : Int32)) (k := 3) C 0 3 (by omega) dL_law_1118 dL_law_1119 dL_law_1120 dL_law_1121 dL_law_1122 (by decide) rfl rfl rfl ?_
  refine lwr_callX (st := []) (As := [.int (xs (i + 1)), .int (xs (i + 2)), .int (xs (i + 3))]) C (kX7_drift C.2.2.2.2.1 h1) mi_X7_drift mlL_159 mv_X7_drift ms_X7_drift rfl (by decide) (Nat.le_of_ble_eq_true rfl) dL_law_1123 ?_
  refine lwr_aload C 2 dL_law_1126 rfl rfl ?_
  refine lwr_arg (v := (1 : Int32)) (k := 1) C 0 3 (by omega) dL_law_1127 dL_law_1128 dL_law_1129 dL_law_1130 dL_law_1131 (by decide) rfl rfl rfl ?_
  refine lwr_arg (v := (2 : Int32)) (k := 2) C 0 3 (by omega) dL_law_1132 dL_law_1133 dL_law_1134 dL_law_1135 dL_law_1136 (by decide) rfl rfl rfl ?_
  refine lwr_arg (v := (3 : Int32)) (k := 3) C 0 3 (by omega) dL_law_1137 dL_law_1138 dL_law_1139 dL_law_1140 dL_law_1141 (by decide) rfl rfl rfl ?_
  refine lwr_callM (st := [.int r]) (As := [.int (xs (i + 1)), .int (xs (i + 2)), .int (xs (i + 3))]) C (kX8_drift C.2.2.2.2.2.1 h2) mi_X8_drift mlL_162 mv_X8_drift ms_X8_drift rfl (by decide) (Nat.le_of_ble_eq_true rfl) dL_law_1142 ?_
  refine lwr_eqT (tgt := 1371) C dL_law_1145 (by decide) ?_
  exact hk ν ξ h3
set_option maxHeartbeats 4000000 in
theorem lwc_keep {Inv : Mem → Mem → Prop} (C : CL p s m meth c b Ln xs D adX adM cA sz) (hst : ST_keep Inv) {i : Nat} (hi : i + 4 < Ln) (hI : Inv μ κ) (hk : ∀ ν ξ, Inv ν ξ → LW p l e s m below meth c b sz D adX adM cA 1371 [(0, .ref b), (1, .ref (adX 0)), (2, .ref (adM 0)), (3, .int (nI i))] [] ν ξ) : LW p l e s m below meth c b sz D adX adM cA 1150 [(0, .ref b), (1, .ref (adX 0)), (2, .ref (adM 0)), (3, .int (nI i))] [] μ κ := by
  obtain ⟨r, ν, ξ, h1, h2, h3⟩ := hst μ κ hI (xs (i + 1))
  refine lwr_aload C 1 dL_law_1150 rfl rfl ?_
  refine lwr_arg (v := (1 : Int32)) (k := 1) C 0 3 (by omega) dL_law_1151 dL_law_1152 dL_law_1153 dL_law_1154 dL_law_1155 (by decide) rfl rfl rfl ?_
  refine lwr_callX (st := []) (As := [.int (xs (i + 1))]) C (kX7_keep C.2.2.2.2.1 h1) mi_X7_keep mlL_163 mv_X7_keep ms_X7_keep rfl (by decide) (Nat.le_of_ble_eq_true rfl) dL_law_1156 ?_
  refine lwr_aload C 2 dL_law_1159 rfl rfl ?_
  refine lwr_arg (v := (1 : Int32)) (k := 1) C 0 3 (by omega) dL_law_1160 dL_law_1161 dL_law_1162 dL_law_1163 dL_law_1164 (by decide) rfl rfl rfl ?_
  refine lwr_callM (st := [.int r]) (As := [.int (xs (i + 1))]) C (kX8_keep C.2.2.2.2.2.1 h2) mi_X8_keep mlL_166 mv_X8_keep ms_X8_keep rfl (by decide) (Nat.le_of_ble_eq_true rfl) dL_law_1165 ?_
  refine lwr_eqT (tgt := 1371) C dL_law_1168 (by decide) ?_
  exact hk ν ξ h3
set_option maxHeartbeats 4000000 in
theorem lwc_undo {Inv : Mem → Mem → Prop} (C : CL p s m meth c b Ln xs D adX adM cA sz) (hst : ST_undo Inv) {i : Nat} (hi : i + 4 < Ln) (hI : Inv μ κ) (hk : ∀ ν ξ, Inv ν ξ → LW p l e s m below meth c b sz D adX adM cA 1371 [(0, .ref b), (1, .ref (adX 0)), (2, .ref (adM 0)), (3, .int (nI i))] [] ν ξ) : LW p l e s m below meth c b sz D adX adM cA 1173 [(0, .ref b), (1, .ref (adX 0)), (2, .ref (adM 0)), (3, .int (nI i))] [] μ κ := by
  obtain ⟨r, ν, ξ, h1, h2, h3⟩ := hst μ κ hI (xs (i + 1))
  refine lwr_aload C 1 dL_law_1173 rfl rfl ?_
  refine lwr_arg (v := (1 : Int32)) (k := 1) C 0 3 (by omega) dL_law_1174 dL_law_1175 dL_law_1176 dL_law_1177 dL_law_1178 (by decide) rfl rfl rfl ?_
  refine lwr_callX (st := []) (As := [.int (xs (i + 1))]) C (kX7_undo C.2.2.2.2.1 h1) mi_X7_undo mlL_167 mv_X7_undo ms_X7_undo rfl (by decide) (Nat.le_of_ble_eq_true rfl) dL_law_1179 ?_
  refine lwr_aload C 2 dL_law_1182 rfl rfl ?_
  refine lwr_arg (v := (1 : Int32)) (k := 1) C 0 3 (by omega) dL_law_1183 dL_law_1184 dL_law_1185 dL_law_1186 dL_law_1187 (by decide) rfl rfl rfl ?_
  refine lwr_callM (st := [.int r]) (As := [.int (xs (i + 1))]) C (kX8_undo C.2.2.2.2.2.1 h2) mi_X8_undo mlL_170 mv_X8_undo ms_X8_undo rfl (by decide) (Nat.le_of_ble_eq_true rfl) dL_law_1188 ?_
  refine lwr_eqT (tgt := 1371) C dL_law_1191 (by decide) ?_
  exact hk ν ξ h3
set_option maxHeartbeats 4000000 in
theorem lwc_sheet {Inv : Mem → Mem → Prop} (C : CL p s m meth c b Ln xs D adX adM cA sz) (hst : ST_sheet Inv) {i : Nat} (hi : i + 4 < Ln) (hI : Inv μ κ) (hk : ∀ ν ξ, Inv ν ξ → LW p l e s m below meth c b sz D adX adM cA 1371 [(0, .ref b), (1, .ref (adX 0)), (2, .ref (adM 0)), (3, .int (nI i))] [] ν ξ) : LW p l e s m below meth c b sz D adX adM cA 1196 [(0, .ref b), (1, .ref (adX 0)), (2, .ref (adM 0)), (3, .int (nI i))] [] μ κ := by
  obtain ⟨r, ν, ξ, h1, h2, h3⟩ := hst μ κ hI (xs (i + 1)) (xs (i + 2)) (xs (i + 3))
  refine lwr_aload C 1 dL_law_1196 rfl rfl ?_
  refine lwr_arg (v := (1 : Int32)) (k := 1) C 0 3 (by omega) dL_law_1197 dL_law_1198 dL_law_1199 dL_law_1200 dL_law_1201 (by decide) rfl rfl rfl ?_
  refine lwr_arg (v := (2 : Int32)) (k := 2) C 0 3 (by omega) dL_law_1202 dL_law_1203 dL_law_1204 dL_law_1205 dL_law_1206 (by decide) rfl rfl rfl ?_
  refine lwr_arg (v := (3 : Int32)) (k := 3) C 0 3 (by omega) dL_law_1207 dL_law_1208 dL_law_1209 dL_law_1210 dL_law_1211 (by decide) rfl rfl rfl ?_
  refine lwr_callX (st := []) (As := [.int (xs (i + 1)), .int (xs (i + 2)), .int (xs (i + 3))]) C (kX7_sheet C.2.2.2.2.1 h1) mi_X7_sheet mlL_171 mv_X7_sheet ms_X7_sheet rfl (by decide) (Nat.le_of_ble_eq_true rfl) dL_law_1212 ?_
  refine lwr_aload C 2 dL_law_1215 rfl rfl ?_
  refine lwr_arg (v := (1 : Int32)) (k := 1) C 0 3 (by omega) dL_law_1216 dL_law_1217 dL_law_1218 dL_law_1219 dL_law_1220 (by decide) rfl rfl rfl ?_
  refine lwr_arg (v := (2 : Int32)) (k := 2) C 0 3 (by omega) dL_law_1221 dL_law_1222 dL_law_1223 dL_law_1224 dL_law_1225 (by decide) rfl rfl rfl ?_
  refine lwr_arg (v := (3 : Int32)) (k := 3) C 0 3 (by omega) dL_law_1226 dL_law_1227 dL_law_1228 dL_law_1229 dL_law_1230 (by decide) rfl rfl rfl ?_
  refine lwr_callM (st := [.int r]) (As := [.int (xs (i + 1)), .int (xs (i + 2)), .int (xs (i + 3))]) C (kX8_sheet C.2.2.2.2.2.1 h2) mi_X8_sheet mlL_174 mv_X8_sheet ms_X8_sheet rfl (by decide) (Nat.le_of_ble_eq_true rfl) dL_law_1231 ?_
  refine lwr_eqT (tgt := 1371) C dL_law_1234 (by decide) ?_
  exact hk ν ξ h3
set_option maxHeartbeats 4000000 in
theorem lwc_lay {Inv : Mem → Mem → Prop} (C : CL p s m meth c b Ln xs D adX adM cA sz) (hst : ST_lay Inv) {i : Nat} (hi : i + 4 < Ln) (hI : Inv μ κ) (hk : ∀ ν ξ, Inv ν ξ → LW p l e s m below meth c b sz D adX adM cA 1371 [(0, .ref b), (1, .ref (adX 0)), (2, .ref (adM 0)), (3, .int (nI i))] [] ν ξ) : LW p l e s m below meth c b sz D adX adM cA 1239 [(0, .ref b), (1, .ref (adX 0)), (2, .ref (adM 0)), (3, .int (nI i))] [] μ κ := by
  obtain ⟨r, ν, ξ, h1, h2, h3⟩ := hst μ κ hI (xs (i + 1)) (xs (i + 2)) (xs (i + 3))
  refine lwr_aload C 1 dL_law_1239 rfl rfl ?_
  refine lwr_arg (v := (1 : Int32)) (k := 1) C 0 3 (by omega) dL_law_1240 dL_law_1241 dL_law_1242 dL_law_1243 dL_law_1244 (by decide) rfl rfl rfl ?_
  refine lwr_arg (v := (2 : Int32)) (k := 2) C 0 3 (by omega) dL_law_1245 dL_law_1246 dL_law_1247 dL_law_1248 dL_law_1249 (by decide) rfl rfl rfl ?_
  refine lwr_arg (v := (3 : Int32)) (k := 3) C 0 3 (by omega) dL_law_1250 dL_law_1251 dL_law_1252 dL_law_1253 dL_law_1254 (by decide) rfl rfl rfl ?_
  refine lwr_callX (st := []) (As := [.int (xs (i + 1)), .int (xs (i + 2)), .int (xs (i + 3))]) C (kX7_lay C.2.2.2.2.1 h1) mi_X7_lay mlL_175 mv_X7_lay ms_X7_lay rfl (by decide) (Nat.le_of_ble_eq_true rfl) dL_law_1255 ?_
  refine lwr_aload C 2 dL_law_1258 rfl rfl ?_
  refine lwr_arg (v := (1 : Int32)) (k := 1) C 0 3 (by omega) dL_law_1259 dL_law_1260 dL_law_1261 dL_law_1262 dL_law_1263 (by decide) rfl rfl rfl ?_
  refine lwr_arg (v := (2 : Int32)) (k := 2) C 0 3 (by omega) dL_law_1264 dL_law_1265 dL_law_1266 dL_law_1267 dL_law_1268 (by decide) rfl rfl rfl ?_
  refine lwr_arg (v := (3 : Int32)) (k := 3) C 0 3 (by omega) dL_law_1269 dL_law_1270 dL_law_1271 dL_law_1272 dL_law_1273 (by decide) rfl rfl rfl ?_
  refine lwr_callM (st := [.int r]) (As := [.int (xs (i + 1)), .int (xs (i + 2)), .int (xs (i + 3))]) C (kX8_lay C.2.2.2.2.2.1 h2) mi_X8_lay mlL_178 mv_X8_lay ms_X8_lay rfl (by decide) (Nat.le_of_ble_eq_true rfl) dL_law_1274 ?_
  refine lwr_eqT (tgt := 1371) C dL_law_1277 (by decide) ?_
  exact hk ν ξ h3
set_option maxHeartbeats 4000000 in
theorem lwc_read {Inv : Mem → Mem → Prop} (C : CL p s m meth c b Ln xs D adX adM cA sz) (hst : ST_read Inv) {i : Nat} (hi : i + 4 < Ln) (hI : Inv μ κ) (hk : ∀ ν ξ, Inv ν ξ → LW p l e s m below meth c b sz D adX adM cA 1371 [(0, .ref b), (1, .ref (adX 0)), (2, .ref (adM 0)), (3, .int (nI i))] [] ν ξ) : LW p l e s m below meth c b sz D adX adM cA 1282 [(0, .ref b), (1, .ref (adX 0)), (2, .ref (adM 0)), (3, .int (nI i))] [] μ κ := by
  obtain ⟨r, ν, ξ, h1, h2, h3⟩ := hst μ κ hI (xs (i + 1)) (xs (i + 2)) (xs (i + 3)) (xs (i + 4))
  refine lwr_aload C 1 dL_law_1282 rfl rfl ?_
  refine lwr_arg (v := (1 : Int32)) (k := 1) C 0 3 (by omega) dL_law_1283 dL_law_1284 dL_law_1285 dL_law_1286 dL_law_1287 (by decide) rfl rfl rfl ?_
  refine lwr_arg (v := (2 : Int32)) (k := 2) C 0 3 (by omega) dL_law_1288 dL_law_1289 dL_law_1290 dL_law_1291 dL_law_1292 (by decide) rfl rfl rfl ?_
  refine lwr_arg (v := (3 : Int32)) (k := 3) C 0 3 (by omega) dL_law_1293 dL_law_1294 dL_law_1295 dL_law_1296 dL_law_1297 (by decide) rfl rfl rfl ?_
  refine lwr_arg (v := (4 : Int32)) (k := 4) C 0 3 (by omega) dL_law_1298 dL_law_1299 dL_law_1300 dL_law_1301 dL_law_1302 (by decide) rfl rfl rfl ?_
  refine lwr_callX (st := []) (As := [.int (xs (i + 1)), .int (xs (i + 2)), .int (xs (i + 3)), .int (xs (i + 4))]) C (kX7_read C.2.2.2.2.1 h1) mi_X7_read mlL_179 mv_X7_read ms_X7_read rfl (by decide) (Nat.le_of_ble_eq_true rfl) dL_law_1303 ?_
  refine lwr_aload C 2 dL_law_1306 rfl rfl ?_
  refine lwr_arg (v := (1 : Int32)) (k := 1) C 0 3 (by omega) dL_law_1307 dL_law_1308 dL_law_1309 dL_law_1310 dL_law_1311 (by decide) rfl rfl rfl ?_
  refine lwr_arg (v := (2 : Int32)) (k := 2) C 0 3 (by omega) dL_law_1312 dL_law_1313 dL_law_1314 dL_law_1315 dL_law_1316 (by decide) rfl rfl rfl ?_
  refine lwr_arg (v := (3 : Int32)) (k := 3) C 0 3 (by omega) dL_law_1317 dL_law_1318 dL_law_1319 dL_law_1320 dL_law_1321 (by decide) rfl rfl rfl ?_
  refine lwr_arg (v := (4 : Int32)) (k := 4) C 0 3 (by omega) dL_law_1322 dL_law_1323 dL_law_1324 dL_law_1325 dL_law_1326 (by decide) rfl rfl rfl ?_
  refine lwr_callM (st := [.int r]) (As := [.int (xs (i + 1)), .int (xs (i + 2)), .int (xs (i + 3)), .int (xs (i + 4))]) C (kX8_read C.2.2.2.2.2.1 h2) mi_X8_read mlL_183 mv_X8_read ms_X8_read rfl (by decide) (Nat.le_of_ble_eq_true rfl) dL_law_1327 ?_
  refine lwr_eqT (tgt := 1371) C dL_law_1330 (by decide) ?_
  exact hk ν ξ h3
set_option maxHeartbeats 4000000 in
theorem lwc_torn {Inv : Mem → Mem → Prop} (C : CL p s m meth c b Ln xs D adX adM cA sz) (hst : ST_torn Inv) {i : Nat} (hi : i + 4 < Ln) (hI : Inv μ κ) (hk : ∀ ν ξ, Inv ν ξ → LW p l e s m below meth c b sz D adX adM cA 1371 [(0, .ref b), (1, .ref (adX 0)), (2, .ref (adM 0)), (3, .int (nI i))] [] ν ξ) : LW p l e s m below meth c b sz D adX adM cA 1335 [(0, .ref b), (1, .ref (adX 0)), (2, .ref (adM 0)), (3, .int (nI i))] [] μ κ := by
  obtain ⟨r, ν, ξ, h1, h2, h3⟩ := hst μ κ hI
  refine lwr_aload C 1 dL_law_1335 rfl rfl ?_
  refine lwr_callX (st := []) (As := []) C (kX7_torn C.2.2.2.2.1 h1) mi_X7_torn mlL_184 mv_X7_torn ms_X7_torn rfl (by decide) (Nat.le_of_ble_eq_true rfl) dL_law_1336 ?_
  refine lwr_aload C 2 dL_law_1339 rfl rfl ?_
  refine lwr_callM (st := [.int r]) (As := []) C (kX8_torn C.2.2.2.2.2.1 h2) mi_X8_torn mlL_187 mv_X8_torn ms_X8_torn rfl (by decide) (Nat.le_of_ble_eq_true rfl) dL_law_1340 ?_
  refine lwr_eqT (tgt := 1371) C dL_law_1343 (by decide) ?_
  exact hk ν ξ h3
set_option maxHeartbeats 4000000 in
theorem lwc_count {Inv : Mem → Mem → Prop} (C : CL p s m meth c b Ln xs D adX adM cA sz) (hst : ST_count Inv) {i : Nat} (hi : i + 4 < Ln) (hI : Inv μ κ) (hk : ∀ ν ξ, Inv ν ξ → LW p l e s m below meth c b sz D adX adM cA 1371 [(0, .ref b), (1, .ref (adX 0)), (2, .ref (adM 0)), (3, .int (nI i))] [] ν ξ) : LW p l e s m below meth c b sz D adX adM cA 1348 [(0, .ref b), (1, .ref (adX 0)), (2, .ref (adM 0)), (3, .int (nI i))] [] μ κ := by
  obtain ⟨r, ν, ξ, h1, h2, h3⟩ := hst μ κ hI (xs (i + 1))
  refine lwr_aload C 1 dL_law_1348 rfl rfl ?_
  refine lwr_arg (v := (1 : Int32)) (k := 1) C 0 3 (by omega) dL_law_1349 dL_law_1350 dL_law_1351 dL_law_1352 dL_law_1353 (by decide) rfl rfl rfl ?_
  refine lwr_callX (st := []) (As := [.int (xs (i + 1))]) C (kX7_count C.2.2.2.2.1 h1) mi_X7_count mlL_188 mv_X7_count ms_X7_count rfl (by decide) (Nat.le_of_ble_eq_true rfl) dL_law_1354 ?_
  refine lwr_aload C 2 dL_law_1357 rfl rfl ?_
  refine lwr_arg (v := (1 : Int32)) (k := 1) C 0 3 (by omega) dL_law_1358 dL_law_1359 dL_law_1360 dL_law_1361 dL_law_1362 (by decide) rfl rfl rfl ?_
  refine lwr_callM (st := [.int r]) (As := [.int (xs (i + 1))]) C (kX8_count C.2.2.2.2.2.1 h2) mi_X8_count mlL_191 mv_X8_count ms_X8_count rfl (by decide) (Nat.le_of_ble_eq_true rfl) dL_law_1363 ?_
  refine lwr_eqT (tgt := 1371) C dL_law_1366 (by decide) ?_
  exact hk ν ξ h3
def STall (Inv : Mem → Mem → Prop) : Prop := ST_feed Inv ∧ ST_end Inv ∧ ST_text Inv ∧ ST_fault Inv ∧ ST_rule Inv ∧ ST_house Inv ∧ ST_order Inv ∧ ST_set Inv ∧ ST_pack Inv ∧ ST_swap Inv ∧ ST_top Inv ∧ ST_first Inv ∧ ST_ask Inv ∧ ST_turn Inv ∧ ST_weigh Inv ∧ ST_way Inv ∧ ST_time Inv ∧ ST_back Inv ∧ ST_spoilt Inv ∧ ST_late Inv ∧ ST_pennies Inv ∧ ST_spent Inv ∧ ST_best Inv ∧ ST_packing Inv ∧ ST_soonest Inv ∧ ST_two Inv ∧ ST_split Inv ∧ ST_strength Inv ∧ ST_latest Inv ∧ ST_leave Inv ∧ ST_mean Inv ∧ ST_luck Inv ∧ ST_see Inv ∧ ST_forget Inv ∧ ST_fits Inv ∧ ST_drift Inv ∧ ST_keep Inv ∧ ST_undo Inv ∧ ST_sheet Inv ∧ ST_lay Inv ∧ ST_read Inv ∧ ST_torn Inv ∧ ST_count Inv
set_option maxHeartbeats 8000000 in
set_option maxRecDepth 100000 in
theorem lwc_switch {Inv : Mem → Mem → Prop} (C : CL p s m meth c b Ln xs D adX adM cA sz) (hA : STall Inv) {i : Nat} (hi : i + 4 < Ln) (hI : Inv μ κ) (hk : ∀ ν ξ, Inv ν ξ → LW p l e s m below meth c b sz D adX adM cA 1371 [(0, .ref b), (1, .ref (adX 0)), (2, .ref (adM 0)), (3, .int (nI i))] [] ν ξ) (v : Int32) : LW p l e s m below meth c b sz D adX adM cA 32 [(0, .ref b), (1, .ref (adX 0)), (2, .ref (adM 0)), (3, .int (nI i))] [.int v] μ κ := by
  by_cases h0 : v = (0 : Int32)
  · subst h0
    exact fun H locs ls hz hP hM hS hL => lv_tableIn C.1.1 C.1.2.1 dL_law_32 (by decide) (by decide) (off := 188) rfl (tgt := 220) (by decide) (lwc_feed C hA.1 hi hI hk H locs ls hz hP hM hS hL)
  by_cases h1 : v = (1 : Int32)
  · subst h1
    exact fun H locs ls hz hP hM hS hL => lv_tableIn C.1.1 C.1.2.1 dL_law_32 (by decide) (by decide) (off := 211) rfl (tgt := 243) (by decide) (lwc_end C hA.2.1 hi hI hk H locs ls hz hP hM hS hL)
  by_cases h2 : v = (2 : Int32)
  · subst h2
    exact fun H locs ls hz hP hM hS hL => lv_tableIn C.1.1 C.1.2.1 dL_law_32 (by decide) (by decide) (off := 234) rfl (tgt := 266) (by decide) (lwc_text C hA.2.2.1 hi hI hk H locs ls hz hP hM hS hL)
  by_cases h3 : v = (3 : Int32)
  · subst h3
    exact fun H locs ls hz hP hM hS hL => lv_tableIn C.1.1 C.1.2.1 dL_law_32 (by decide) (by decide) (off := 247) rfl (tgt := 279) (by decide) (lwc_fault C hA.2.2.2.1 hi hI hk H locs ls hz hP hM hS hL)
  by_cases h4 : v = (4 : Int32)
  · subst h4
    exact fun H locs ls hz hP hM hS hL => lv_tableIn C.1.1 C.1.2.1 dL_law_32 (by decide) (by decide) (off := 260) rfl (tgt := 292) (by decide) (lwc_rule C hA.2.2.2.2.1 hi hI hk H locs ls hz hP hM hS hL)
  by_cases h5 : v = (5 : Int32)
  · subst h5
    exact fun H locs ls hz hP hM hS hL => lv_tableIn C.1.1 C.1.2.1 dL_law_32 (by decide) (by decide) (off := 283) rfl (tgt := 315) (by decide) (lwc_house C hA.2.2.2.2.2.1 hi hI hk H locs ls hz hP hM hS hL)
  by_cases h6 : v = (6 : Int32)
  · subst h6
    exact fun H locs ls hz hP hM hS hL => lv_tableIn C.1.1 C.1.2.1 dL_law_32 (by decide) (by decide) (off := 316) rfl (tgt := 348) (by decide) (lwc_order C hA.2.2.2.2.2.2.1 hi hI hk H locs ls hz hP hM hS hL)
  by_cases h7 : v = (7 : Int32)
  · subst h7
    exact fun H locs ls hz hP hM hS hL => lv_tableIn C.1.1 C.1.2.1 dL_law_32 (by decide) (by decide) (off := 349) rfl (tgt := 381) (by decide) (lwc_set C hA.2.2.2.2.2.2.2.1 hi hI hk H locs ls hz hP hM hS hL)
  by_cases h8 : v = (8 : Int32)
  · subst h8
    exact fun H locs ls hz hP hM hS hL => lv_tableIn C.1.1 C.1.2.1 dL_law_32 (by decide) (by decide) (off := 382) rfl (tgt := 414) (by decide) (lwc_pack C hA.2.2.2.2.2.2.2.2.1 hi hI hk H locs ls hz hP hM hS hL)
  by_cases h9 : v = (9 : Int32)
  · subst h9
    exact fun H locs ls hz hP hM hS hL => lv_tableIn C.1.1 C.1.2.1 dL_law_32 (by decide) (by decide) (off := 415) rfl (tgt := 447) (by decide) (lwc_swap C hA.2.2.2.2.2.2.2.2.2.1 hi hI hk H locs ls hz hP hM hS hL)
  by_cases h10 : v = (10 : Int32)
  · subst h10
    exact fun H locs ls hz hP hM hS hL => lv_tableIn C.1.1 C.1.2.1 dL_law_32 (by decide) (by decide) (off := 448) rfl (tgt := 480) (by decide) (lwc_top C hA.2.2.2.2.2.2.2.2.2.2.1 hi hI hk H locs ls hz hP hM hS hL)
  by_cases h11 : v = (11 : Int32)
  · subst h11
    exact fun H locs ls hz hP hM hS hL => lv_tableIn C.1.1 C.1.2.1 dL_law_32 (by decide) (by decide) (off := 471) rfl (tgt := 503) (by decide) (lwc_first C hA.2.2.2.2.2.2.2.2.2.2.2.1 hi hI hk H locs ls hz hP hM hS hL)
  by_cases h12 : v = (12 : Int32)
  · subst h12
    exact fun H locs ls hz hP hM hS hL => lv_tableIn C.1.1 C.1.2.1 dL_law_32 (by decide) (by decide) (off := 494) rfl (tgt := 526) (by decide) (lwc_ask C hA.2.2.2.2.2.2.2.2.2.2.2.2.1 hi hI hk H locs ls hz hP hM hS hL)
  by_cases h13 : v = (13 : Int32)
  · subst h13
    exact fun H locs ls hz hP hM hS hL => lv_tableIn C.1.1 C.1.2.1 dL_law_32 (by decide) (by decide) (off := 537) rfl (tgt := 569) (by decide) (lwc_turn C hA.2.2.2.2.2.2.2.2.2.2.2.2.2.1 hi hI hk H locs ls hz hP hM hS hL)
  by_cases h14 : v = (14 : Int32)
  · subst h14
    exact fun H locs ls hz hP hM hS hL => lv_tableIn C.1.1 C.1.2.1 dL_law_32 (by decide) (by decide) (off := 570) rfl (tgt := 602) (by decide) (lwc_weigh C hA.2.2.2.2.2.2.2.2.2.2.2.2.2.2.1 hi hI hk H locs ls hz hP hM hS hL)
  by_cases h15 : v = (15 : Int32)
  · subst h15
    exact fun H locs ls hz hP hM hS hL => lv_tableIn C.1.1 C.1.2.1 dL_law_32 (by decide) (by decide) (off := 603) rfl (tgt := 635) (by decide) (lwc_way C hA.2.2.2.2.2.2.2.2.2.2.2.2.2.2.2.1 hi hI hk H locs ls hz hP hM hS hL)
  by_cases h16 : v = (16 : Int32)
  · subst h16
    exact fun H locs ls hz hP hM hS hL => lv_tableIn C.1.1 C.1.2.1 dL_law_32 (by decide) (by decide) (off := 646) rfl (tgt := 678) (by decide) (lwc_time C hA.2.2.2.2.2.2.2.2.2.2.2.2.2.2.2.2.1 hi hI hk H locs ls hz hP hM hS hL)
  by_cases h17 : v = (17 : Int32)
  · subst h17
    exact fun H locs ls hz hP hM hS hL => lv_tableIn C.1.1 C.1.2.1 dL_law_32 (by decide) (by decide) (off := 669) rfl (tgt := 701) (by decide) (lwc_back C hA.2.2.2.2.2.2.2.2.2.2.2.2.2.2.2.2.2.1 hi hI hk H locs ls hz hP hM hS hL)
  by_cases h18 : v = (18 : Int32)
  · subst h18
    exact fun H locs ls hz hP hM hS hL => lv_tableIn C.1.1 C.1.2.1 dL_law_32 (by decide) (by decide) (off := 682) rfl (tgt := 714) (by decide) (lwc_spoilt C hA.2.2.2.2.2.2.2.2.2.2.2.2.2.2.2.2.2.2.1 hi hI hk H locs ls hz hP hM hS hL)
  by_cases h19 : v = (19 : Int32)
  · subst h19
    exact fun H locs ls hz hP hM hS hL => lv_tableIn C.1.1 C.1.2.1 dL_law_32 (by decide) (by decide) (off := 695) rfl (tgt := 727) (by decide) (lwc_late C hA.2.2.2.2.2.2.2.2.2.2.2.2.2.2.2.2.2.2.2.1 hi hI hk H locs ls hz hP hM hS hL)
  by_cases h20 : v = (20 : Int32)
  · subst h20
    exact fun H locs ls hz hP hM hS hL => lv_tableIn C.1.1 C.1.2.1 dL_law_32 (by decide) (by decide) (off := 708) rfl (tgt := 740) (by decide) (lwc_pennies C hA.2.2.2.2.2.2.2.2.2.2.2.2.2.2.2.2.2.2.2.2.1 hi hI hk H locs ls hz hP hM hS hL)
  by_cases h21 : v = (21 : Int32)
  · subst h21
    exact fun H locs ls hz hP hM hS hL => lv_tableIn C.1.1 C.1.2.1 dL_law_32 (by decide) (by decide) (off := 721) rfl (tgt := 753) (by decide) (lwc_spent C hA.2.2.2.2.2.2.2.2.2.2.2.2.2.2.2.2.2.2.2.2.2.1 hi hI hk H locs ls hz hP hM hS hL)
  by_cases h22 : v = (22 : Int32)
  · subst h22
    exact fun H locs ls hz hP hM hS hL => lv_tableIn C.1.1 C.1.2.1 dL_law_32 (by decide) (by decide) (off := 744) rfl (tgt := 776) (by decide) (lwc_best C hA.2.2.2.2.2.2.2.2.2.2.2.2.2.2.2.2.2.2.2.2.2.2.1 hi hI hk H locs ls hz hP hM hS hL)
  by_cases h23 : v = (23 : Int32)
  · subst h23
    exact fun H locs ls hz hP hM hS hL => lv_tableIn C.1.1 C.1.2.1 dL_law_32 (by decide) (by decide) (off := 767) rfl (tgt := 799) (by decide) (lwc_packing C hA.2.2.2.2.2.2.2.2.2.2.2.2.2.2.2.2.2.2.2.2.2.2.2.1 hi hI hk H locs ls hz hP hM hS hL)
  by_cases h24 : v = (24 : Int32)
  · subst h24
    exact fun H locs ls hz hP hM hS hL => lv_tableIn C.1.1 C.1.2.1 dL_law_32 (by decide) (by decide) (off := 790) rfl (tgt := 822) (by decide) (lwc_soonest C hA.2.2.2.2.2.2.2.2.2.2.2.2.2.2.2.2.2.2.2.2.2.2.2.2.1 hi hI hk H locs ls hz hP hM hS hL)
  by_cases h25 : v = (25 : Int32)
  · subst h25
    exact fun H locs ls hz hP hM hS hL => lv_tableIn C.1.1 C.1.2.1 dL_law_32 (by decide) (by decide) (off := 813) rfl (tgt := 845) (by decide) (lwc_two C hA.2.2.2.2.2.2.2.2.2.2.2.2.2.2.2.2.2.2.2.2.2.2.2.2.2.1 hi hI hk H locs ls hz hP hM hS hL)
  by_cases h26 : v = (26 : Int32)
  · subst h26
    exact fun H locs ls hz hP hM hS hL => lv_tableIn C.1.1 C.1.2.1 dL_law_32 (by decide) (by decide) (off := 846) rfl (tgt := 878) (by decide) (lwc_split C hA.2.2.2.2.2.2.2.2.2.2.2.2.2.2.2.2.2.2.2.2.2.2.2.2.2.2.1 hi hI hk H locs ls hz hP hM hS hL)
  by_cases h27 : v = (27 : Int32)
  · subst h27
    exact fun H locs ls hz hP hM hS hL => lv_tableIn C.1.1 C.1.2.1 dL_law_32 (by decide) (by decide) (off := 869) rfl (tgt := 901) (by decide) (lwc_strength C hA.2.2.2.2.2.2.2.2.2.2.2.2.2.2.2.2.2.2.2.2.2.2.2.2.2.2.2.1 hi hI hk H locs ls hz hP hM hS hL)
  by_cases h28 : v = (28 : Int32)
  · subst h28
    exact fun H locs ls hz hP hM hS hL => lv_tableIn C.1.1 C.1.2.1 dL_law_32 (by decide) (by decide) (off := 882) rfl (tgt := 914) (by decide) (lwc_latest C hA.2.2.2.2.2.2.2.2.2.2.2.2.2.2.2.2.2.2.2.2.2.2.2.2.2.2.2.2.1 hi hI hk H locs ls hz hP hM hS hL)
  by_cases h29 : v = (29 : Int32)
  · subst h29
    exact fun H locs ls hz hP hM hS hL => lv_tableIn C.1.1 C.1.2.1 dL_law_32 (by decide) (by decide) (off := 895) rfl (tgt := 927) (by decide) (lwc_leave C hA.2.2.2.2.2.2.2.2.2.2.2.2.2.2.2.2.2.2.2.2.2.2.2.2.2.2.2.2.2.1 hi hI hk H locs ls hz hP hM hS hL)
  by_cases h30 : v = (30 : Int32)
  · subst h30
    exact fun H locs ls hz hP hM hS hL => lv_tableIn C.1.1 C.1.2.1 dL_law_32 (by decide) (by decide) (off := 918) rfl (tgt := 950) (by decide) (lwc_mean C hA.2.2.2.2.2.2.2.2.2.2.2.2.2.2.2.2.2.2.2.2.2.2.2.2.2.2.2.2.2.2.1 hi hI hk H locs ls hz hP hM hS hL)
  by_cases h31 : v = (31 : Int32)
  · subst h31
    exact fun H locs ls hz hP hM hS hL => lv_tableIn C.1.1 C.1.2.1 dL_law_32 (by decide) (by decide) (off := 952) rfl (tgt := 984) (by decide) (lwc_luck C hA.2.2.2.2.2.2.2.2.2.2.2.2.2.2.2.2.2.2.2.2.2.2.2.2.2.2.2.2.2.2.2.1 hi hI hk H locs ls hz hP hM hS hL)
  by_cases h32 : v = (32 : Int32)
  · subst h32
    exact fun H locs ls hz hP hM hS hL => lv_tableIn C.1.1 C.1.2.1 dL_law_32 (by decide) (by decide) (off := 996) rfl (tgt := 1028) (by decide) (lwc_see C hA.2.2.2.2.2.2.2.2.2.2.2.2.2.2.2.2.2.2.2.2.2.2.2.2.2.2.2.2.2.2.2.2.1 hi hI hk H locs ls hz hP hM hS hL)
  by_cases h33 : v = (33 : Int32)
  · subst h33
    exact fun H locs ls hz hP hM hS hL => lv_tableIn C.1.1 C.1.2.1 dL_law_32 (by decide) (by decide) (off := 1029) rfl (tgt := 1061) (by decide) (lwc_forget C hA.2.2.2.2.2.2.2.2.2.2.2.2.2.2.2.2.2.2.2.2.2.2.2.2.2.2.2.2.2.2.2.2.2.1 hi hI hk H locs ls hz hP hM hS hL)
  by_cases h34 : v = (34 : Int32)
  · subst h34
    exact fun H locs ls hz hP hM hS hL => lv_tableIn C.1.1 C.1.2.1 dL_law_32 (by decide) (by decide) (off := 1052) rfl (tgt := 1084) (by decide) (lwc_fits C hA.2.2.2.2.2.2.2.2.2.2.2.2.2.2.2.2.2.2.2.2.2.2.2.2.2.2.2.2.2.2.2.2.2.2.1 hi hI hk H locs ls hz hP hM hS hL)
  by_cases h35 : v = (35 : Int32)
  · subst h35
    exact fun H locs ls hz hP hM hS hL => lv_tableIn C.1.1 C.1.2.1 dL_law_32 (by decide) (by decide) (off := 1075) rfl (tgt := 1107) (by decide) (lwc_drift C hA.2.2.2.2.2.2.2.2.2.2.2.2.2.2.2.2.2.2.2.2.2.2.2.2.2.2.2.2.2.2.2.2.2.2.2.1 hi hI hk H locs ls hz hP hM hS hL)
  by_cases h36 : v = (36 : Int32)
  · subst h36
    exact fun H locs ls hz hP hM hS hL => lv_tableIn C.1.1 C.1.2.1 dL_law_32 (by decide) (by decide) (off := 1118) rfl (tgt := 1150) (by decide) (lwc_keep C hA.2.2.2.2.2.2.2.2.2.2.2.2.2.2.2.2.2.2.2.2.2.2.2.2.2.2.2.2.2.2.2.2.2.2.2.2.1 hi hI hk H locs ls hz hP hM hS hL)
  by_cases h37 : v = (37 : Int32)
  · subst h37
    exact fun H locs ls hz hP hM hS hL => lv_tableIn C.1.1 C.1.2.1 dL_law_32 (by decide) (by decide) (off := 1141) rfl (tgt := 1173) (by decide) (lwc_undo C hA.2.2.2.2.2.2.2.2.2.2.2.2.2.2.2.2.2.2.2.2.2.2.2.2.2.2.2.2.2.2.2.2.2.2.2.2.2.1 hi hI hk H locs ls hz hP hM hS hL)
  by_cases h38 : v = (38 : Int32)
  · subst h38
    exact fun H locs ls hz hP hM hS hL => lv_tableIn C.1.1 C.1.2.1 dL_law_32 (by decide) (by decide) (off := 1164) rfl (tgt := 1196) (by decide) (lwc_sheet C hA.2.2.2.2.2.2.2.2.2.2.2.2.2.2.2.2.2.2.2.2.2.2.2.2.2.2.2.2.2.2.2.2.2.2.2.2.2.2.1 hi hI hk H locs ls hz hP hM hS hL)
  by_cases h39 : v = (39 : Int32)
  · subst h39
    exact fun H locs ls hz hP hM hS hL => lv_tableIn C.1.1 C.1.2.1 dL_law_32 (by decide) (by decide) (off := 1207) rfl (tgt := 1239) (by decide) (lwc_lay C hA.2.2.2.2.2.2.2.2.2.2.2.2.2.2.2.2.2.2.2.2.2.2.2.2.2.2.2.2.2.2.2.2.2.2.2.2.2.2.2.1 hi hI hk H locs ls hz hP hM hS hL)
  by_cases h40 : v = (40 : Int32)
  · subst h40
    exact fun H locs ls hz hP hM hS hL => lv_tableIn C.1.1 C.1.2.1 dL_law_32 (by decide) (by decide) (off := 1250) rfl (tgt := 1282) (by decide) (lwc_read C hA.2.2.2.2.2.2.2.2.2.2.2.2.2.2.2.2.2.2.2.2.2.2.2.2.2.2.2.2.2.2.2.2.2.2.2.2.2.2.2.2.1 hi hI hk H locs ls hz hP hM hS hL)
  by_cases h41 : v = (41 : Int32)
  · subst h41
    exact fun H locs ls hz hP hM hS hL => lv_tableIn C.1.1 C.1.2.1 dL_law_32 (by decide) (by decide) (off := 1303) rfl (tgt := 1335) (by decide) (lwc_torn C hA.2.2.2.2.2.2.2.2.2.2.2.2.2.2.2.2.2.2.2.2.2.2.2.2.2.2.2.2.2.2.2.2.2.2.2.2.2.2.2.2.2.1 hi hI hk H locs ls hz hP hM hS hL)
  by_cases h42 : v = (42 : Int32)
  · subst h42
    exact fun H locs ls hz hP hM hS hL => lv_tableIn C.1.1 C.1.2.1 dL_law_32 (by decide) (by decide) (off := 1316) rfl (tgt := 1348) (by decide) (lwc_count C hA.2.2.2.2.2.2.2.2.2.2.2.2.2.2.2.2.2.2.2.2.2.2.2.2.2.2.2.2.2.2.2.2.2.2.2.2.2.2.2.2.2.2 hi hI hk H locs ls hz hP hM hS hL)
  have n0 := lv_neT h0 (show (0 : Int32).toInt = 0 by decide)
  have n1 := lv_neT h1 (show (1 : Int32).toInt = 1 by decide)
  have n2 := lv_neT h2 (show (2 : Int32).toInt = 2 by decide)
  have n3 := lv_neT h3 (show (3 : Int32).toInt = 3 by decide)
  have n4 := lv_neT h4 (show (4 : Int32).toInt = 4 by decide)
  have n5 := lv_neT h5 (show (5 : Int32).toInt = 5 by decide)
  have n6 := lv_neT h6 (show (6 : Int32).toInt = 6 by decide)
  have n7 := lv_neT h7 (show (7 : Int32).toInt = 7 by decide)
  have n8 := lv_neT h8 (show (8 : Int32).toInt = 8 by decide)
  have n9 := lv_neT h9 (show (9 : Int32).toInt = 9 by decide)
  have n10 := lv_neT h10 (show (10 : Int32).toInt = 10 by decide)
  have n11 := lv_neT h11 (show (11 : Int32).toInt = 11 by decide)
  have n12 := lv_neT h12 (show (12 : Int32).toInt = 12 by decide)
  have n13 := lv_neT h13 (show (13 : Int32).toInt = 13 by decide)
  have n14 := lv_neT h14 (show (14 : Int32).toInt = 14 by decide)
  have n15 := lv_neT h15 (show (15 : Int32).toInt = 15 by decide)
  have n16 := lv_neT h16 (show (16 : Int32).toInt = 16 by decide)
  have n17 := lv_neT h17 (show (17 : Int32).toInt = 17 by decide)
  have n18 := lv_neT h18 (show (18 : Int32).toInt = 18 by decide)
  have n19 := lv_neT h19 (show (19 : Int32).toInt = 19 by decide)
  have n20 := lv_neT h20 (show (20 : Int32).toInt = 20 by decide)
  have n21 := lv_neT h21 (show (21 : Int32).toInt = 21 by decide)
  have n22 := lv_neT h22 (show (22 : Int32).toInt = 22 by decide)
  have n23 := lv_neT h23 (show (23 : Int32).toInt = 23 by decide)
  have n24 := lv_neT h24 (show (24 : Int32).toInt = 24 by decide)
  have n25 := lv_neT h25 (show (25 : Int32).toInt = 25 by decide)
  have n26 := lv_neT h26 (show (26 : Int32).toInt = 26 by decide)
  have n27 := lv_neT h27 (show (27 : Int32).toInt = 27 by decide)
  have n28 := lv_neT h28 (show (28 : Int32).toInt = 28 by decide)
  have n29 := lv_neT h29 (show (29 : Int32).toInt = 29 by decide)
  have n30 := lv_neT h30 (show (30 : Int32).toInt = 30 by decide)
  have n31 := lv_neT h31 (show (31 : Int32).toInt = 31 by decide)
  have n32 := lv_neT h32 (show (32 : Int32).toInt = 32 by decide)
  have n33 := lv_neT h33 (show (33 : Int32).toInt = 33 by decide)
  have n34 := lv_neT h34 (show (34 : Int32).toInt = 34 by decide)
  have n35 := lv_neT h35 (show (35 : Int32).toInt = 35 by decide)
  have n36 := lv_neT h36 (show (36 : Int32).toInt = 36 by decide)
  have n37 := lv_neT h37 (show (37 : Int32).toInt = 37 by decide)
  have n38 := lv_neT h38 (show (38 : Int32).toInt = 38 by decide)
  have n39 := lv_neT h39 (show (39 : Int32).toInt = 39 by decide)
  have n40 := lv_neT h40 (show (40 : Int32).toInt = 40 by decide)
  have n41 := lv_neT h41 (show (41 : Int32).toInt = 41 by decide)
  have n42 := lv_neT h42 (show (42 : Int32).toInt = 42 by decide)
  exact fun H locs ls hz hP hM hS hL => lv_tableOut C.1.1 C.1.2.1 dL_law_32 (by omega) (tgt := 1371) (by decide) (hk μ κ hI H locs ls hz hP hM hS hL)
set_option maxHeartbeats 4000000 in
set_option maxRecDepth 100000 in
theorem law_loop {Inv : Mem → Mem → Prop} (C : CL p s m meth c b Ln xs D adX adM cA sz) (hA : STall Inv) : ∀ (n i : Nat) (μ κ : Mem), i ≤ Ln + 5 → Ln + 6 ≤ i + n → Inv μ κ → LW p l e s m below meth c b sz D adX adM cA 18 [(0, .ref b), (1, .ref (adX 0)), (2, .ref (adM 0)), (3, .int (nI i))] [] μ κ := by
  intro n
  induction n with
  | zero =>
    intro i μ κ h1 h2
    exact absurd h2 (by omega)
  | succ n ih =>
    intro i μ κ hi hin hI
    have hLn := C.2.1
    refine lwr_iload C 3 dL_law_18 rfl rfl ?_
    refine lwr_aload C 0 dL_law_19 rfl rfl ?_
    refine lwr_slen C dL_law_20 ?_
    refine lwr_iconst (v := (5 : Int32)) C dL_law_21 (by decide) ?_
    refine lwr_isub C dL_law_22 ?_
    intro H locs ls hz hP hM hS hL
    have e5 : (nI Ln - 5).toInt = (Ln : Int) - 5 := pk_sub_toInt (a := Ln) (b := 5) (by omega) (by omega)
    have ei : (nI i).toInt = (i : Int) := nI_toInt (by omega)
    refine lv_icmp_gt (tgt := 1377) C.1.1 C.1.2.1 dL_law_23 (by decide) (fun c1 => ?_) (fun c1 => ?_)
    · refine lv_iconst (v := 1) C.1.1 C.1.2.1 dL_law_1377 (by decide) ?_
      refine va_forget (fun q hq => hS.2.2 q hq) ?_
      refine W.widen (k := 600000) (n := 7302250) (by decide) (by decide) ?_
      exact lw_ret C.1.1 C.1.2.1 C.1.2.2.1 C.1.2.2.2.2.2.2.2.2.1 dL_law_1378
    · have hlt : i + 4 < Ln := by
        have h9 : ¬ (nI Ln - 5).toInt < (nI i).toInt := fun h => c1 (Int32.lt_iff_toInt_lt.mpr h)
        rw [e5, ei] at h9
        omega
      revert H locs ls
      show LW p l e s m below meth c b sz D adX adM cA 26 [(0, .ref b), (1, .ref (adX 0)), (2, .ref (adM 0)), (3, .int (nI i))] [] μ κ
      refine lwr_aload C 0 dL_law_26 rfl rfl ?_
      refine lwr_iload C 3 dL_law_27 rfl rfl ?_
      refine lwr_sld C (i := i) (by omega) rfl dL_law_28 ?_
      refine lwr_bipush (v := (63 : Int32)) C dL_law_29 (by decide) ?_
      refine lwr_iand C dL_law_31 ?_
      refine lwc_switch C hA hlt hI (fun ν ξ h3 => ?_) _
      intro H locs ls hz hP hM hS hL
      refine lv_iinc (v := nI (i + 5)) (lv' := [(3, .int (nI (i + 5))), (0, .ref b), (1, .ref (adX 0)), (2, .ref (adM 0))]) C.1.1 C.1.2.1 dL_law_1371 hL (k := 3) rfl (by show nI i + nI 5 = nI (i + 5); rw [nI_add]) (by decide) rfl (fun ls hl => ?_)
      refine lv_goto (tgt := 18) C.1.1 C.1.2.1 dL_law_1374 (by decide) ?_
      exact ih (i + 5) ν ξ (by omega) (by omega) h3 H locs ls hz hP hM hS (lv_sub hl [1, 2, 3, 0] rfl)
end LAW
