def va_AOA (ty : FieldType) (U : State) : Prop := (Cond.arrayOver (.array ty)).before #[] U = true
theorem va_AOA.use {ty : FieldType} {A : Array Value} {U : State} (h : va_AOA ty U) : (Cond.arrayOver (.array ty)).before A U = true := h
theorem va_AOA.moved {ty : FieldType} {u U : State} (hvm : u.vm.Alike U.vm) (h : va_AOA ty u) : va_AOA ty U := Jvm.Stand.arrayOver_alikeB hvm h
/-! ===== BEGIN new T[n][m]: the outer array a place, the inner ones among the pooled ===== -/
/-- f, but v at every address of l -/
def vr_up {α : Type} (f : Nat → α) (l : List Nat) (v : α) : Nat → α := fun a => if a ∈ l then v else f a
theorem vr_up_in {α : Type} {f : Nat → α} {l : List Nat} {v : α} {a : Nat} (h : a ∈ l) : vr_up f l v a = v := if_pos h
theorem vr_up_ne {α : Type} {f : Nat → α} {l : List Nat} {v : α} {a : Nat} (h : a ∉ l) : vr_up f l v a = f a := if_neg h
theorem vr_rows {L l : List Nat} {f : Nat → va_E} {e : va_E} (h : ∀ a, a ∈ l → a ∉ L) : va_pl L f ++ l.map (fun a => (a, e)) = va_pl (L ++ l) (vr_up f l e) := by
  unfold va_pl
  rw [List.map_append]
  congr 1
  · apply List.map_congr_left
    intro a ha
    rw [vr_up_ne (fun q => h a q ha)]
  · apply List.map_congr_left
    intro a ha
    rw [vr_up_in ha]
theorem vr_lay {X rows : va_W} {x : Nat × va_E} {pl : va_W} {D : va_G} {cl : List vw_C} {H : Heap} (hP : va_P D cl (((X ++ pl) ++ [x]) ++ rows) H) : va_P D cl ((X ++ [x]) ++ (pl ++ rows)) H := by
  rw [List.append_assoc (X ++ pl)] at hP
  have h := va_P.swap hP
  rw [← List.append_assoc X] at h
  have h2 := va_P.swap h
  rw [List.append_assoc (X ++ [x])] at h2
  exact h2
theorem vr_layD {X rows : va_W} {x : Nat × va_E} {pl : va_W} {A : Nat → Prop} (hD : va_D A (((X ++ pl) ++ [x]) ++ rows)) : va_D A ((X ++ [x]) ++ (pl ++ rows)) := by
  rw [List.append_assoc (X ++ pl)] at hD
  have h := va_D.swap hD
  rw [← List.append_assoc X] at h
  have h2 := va_D.swap h
  rw [List.append_assoc (X ++ [x])] at h2
  exact h2
theorem vr_outer (c : ClassId) (N h0 : Nat) : ∀ i : Nat, Jvm.Free.Multi.outerC c N h0 i = arrV c N (fun j => va_rf (if j < i then some (h0 + 1 + j) else none))
  | 0 => by
    show ({ cls := c, slots := Array.replicate N .null, vm := .none } : Cell) = _
    rw [arrV_new]
    refine congrArg (arrV c N) (funext fun j => ?_)
    simp [va_rf]
  | i + 1 => by
    show (Jvm.Free.Multi.outerC c N h0 i).setSlot i (.ref (h0 + 1 + i)) = _
    rw [vr_outer c N h0 i, arrV_store]
    refine congrArg (arrV c N) (funext fun j => ?_)
    by_cases e : j = i
    · subst e
      simp [updV, va_rf]
    · by_cases h : j < i
      · simp [updV, e, h, Nat.lt_succ_of_lt h]
      · simp [updV, e, h, show ¬ j < i + 1 by omega]
section VGM
variable {p : Program} {l : Launch} {e : Env} {R : Room} {s : State} {m : MethodId} {args : Array Value} {below : List Frame} {meth : Method} {c : Code} {H : Heap} {locs : List Loc} {cells slots : Nat} {Q : State → Prop}
variable {cc : ByteArray} {pc : Nat} {ls : Array Slot} {rest : List Value} {D : va_G} {cl : List vw_C} {A : Nat → Prop} {a : Nat} {tys : List (ClassId × FieldType)} {ws : va_W} {H0 : Heap}
theorem va_mna {X : va_W} {L : List Nat} {f : Nat → va_E} {cc : ByteArray} (hexec : p.tables.exec = Jvm.exec) (hb : c.code = cc) {own : String} {index : Nat} {ty : FieldType} {cy : ClassId} (hown : s.vm.findClass own = some m.cls) (hclink : (Cond.classLink own index ("[" ++ (FieldType.array ty).toString)).before args s = true) (hover : va_AOA ty s) (harr : (Cond.arrayClass ty).before args s = true) (hcy : s.vm.findClass (FieldType.array ty).toString = some cy)
    (hK : va_K D cl tys s) (hP : va_P D cl (X ++ va_pl L f) H) (hD : va_D A (X ++ va_pl L f)) (hS : va_S A H0 H locs) (hA : ∀ q, H0.size ≤ q → A q) {n k : Int32} {N' K' : Nat} {z : vp_A} (hn : ¬ n < 0) (hk : ¬ k < 0) (hN : n.toNatClampNeg = N') (hM : k.toNatClampNeg = K')
    (hb1 : N' * 4 ≤ 536870912) (hb2 : K' * componentBytes ty ≤ 536870912) (hb3 : K' ≤ 536870912) (hdf : fits ty (defaultValue ty) = true) (hdd : (defaultValue ty).isDefault = true) (hcells : cells + (1 + N') ≤ R.cells) (hslots : slots + (N' + N' * K') ≤ R.slots) (hz : ∀ c : ClassId, Jvm.Free.Multi.innerC c K' (defaultValue ty) = vp_cell c z) (hdg : decode cc pc = .ok (.multianewarray index 2, 4))
    (kk : ∀ (q : Nat) (r : Nat → Nat) (cA : ClassId) (H1 : Heap), (∀ i j : Nat, i < N' → j < N' → r i = r j → i = j) → (∀ i : Nat, i < N' → r i ∉ L) → va_K D cl (tys ++ [(cA, .array ty)]) s →
      va_P D cl ((X ++ [(q, .inl (cA, N', .inr (.inr (.inr (.inr (fun i => if i < N' then some (r i) else none))))))]) ++ va_pl (L ++ (List.range N').map r) (vr_up f ((List.range N').map r) (.inl (cy, z)))) H1 → va_D A ((X ++ [(q, .inl (cA, N', .inr (.inr (.inr (.inr (fun i => if i < N' then some (r i) else none))))))]) ++ va_pl (L ++ (List.range N').map r) (vr_up f ((List.range N').map r) (.inl (cy, z)))) → va_S A H0 H1 locs →
      W p l e R s m args below meth c H1 locs (cells + 1 + N') (slots + N' + N' * K') Q (F0 m (pc + 4) ls (.ref q :: rest))) : W p l e R s m args below meth c H locs cells slots Q (F0 m pc ls (.int k :: .int n :: rest)) := by
  subst hN
  subst hM
  intro T hT Xs
  obtain ⟨vm₁, cA, comp, -, fA, fC, hO, -, X', step⟩ := Xs.multianewarray2F hexec hown hclink (va_AOA.use hover) harr (g := F0 m pc ls (.int k :: .int n :: rest)) rfl (by rw [hb]; exact hdg) rfl hn hk hb1 hb2 hb3 hdf hdd hcells hslots
  have ec : some cy = some comp := hcy.symm.trans fC
  cases ec
  generalize hF : Jvm.Free.Multi.fill (T.setVm vm₁) cA cy n.toNatClampNeg k.toNatClampNeg (defaultValue ty) n.toNatClampNeg = F at X' step
  have hTh : (T.setVm vm₁).heap = H := hT
  obtain ⟨f1, f2, -, -⟩ := Jvm.Free.Multi.fill_facts (T.setVm vm₁) cA cy n.toNatClampNeg k.toNatClampNeg (defaultValue ty) n.toNatClampNeg
  rw [hF, hTh] at f1 f2
  have hold : ∀ x : Nat, x < H.size → F.heap[x]? = H[x]? := fun x hx => by
    have := Jvm.Free.Multi.fill_old (T.setVm vm₁) cA cy n.toNatClampNeg k.toNatClampNeg (defaultValue ty) (a := x) (by rw [hTh]; exact hx) n.toNatClampNeg
    rw [hF, hTh] at this
    exact this
  have hrow : ∀ j : Nat, j < n.toNatClampNeg → F.heap[H.size + 1 + j]? = some (vp_cell cy z) := fun j hj => by
    have := Jvm.Free.Multi.fill_inner (T.setVm vm₁) cA cy n.toNatClampNeg k.toNatClampNeg (defaultValue ty) n.toNatClampNeg j hj
    rw [hF, hTh, hz] at this
    exact this
  have hout : Jvm.Free.Multi.outerC cA n.toNatClampNeg H.size n.toNatClampNeg = vp_cell cA (n.toNatClampNeg, .inr (.inr (.inr (.inr (fun i => if i < n.toNatClampNeg then some (H.size + 1 + i) else none))))) := by
    rw [vp_cell_q]
    exact vr_outer cA n.toNatClampNeg H.size n.toNatClampNeg
  rw [hout] at f2
  have hlt : ∀ a, a ∈ L → a < H.size := fun a ha => by
    obtain ⟨k9, hk9⟩ := va_pl_get (X := X) (f := f) ha
    exact (hP k9 _ hk9).lt
  have hnl : ∀ i : Nat, i < n.toNatClampNeg → H.size + 1 + i ∉ L := fun i _ h => by
    have := hlt _ h
    omega
  have hnm : ∀ a, a ∈ (List.range n.toNatClampNeg).map (fun i => H.size + 1 + i) → a ∉ L := fun a ha h => by
    obtain ⟨i, -, rfl⟩ := List.mem_map.mp ha
    have := hlt _ h
    omega
  have hP0 : va_P D cl (X ++ va_pl L f) F.heap := hP.kept (fun k9 x hx => hold x.1 ((hP k9 x hx).lt))
  have hP1 : va_P D cl ((X ++ va_pl L f) ++ [(H.size, .inl (cA, n.toNatClampNeg, .inr (.inr (.inr (.inr (fun i => if i < n.toNatClampNeg then some (H.size + 1 + i) else none))))))]) F.heap := hP0.app (fun k9 x hx => by
    have h0 : k9 < 1 := (List.getElem?_eq_some_iff.mp hx).1
    rw [show k9 = 0 by omega] at hx
    cases hx
    exact f2)
  have hP2 : va_P D cl (((X ++ va_pl L f) ++ [(H.size, .inl (cA, n.toNatClampNeg, .inr (.inr (.inr (.inr (fun i => if i < n.toNatClampNeg then some (H.size + 1 + i) else none))))))]) ++ ((List.range n.toNatClampNeg).map (fun i => H.size + 1 + i)).map (fun a => (a, .inl (cy, z)))) F.heap := hP1.app (fun k9 x hx => by
    obtain ⟨a, ha, rfl⟩ := List.mem_map.mp (List.mem_of_getElem? hx)
    obtain ⟨i, hi, rfl⟩ := List.mem_map.mp ha
    exact hrow i (List.mem_range.mp hi))
  have hD2 : va_D A (((X ++ va_pl L f) ++ [(H.size, .inl (cA, n.toNatClampNeg, .inr (.inr (.inr (.inr (fun i => if i < n.toNatClampNeg then some (H.size + 1 + i) else none))))))]) ++ ((List.range n.toNatClampNeg).map (fun i => H.size + 1 + i)).map (fun a => (a, .inl (cy, z)))) := by
    have hD1 := hD.push (e := .inl (cA, n.toNatClampNeg, .inr (.inr (.inr (.inr (fun i => if i < n.toNatClampNeg then some (H.size + 1 + i) else none)))))) hP rfl (hA _ hS.1)
    generalize hW1 : (X ++ va_pl L f) ++ [(H.size, .inl (cA, n.toNatClampNeg, .inr (.inr (.inr (.inr (fun i => if i < n.toNatClampNeg then some (H.size + 1 + i) else none))))))] = W1 at hD1 hP1 ⊢
    have hle : ∀ (k9 : Nat) (x : Nat × va_E), W1[k9]? = some x → x.1 ≤ H.size := fun k9 x hx => by
      rw [← hW1] at hx
      by_cases hl : k9 < (X ++ va_pl L f).length
      · rw [List.getElem?_append_left hl] at hx
        exact Nat.le_of_lt ((hP k9 x hx).lt)
      · rw [List.getElem?_append_right (by omega)] at hx
        have h0 : k9 - (X ++ va_pl L f).length < 1 := (List.getElem?_eq_some_iff.mp hx).1
        rw [show k9 - (X ++ va_pl L f).length = 0 by omega] at hx
        cases hx
        exact Nat.le_refl _
    have hr : ∀ (k9 : Nat) (x : Nat × va_E), (((List.range n.toNatClampNeg).map (fun i => H.size + 1 + i)).map (fun a => ((a, .inl (cy, z)) : Nat × va_E)))[k9]? = some x → x.1 = H.size + 1 + k9 := fun k9 x hx => by
      rw [List.getElem?_map, List.getElem?_map] at hx
      by_cases h9 : k9 < n.toNatClampNeg
      · rw [List.getElem?_range h9] at hx
        cases hx
        rfl
      · have hn0 : (List.range n.toNatClampNeg)[k9]? = none := List.getElem?_eq_none (by rw [List.length_range]; omega)
        rw [hn0] at hx
        cases hx
    refine ⟨fun i j x y hi hj hxy => ?_, fun k9 x hx => ?_⟩
    · by_cases h1 : i < W1.length <;> by_cases h2 : j < W1.length
      · rw [List.getElem?_append_left h1] at hi
        rw [List.getElem?_append_left h2] at hj
        exact hD1.1 i j x y hi hj hxy
      · rw [List.getElem?_append_left h1] at hi
        rw [List.getElem?_append_right (by omega)] at hj
        have := hle _ _ hi
        have := hr _ _ hj
        omega
      · rw [List.getElem?_append_right (by omega)] at hi
        rw [List.getElem?_append_left h2] at hj
        have := hle _ _ hj
        have := hr _ _ hi
        omega
      · rw [List.getElem?_append_right (by omega)] at hi hj
        have := hr _ _ hi
        have := hr _ _ hj
        omega
    · by_cases h1 : k9 < W1.length
      · rw [List.getElem?_append_left h1] at hx
        exact hD1.2 k9 x hx
      · rw [List.getElem?_append_right (by omega)] at hx
        have := hr _ _ hx
        exact hA _ (by have := hS.1; omega)
  have hAr : ArrOfT s cA (.array ty) := fun N9 z9 => by
    obtain ⟨-, k9, hk9, cm9, hkk9⟩ := (hO 0 0 0).1
    exact ⟨(fun q hq => by cases hq), k9, hk9, cm9, hkk9⟩
  have hK2 : va_K D cl (tys ++ [(cA, .array ty)]) s := ⟨hK.1, fun k9 x hx => by
    by_cases hl : k9 < tys.length
    · rw [List.getElem?_append_left hl] at hx
      exact hK.2 k9 x hx
    · rw [List.getElem?_append_right (by omega)] at hx
      have h0 : k9 - tys.length < 1 := (List.getElem?_eq_some_iff.mp hx).1
      rw [show k9 - tys.length = 0 by omega] at hx
      cases hx
      exact ⟨hAr, fA⟩⟩
  obtain ⟨t, a1, b1⟩ := kk H.size (fun i => H.size + 1 + i) cA F.heap (fun i j _ _ h => by have h9 : H.size + 1 + i = H.size + 1 + j := h; omega) hnl hK2 (by rw [← vr_rows hnm]; exact vr_lay hP2) (by rw [← vr_rows hnm]; exact vr_layD hD2) ⟨by rw [f1]; have := hS.1; omega, fun x h1 h2 => (hold x (Nat.lt_of_lt_of_le h1 hS.1)).trans (hS.2.1 x h1 h2), hS.2.2⟩ F rfl X'
  refine ⟨t, step t ?_, b1⟩
  have e : T.heap.size = H.size := by rw [hT]
  rw [e]
  exact a1
end VGM
def EN (U : State) : Prop := va_AO "BasketRound$Shop" U ∧ va_AOA .int U ∧ va_Nw (.methodLinkNest RX7 9 yX5_init "BasketRound") U ∧ va_Nw (.methodLinkNest RX7 18 yX4_init "BasketRound") U ∧ va_Nw (.methodLinkNest RX7 43 yX0_init "BasketRound") U ∧ va_Nw (.methodLinkNest RX7 50 yX2_init "BasketRound") U ∧ va_Nw (.methodLinkNest RX7 65 yX3_init "BasketRound") U ∧ va_Nw (.methodLinkNest RX1 11 yX4_init "BasketRound") U
theorem EN1 {s U : State} (h : EN s) (hv : U.vm = s.vm) : EN U := ⟨h.1.moved (by rw [hv]; exact Vm.Alike.refl _), h.2.1.moved (by rw [hv]; exact Vm.Alike.refl _), va_Nw.same rfl hv.symm h.2.2.1, va_Nw.same rfl hv.symm h.2.2.2.1, va_Nw.same rfl hv.symm h.2.2.2.2.1, va_Nw.same rfl hv.symm h.2.2.2.2.2.1, va_Nw.same rfl hv.symm h.2.2.2.2.2.2.1, va_Nw.same rfl hv.symm h.2.2.2.2.2.2.2⟩
theorem EN2 {s U : State} (h : EN s) (hW : s.WarmedH U.vm) : EN U := ⟨h.1.moved hW.alike, h.2.1.moved hW.alike, va_Nw.warmM hW h.2.2.1, va_Nw.warmM hW h.2.2.2.1, va_Nw.warmM hW h.2.2.2.2.1, va_Nw.warmM hW h.2.2.2.2.2.1, va_Nw.warmM hW h.2.2.2.2.2.2.1, va_Nw.warmM hW h.2.2.2.2.2.2.2⟩
def QC (D : va_G) (A : Nat → Prop) (X : va_W) (fin : va_W → Prop) : Array Value → State → Outcome → State → Prop := fun _ st oc t => oc = .returned none ∧ (∃ l1, fin l1 ∧ va_P D vwCl (X ++ l1) t.heap ∧ va_D A (X ++ l1)) ∧ va_F A st t
def PC (D : va_G) (A : Nat → Prop) (cA : Nat → ClassId) (X : va_W) (l1 : va_W) (U : State) : Prop := (∀ q : Nat, U.heap.size ≤ q → A q) ∧ va_P D vwCl (X ++ l1) U.heap ∧ va_D A (X ++ l1) ∧ va_K D vwCl (tysl cA) U ∧ EN U
def KC (l : Launch) (A : Nat → Prop) (D : va_G) (cA : Nat → ClassId) (y : MethodName) (cc : ByteArray) (nL d mc ms : Nat) (X : va_W) (av : List Value) (l1 : va_W) (fin : va_W → Prop) : Prop :=
  Met l y (.code y cc nL none :: GW) { frames := d, cells := mc, slots := ms, locals := 32 * d } (va_Pc av (PC D A cA X l1)) (QC D A X fin) mc ms A
def Cg (p : Program) (s : State) (m : MethodId) (args : Array Value) (meth : Method) (c : Code) (cc : ByteArray) (own : String) (nL : Nat) (A : Nat → Prop) (D : va_G) (cA : Nat → ClassId) : Prop :=
  p.tables.exec = Jvm.exec ∧ c.code = cc ∧ c.maxLocals = nL ∧ s.vm.findClass own = some m.cls ∧ (∀ w ∈ GW, w.before args s = true) ∧ va_K D vwCl (tysl cA) s ∧ (∀ q : Nat, s.heap.size ≤ q → A q) ∧ EN s ∧ meth.locks = false ∧ meth.name = "<init>" ∧ meth.sig.returnType = none
def G (p : Program) (l : Launch) (e : Env) (R : Room) (s : State) (m : MethodId) (args : Array Value) (below : List Frame) (meth : Method) (c : Code) (nL : Nat) (A : Nat → Prop) (D : va_G) (X : va_W) (Q : State → Prop) (cells slots pc : Nat) (L : List (Nat × Value)) (st : List Value) (l1 : va_W) : Prop :=
  ∀ (H : Heap) (locs : List Loc) (ls : Array Slot), va_P D vwCl (X ++ l1) H → va_D A (X ++ l1) → va_S A s.heap H locs → lv_has ls nL L → W p l e R s m args below meth c H locs cells slots Q (F0 m pc ls st)
theorem ap_get {X l1 : va_W} {i : Nat} {q : Nat × va_E} (h : l1[i]? = some q) : (X ++ l1)[X.length + i]? = some q := by
  rw [List.getElem?_append_right (by omega), show X.length + i - X.length = i by omega]; exact h
theorem ap_set (X l1 : va_W) (i : Nat) (q : Nat × va_E) : (X ++ l1).set (X.length + i) q = X ++ l1.set i q := by
  rw [List.set_append_right _ _ (by omega), show X.length + i - X.length = i by omega]
section GR
variable {p : Program} {l : Launch} {e : Env} {R : Room} {s : State} {m : MethodId} {args : Array Value} {below : List Frame} {meth : Method} {c : Code} {cc : ByteArray} {own : String} {nL : Nat} {A : Nat → Prop} {D : va_G} {cA : Nat → ClassId} {X : va_W} {Q : State → Prop} {cells slots pc : Nat} {L : List (Nat × Value)} {st : List Value} {l1 : va_W}
theorem g_iconst (C : Cg p s m args meth c cc own nL A D cA) {n : Int} {v : Int32} (hdg : decode cc pc = .ok (.iconst n, 1)) (hv : Int32.ofInt n = v) (k : G p l e R s m args below meth c nL A D X Q cells slots (pc + 1) L (.int v :: st) l1) : G p l e R s m args below meth c nL A D X Q cells slots pc L (st) l1 := fun H locs ls hP hD hS hL => lv_iconst C.1 C.2.1 hdg hv (k H locs ls hP hD hS hL)
theorem g_bipush (C : Cg p s m args meth c cc own nL A D cA) {n : Int} {v : Int32} (hdg : decode cc pc = .ok (.bipush n, 2)) (hv : (Int8.ofInt n).toInt32 = v) (k : G p l e R s m args below meth c nL A D X Q cells slots (pc + 2) L (.int v :: st) l1) : G p l e R s m args below meth c nL A D X Q cells slots pc L (st) l1 := fun H locs ls hP hD hS hL => lv_bipush C.1 C.2.1 hdg hv (k H locs ls hP hD hS hL)
theorem g_sipush (C : Cg p s m args meth c cc own nL A D cA) {n : Int} {v : Int32} (hdg : decode cc pc = .ok (.sipush n, 3)) (hv : (Int16.ofInt n).toInt32 = v) (k : G p l e R s m args below meth c nL A D X Q cells slots (pc + 3) L (.int v :: st) l1) : G p l e R s m args below meth c nL A D X Q cells slots pc L (st) l1 := fun H locs ls hP hD hS hL => lv_sipush C.1 C.2.1 hdg hv (k H locs ls hP hD hS hL)
theorem g_aload_n (C : Cg p s m args meth c cc own nL A D cA) (j : Nat) {n : Fin 4} {i : Nat} {v : Nat} (hdg : decode cc pc = .ok (.aload_n n, 1)) (hi : (n : Nat) = i) (hj : L[j]? = some (i, .ref v)) (k : G p l e R s m args below meth c nL A D X Q cells slots (pc + 1) L (.ref v :: st) l1) : G p l e R s m args below meth c nL A D X Q cells slots pc L (st) l1 := fun H locs ls hP hD hS hL => lv_aload_n C.1 C.2.1 hdg hi (lv_at hL j hj) (k H locs ls hP hD hS hL)
theorem g_dup (C : Cg p s m args meth c cc own nL A D cA) {v : Value} (hdg : decode cc pc = .ok (.dup, 1)) (hc : v.category = 1) (k : G p l e R s m args below meth c nL A D X Q cells slots (pc + 1) L (v :: v :: st) l1) : G p l e R s m args below meth c nL A D X Q cells slots pc L (v :: st) l1 := fun H locs ls hP hD hS hL => lv_dup C.1 C.2.1 hdg hc (k H locs ls hP hD hS hL)
theorem g_oinit (C : Cg p s m args meth c cc own nL A D cA) {idx a : Nat} (hl : Cond.methodLink own idx Lib.objectInit ∈ GW) (hi : Cond.instanceMethod Lib.objectInit ∈ GW) (hc : Cond.code Lib.objectInit ⟨#[0xb1]⟩ 1 none ∈ GW) (hdg : decode cc pc = .ok (.invokespecial idx, 3)) (hR1 : 1 ≤ R.frames) (hR2 : 20 ≤ R.locals) (hst : (st.map fun v => v.category).sum ≤ 8) (k : G p l e R s m args below meth c nL A D X Q cells slots (pc + 3) L st l1) : G p l e R s m args below meth c nL A D X Q cells slots pc L (.ref a :: st) l1 := fun H locs ls hP hD hS hL => W.objInit C.1 C.2.1 C.2.2.2.1 (C.2.2.2.2.1 _ hl) (C.2.2.2.2.1 _ hi) (C.2.2.2.2.1 _ hc) rfl (hL.1.trans C.2.2.1.symm) rfl hdg hR1 (by show 2 * 0 + _ + 12 ≤ _; omega) (k H locs ls hP hD hS hL)
theorem g_getR (C : Cg p s m args meth c cc own nL A D cA) (i : Nat) {a t index j : Nat} {v : Value} {fs : List Value} (he : l1[i]? = some (a, .inr (t, fs))) (hv : fs[j]? = some v) (hf : FL own index t j) (hdg : decode cc pc = .ok (.getfield index, 3)) (k : G p l e R s m args below meth c nL A D X Q cells slots (pc + 3) L (v :: st) l1) : G p l e R s m args below meth c nL A D X Q cells slots pc L (.ref a :: st) l1 := by
  obtain ⟨Cn, Tb, N, ty, h1, h2, h3, h4, h5, h6, h7⟩ := hf
  intro H locs ls hP hD hS hL
  exact va_get (D := D) (ci := t) (v := v) (C := Cn) (T := Tb) (N := N) C.1 C.2.1 C.2.2.2.2.1 h3 C.2.2.2.1 C.2.2.2.2.2.1 hP (X.length + i) (ap_get he) h1 j h2 (C.2.2.2.2.1 _ h7) (fun _ h9 => by rw [h6] at h9; exact h9) hv hdg (k H locs ls hP hD hS hL)
def FLf (own : String) (t j : Nat) (ty : FieldType) : Prop := ∃ (Cn : String) (Tb : u_T) (N : Nat), vwCl[t]? = some (Cn, Tb, N) ∧ (Tb j).2.2.2 = true ∧ (Tb j).1 = own ∧ parseFieldDescriptor (Tb j).2.2.1 = some ty
theorem g_putF (C : Cg p s m args meth c cc own nL A D cA) (i : Nat) {a t index j : Nat} {v : Value} {ty : FieldType} {fs : List Value} {l2 : va_W} (he : l1[i]? = some (a, .inr (t, fs))) (hf : FL own index t j) (hw : FLf own t j ty) (hn : narrow ty v = v) (hfit : fits ty v = true) (hlt : j < fs.length) (hl2 : l1.set i (a, .inr (t, fs.set j v)) = l2) (hdg : decode cc pc = .ok (.putfield index, 3)) (k : G p l e R s m args below meth c nL A D X Q cells slots (pc + 3) L st l2) : G p l e R s m args below meth c nL A D X Q cells slots pc L (v :: .ref a :: st) l1 := by
  obtain ⟨Cn, Tb, N, ty0, h1, h2, h3, h4, h5, h6, h7⟩ := hf
  obtain ⟨Cn', Tb', N', g1, g2, g4, g3⟩ := hw
  have e := Option.some.inj (g1.symm.trans h1)
  cases e
  intro H locs ls hP hD hS hL
  refine va_putF (D := D) (ci := t) (v := v) (ty := ty) (C := Cn) (T := Tb) (N := N) C.1 C.2.1 C.2.2.2.2.1 h3 ty0 h4 h5 C.2.2.2.1 C.2.2.2.2.2.1 hP hD hS (X.length + i) (ap_get he) h1 j h2 (C.2.2.2.2.1 _ h7) (fun _ h9 => by rw [h6] at h9; exact h9) g2 C.2.2.2.2.2.2.2.2.2.1 g4 g3 hn hfit hlt hdg (fun H1 locs1 hP1 hD1 hS1 => k H1 locs1 ls ?_ ?_ hS1 hL)
  · rw [ap_set, hl2] at hP1; exact hP1
  · rw [ap_set, hl2] at hD1; exact hD1
theorem g_put (C : Cg p s m args meth c cc own nL A D cA) (i : Nat) {a t index j : Nat} {v : Value} {ty : FieldType} {fs : List Value} {l2 : va_W} (he : l1[i]? = some (a, .inr (t, fs))) (hf : FL own index t j) (hw : FLw t j ty) (hn : narrow ty v = v) (hfit : fits ty v = true) (hlt : j < fs.length) (hl2 : l1.set i (a, .inr (t, fs.set j v)) = l2) (hdg : decode cc pc = .ok (.putfield index, 3)) (k : G p l e R s m args below meth c nL A D X Q cells slots (pc + 3) L st l2) : G p l e R s m args below meth c nL A D X Q cells slots pc L (v :: .ref a :: st) l1 := by
  obtain ⟨Cn, Tb, N, ty0, h1, h2, h3, h4, h5, h6, h7⟩ := hf
  obtain ⟨Cn', Tb', N', g1, g2, g3⟩ := hw
  have e := Option.some.inj (g1.symm.trans h1)
  cases e
  intro H locs ls hP hD hS hL
  refine va_put (D := D) (ci := t) (v := v) (ty := ty) (C := Cn) (T := Tb) (N := N) C.1 C.2.1 C.2.2.2.2.1 h3 ty0 h4 h5 C.2.2.2.1 C.2.2.2.2.2.1 hP hD hS (X.length + i) (ap_get he) h1 j h2 (C.2.2.2.2.1 _ h7) (fun _ h9 => by rw [h6] at h9; exact h9) g2 g3 hn hfit hlt hdg (fun H1 locs1 hP1 hD1 hS1 => k H1 locs1 ls ?_ ?_ hS1 hL)
  · rw [ap_set, hl2] at hP1; exact hP1
  · rw [ap_set, hl2] at hD1; exact hD1
theorem g_iast (C : Cg p s m args meth c cc own nL A D cA) (i : Nat) {a n : Nat} {f f2 : Nat → Int32} {j v : Int32} {l2 : va_W} (he : l1[i]? = some (a, .inl (cA 0, n, .inl f))) (hin : inr j n) (hf2 : upd f j.toNatClampNeg v = f2) (hl2 : l1.set i (a, .inl (cA 0, n, .inl f2)) = l2) (hdg : decode cc pc = .ok (.iastore, 1)) (k : G p l e R s m args below meth c nL A D X Q cells slots (pc + 1) L st l2) : G p l e R s m args below meth c nL A D X Q cells slots pc L (.int v :: .int j :: .ref a :: st) l1 := by
  intro H locs ls hP hD hS hL
  refine va_iast C.1 C.2.1 C.2.2.2.2.2.1 hP hD hS (X.length + i) 0 (ap_get he) rfl hin hdg (fun H1 locs1 hP1 hD1 hS1 => k H1 locs1 ls ?_ ?_ hS1 hL)
  · rw [ap_set, hf2, hl2] at hP1; exact hP1
  · rw [ap_set, hf2, hl2] at hD1; exact hD1
theorem g_newa (C : Cg p s m args meth c cc own nL A D cA) {atype : ArrayType} {ty : FieldType} (t : Nat) (hw : Cond.arrayClass (newarray.typeOf atype) ∈ GW) (hty : newarray.typeOf atype = ty) (ht : (tysl cA)[t]? = some (cA t, ty)) (hra : ∀ c0 : ClassId, va_RA s c0 ty → s.vm.findClass ("[" ++ ty.toString) = some c0) {n : Int32} {N : Nat} (ha : ∀ c0 : ClassId, vp_cell c0 (N, .inl (fun _ => 0)) = arrV c0 N (fun _ => defaultValue ty)) (hn : ¬ n < 0) (hN : n.toNatClampNeg = N) (hb : N * componentBytes ty ≤ 536870912) {c2 s2 : Nat} (hc2 : cells + 1 = c2) (hs2 : slots + N = s2) (hcR : c2 ≤ R.cells) (hsR : s2 ≤ R.slots) (l2 : Nat → va_W) (hl2 : ∀ q, l1 ++ [(q, .inl (cA t, N, .inl (fun _ => 0)))] = l2 q) (hdg : decode cc pc = .ok (.newarray atype, 2)) (k : ∀ q, G p l e R s m args below meth c nL A D X Q c2 s2 (pc + 2) L (.ref q :: st) (l2 q)) : G p l e R s m args below meth c nL A D X Q cells slots pc L (.int n :: st) l1 := by
  intro H locs ls hP hD hS hL
  subst hc2; subst hs2
  refine va_newa C.1 C.2.1 (C.2.2.2.2.1 _ hw) hty C.2.2.2.2.2.1 hP hD hS C.2.2.2.2.2.2.1 ha hn hN hb hcR hsR hdg (fun q c0 H1 hK1 hP1 hD1 hS1 => ?_)
  have e1 := hra c0 (hK1.2 5 (c0, ty) rfl).2
  have e2 := hra (cA t) (C.2.2.2.2.2.1.2 t _ ht).2
  have e3 : c0 = cA t := Option.some.inj (e1.symm.trans e2)
  subst e3
  refine k q H1 locs ls ?_ ?_ hS1 hL
  · rw [List.append_assoc, hl2] at hP1; exact hP1
  · rw [List.append_assoc, hl2] at hD1; exact hD1
theorem g_newi (C : Cg p s m args meth c cc own nL A D cA) (hw : Cond.arrayClass .int ∈ GW) {n : Int32} {N : Nat} (hn : ¬ n < 0) (hN : n.toNatClampNeg = N) (hb : N * 4 ≤ 536870912) {c2 s2 : Nat} (hc2 : cells + 1 = c2) (hs2 : slots + N = s2) (hcR : c2 ≤ R.cells) (hsR : s2 ≤ R.slots) (l2 : Nat → va_W) (hl2 : ∀ q, l1 ++ [(q, .inl (cA 0, N, .inl (fun _ => 0)))] = l2 q) (hdg : decode cc pc = .ok (.newarray .int, 2)) (k : ∀ q, G p l e R s m args below meth c nL A D X Q c2 s2 (pc + 2) L (.ref q :: st) (l2 q)) : G p l e R s m args below meth c nL A D X Q cells slots pc L (.int n :: st) l1 := g_newa (atype := .int) (ty := .int) C 0 hw rfl rfl (fun _ h => h) (fun _ => rfl) hn hN hb hc2 hs2 hcR hsR l2 hl2 hdg k
theorem g_newb (C : Cg p s m args meth c cc own nL A D cA) (hw : Cond.arrayClass .byte ∈ GW) {n : Int32} {N : Nat} (hn : ¬ n < 0) (hN : n.toNatClampNeg = N) (hb : N * 1 ≤ 536870912) {c2 s2 : Nat} (hc2 : cells + 1 = c2) (hs2 : slots + N = s2) (hcR : c2 ≤ R.cells) (hsR : s2 ≤ R.slots) (l2 : Nat → va_W) (hl2 : ∀ q, l1 ++ [(q, .inl (cA 1, N, .inl (fun _ => 0)))] = l2 q) (hdg : decode cc pc = .ok (.newarray .byte, 2)) (k : ∀ q, G p l e R s m args below meth c nL A D X Q c2 s2 (pc + 2) L (.ref q :: st) (l2 q)) : G p l e R s m args below meth c nL A D X Q cells slots pc L (.int n :: st) l1 := g_newa (atype := .byte) (ty := .byte) C 1 hw rfl rfl (fun _ h => h) (fun _ => rfl) hn hN hb hc2 hs2 hcR hsR l2 hl2 hdg k
theorem g_newz (C : Cg p s m args meth c cc own nL A D cA) (hw : Cond.arrayClass .boolean ∈ GW) {n : Int32} {N : Nat} (hn : ¬ n < 0) (hN : n.toNatClampNeg = N) (hb : N * 1 ≤ 536870912) {c2 s2 : Nat} (hc2 : cells + 1 = c2) (hs2 : slots + N = s2) (hcR : c2 ≤ R.cells) (hsR : s2 ≤ R.slots) (l2 : Nat → va_W) (hl2 : ∀ q, l1 ++ [(q, .inl (cA 2, N, .inl (fun _ => 0)))] = l2 q) (hdg : decode cc pc = .ok (.newarray .boolean, 2)) (k : ∀ q, G p l e R s m args below meth c nL A D X Q c2 s2 (pc + 2) L (.ref q :: st) (l2 q)) : G p l e R s m args below meth c nL A D X Q cells slots pc L (.int n :: st) l1 := g_newa (atype := .boolean) (ty := .boolean) C 2 hw rfl rfl (fun _ h => h) (fun _ => rfl) hn hN hb hc2 hs2 hcR hsR l2 hl2 hdg k
theorem g_newq (C : Cg p s m args meth c cc own nL A D cA) {index N : Nat} {n : Int32} (hcl : Cond.classLink own index "BasketRound$Shop" ∈ GW) (hn : ¬ n < 0) (hN : n.toNatClampNeg = N) (hb : N * 4 ≤ 536870912) {c2 s2 : Nat} (hc2 : cells + 1 = c2) (hs2 : slots + N = s2) (hcR : c2 ≤ R.cells) (hsR : s2 ≤ R.slots) (l2 : Nat → va_W) (hl2 : ∀ q, l1 ++ [(q, .inl (cA 3, N, .inr (.inr (.inr (.inr (fun _ => none))))))] = l2 q) (hdg : decode cc pc = .ok (.anewarray index, 3)) (k : ∀ q, G p l e R s m args below meth c nL A D X Q c2 s2 (pc + 3) L (.ref q :: st) (l2 q)) : G p l e R s m args below meth c nL A D X Q cells slots pc L (.int n :: st) l1 := by
  intro H locs ls hP hD hS hL
  subst hc2; subst hs2
  refine va_newq C.1 C.2.1 C.2.2.2.1 (C.2.2.2.2.1 _ hcl) C.2.2.2.2.2.2.2.1.1 C.2.2.2.2.2.1 hP hD hS C.2.2.2.2.2.2.1 hn hN hb hcR hsR hdg (fun q c0 H1 hK1 hP1 hD1 hS1 => ?_)
  obtain ⟨-, -, -, -, -, e1⟩ := (hK1.2 5 (c0, .object "BasketRound$Shop") rfl).2
  obtain ⟨-, -, -, -, -, e2⟩ := (C.2.2.2.2.2.1.2 3 _ rfl).2
  have e3 : c0 = cA 3 := Option.some.inj (e1.symm.trans e2)
  subst e3
  refine k q H1 locs ls ?_ ?_ hS1 hL
  · rw [List.append_assoc, hl2] at hP1; exact hP1
  · rw [List.append_assoc, hl2] at hD1; exact hD1
theorem g_astq (C : Cg p s m args meth c cc own nL A D cA) (i iv : Nat) {a n v t : Nat} {r : vw_C} {vs : List Value} {f f2 : Nat → Option Nat} {j : Int32} {l2 : va_W} (he : l1[i]? = some (a, .inl (cA 3, n, .inr (.inr (.inr (.inr f)))))) (hv : l1[iv]? = some (v, .inr (t, vs))) (hc : vwCl[t]? = some r) (hr : r.1 = "BasketRound$Shop") (hin : inr j n) (hf2 : va_up f j.toNatClampNeg (some v) = f2) (hl2 : l1.set i (a, .inl (cA 3, n, .inr (.inr (.inr (.inr f2))))) = l2) (hdg : decode cc pc = .ok (.aastore, 1)) (k : G p l e R s m args below meth c nL A D X Q cells slots (pc + 1) L st l2) : G p l e R s m args below meth c nL A D X Q cells slots pc L (.ref v :: .int j :: .ref a :: st) l1 := by
  intro H locs ls hP hD hS hL
  refine va_astq C.1 C.2.1 C.2.2.2.2.2.1 hP hD hS (X.length + i) 3 (X.length + iv) t (ap_get he) (by rw [hr]; rfl) (ap_get hv) hc hin hdg (fun H1 locs1 hP1 hD1 hS1 => k H1 locs1 ls ?_ ?_ hS1 hL)
  · rw [ap_set, hf2, hl2] at hP1; exact hP1
  · rw [ap_set, hf2, hl2] at hD1; exact hD1
theorem g_new (C : Cg p s m args meth c cc own nL A D cA) {Cn : String} {Tb : u_T} {N t index : Nat} {ty : Nat → FieldType} {fs : List Value} (hin : ∀ w ∈ u_ws Cn Tb N, w ∈ GW) (hty : ∀ k, k < N → parseFieldDescriptor (Tb k).2.2.1 = some (ty k)) (hcl : Cond.classLink own index Cn ∈ GW) (hinst : Cond.instantiable Cn N ∈ GW) (hini : Cond.initialized Cn ∈ GW) (hc : vwCl[t]? = some (Cn, Tb, N)) (hfs : ∀ j, j < N → defaultValue (ty j) = vp_V fs j) {c2 s2 : Nat} (hc2 : cells + 1 = c2) (hs2 : slots + N = s2) (hcR : c2 ≤ R.cells) (hsR : s2 ≤ R.slots) (l2 : Nat → va_W) (hl2 : ∀ q, l1 ++ [(q, .inr (t, fs))] = l2 q) (hdg : decode cc pc = .ok (.new index, 3)) (k : ∀ q, G p l e R s m args below meth c nL A D X Q c2 s2 (pc + 3) L (.ref q :: st) (l2 q)) : G p l e R s m args below meth c nL A D X Q cells slots pc L st l1 := by
  intro H locs ls hP hD hS hL
  subst hc2; subst hs2
  refine va_new (ci := t) (fs := fs) (C := Cn) (T := Tb) (N := N) C.1 C.2.1 C.2.2.2.2.1 hin ty hty C.2.2.2.1 (C.2.2.2.2.1 _ hcl) (C.2.2.2.2.1 _ hinst) (C.2.2.2.2.1 _ hini) C.2.2.2.2.2.1 hP hD hS C.2.2.2.2.2.2.1 hc hfs hcR hsR hdg (fun q H1 hP1 hD1 hS1 => ?_)
  refine k q H1 locs ls ?_ ?_ hS1 hL
  · rw [List.append_assoc, hl2] at hP1; exact hP1
  · rw [List.append_assoc, hl2] at hD1; exact hD1
theorem g_vret (C : Cg p s m args meth c cc own nL A D cA) {fin : va_W → Prop} (hf : fin l1) (hdg : decode cc pc = .ok (.return_, 1)) : G p l e R s m args below meth c nL A D X (MQ below (QC D A X fin) args s cells slots A) cells slots pc L [] l1 := by
  intro H locs ls hP hD hS hL
  have hlocks : meth.locks = false := C.2.2.2.2.2.2.2.2.1
  exact W.vret C.1 C.2.1 C.2.2.2.2.2.2.2.2.2.2 (fun t ht hW => ⟨rfl, ⟨l1, hf, by rw [ht]; exact hP, hD⟩, hS.F ht⟩) hS.2.2 hdg hlocks
theorem g_run {mc ms : Nat} {fin : va_W → Prop} {a : Array Value} {st0 : List Value} {l0 : va_W}
    (hr : ∀ (H : Heap) (locs : List Loc) (ls : Array Slot), ls.size = nL → va_P D vwCl (X ++ l0) H → va_D A (X ++ l0) → va_S A s.heap H locs → va_Run p l e R s m args below meth c H locs cells slots mc ms (F0 m pc ls st0) st (QC D A (X ++ l1) fin a) A)
    {c2 s2 : Nat} (hc2 : cells + mc = c2) (hs2 : slots + ms = s2) (kk : ∀ lf, fin lf → G p l e R s m args below meth c nL A D X Q c2 s2 (pc + 3) L st (l1 ++ lf)) : G p l e R s m args below meth c nL A D X Q cells slots pc L st0 l0 := by
  intro H locs ls hP hD hS hL T0 hT Xs
  subst hc2; subst hs2
  obtain ⟨v, st₀, t, T', Ls, h0, X', hLs, e1, e2, ⟨hv, ⟨lf, hlf, hP1, hD1⟩, hz, hk⟩, stp⟩ := hr H locs ls hL.1 hP hD hS T0 hT Xs
  cases hv
  rw [h0] at hz hk
  rw [List.append_assoc] at hP1 hD1
  obtain ⟨t2, a1, b1⟩ := kk lf hlf T'.heap (locs ++ Ls) ls (by rw [e1]; exact hP1) hD1
    ⟨Nat.le_trans hS.1 (by rw [e1]; exact hz), fun q h1 h2 => by rw [e1, hk q (Nat.lt_of_lt_of_le h1 hS.1) h2]; exact hS.2.1 q h1 h2, fun q hq => by
      rcases List.mem_append.mp hq with h | h
      · exact hS.2.2 q h
      · exact hLs q h⟩ hL T' rfl X'
  exact ⟨t2, stp t2 a1, b1⟩
theorem pc_blind {av : List Value} {l0 : va_W} : FrameBlind (va_Pc av (PC D A cA X l0)) := by
  intro a U g mk q
  obtain ⟨q0, q1, qP, qD, qK, qE⟩ := q
  exact ⟨q0, q1, qP, qD, va_K.moved (u := U) (U := U.calling g mk a) (Vm.Alike.refl U.vm) qK, EN1 (U := U.calling g mk a) qE rfl⟩
theorem pc_pre {av : List Value} (C : Cg p s m args meth c cc own nL A D cA) {l0 : va_W} {H : Heap} {locs : List Loc} (hP : va_P D vwCl (X ++ l0) H) (hD : va_D A (X ++ l0)) (hS : va_S A s.heap H locs) : ∀ U : State, U.heap = H → s.WarmedH U.vm → va_Pc av (PC D A cA X l0) av.toArray U := by
  intro U hU hW
  exact ⟨rfl, fun q hq => C.2.2.2.2.2.2.1 q (Nat.le_trans hS.1 (by rw [hU] at hq; exact hq)), by rw [hU]; exact hP, hD, va_K.moved hW.alike C.2.2.2.2.2.1, EN2 C.2.2.2.2.2.2.2.1 hW⟩
theorem pc_app {av : List Value} {l2 : va_W} {U : State} {a : Array Value} (h : va_Pc av (PC D A cA X (l1 ++ l2)) a U) : va_Pc av (PC D A cA (X ++ l1) l2) a U := by
  obtain ⟨h0, h1, h2, h3, h4, h5⟩ := h
  exact ⟨h0, h1, by rw [List.append_assoc]; exact h2, by rw [List.append_assoc]; exact h3, h4, h5⟩
def MIi (y : MethodName) (bytes : ByteArray) (maxL n : Nat) : Prop := Cond.code y bytes maxL none ∈ GW ∧ Cond.initialized y.cls ∈ GW ∧ (y.cls ≠ "java/lang/invoke/MethodHandle" ∧ y.cls ≠ "java/lang/invoke/VarHandle" ∧ (parseMethodDescriptor y.desc).map (fun d => d.parameters.length) = some n) ∧ maxL ≤ 13 ∧ y.name = "<init>" ∧ Cond.instanceMethod y ∈ GW
theorem g_callI (C : Cg p s m args meth c cc own nL A D cA) {y : MethodName} {bytes : ByteArray} {maxL n index d mc ms b : Nat} {As : List Value} {fin : va_W → Prop} {l0 le : va_W} (hct : KC l A D cA y bytes maxL d mc ms (X ++ l1) (.ref b :: As) le fin) (hl0 : l1 ++ le = l0) (hm : MIi y bytes maxL n) (hl : Cond.methodLink own index y ∈ GW) (hn : As.length = n) (hR1 : d + 1 ≤ R.frames) (hR2 : 32 * (d + 1) ≤ R.locals) (hst : (st.map fun v => v.category).sum ≤ 8) {c2 s2 : Nat} (hc2 : cells + mc = c2) (hs2 : slots + ms = s2) (hcR : c2 ≤ R.cells) (hsR : s2 ≤ R.slots) (hdg : decode cc pc = .ok (.invokespecial index, 3)) (kk : ∀ lf, fin lf → G p l e R s m args below meth c nL A D X Q c2 s2 (pc + 3) L st (l1 ++ lf)) : G p l e R s m args below meth c nL A D X Q cells slots pc L (As.reverse ++ .ref b :: st) l0 := by
  subst hl0
  refine g_run (fun H locs ls hz hP hD hS => va_runI (As := As) (rest := st) ⟨C.1, C.2.1, C.2.2.1, C.2.2.2.1, C.2.2.2.2.1⟩ hct (cwI n C.2.2.2.2.1 (gw_cons hm.1) rfl rfl rfl (C.2.2.2.2.1 _ hm.2.1) (C.2.2.2.2.1 _ hl) (C.2.2.2.2.1 _ hm.2.2.2.2.2) hm.2.2.2.2.1 hm.2.2.1 ⟨hR1, by have := hm.2.2.2.1; show 8 + (maxL + 11) + 32 * d ≤ R.locals; omega⟩) ⟨pc_blind, fun U hU hW => pc_app (pc_pre C hP hD hS U hU hW)⟩ rfl hn hz rfl (lv_room hst) hdg ⟨by omega, by omega⟩) hc2 hs2 kk
theorem g_callIN (C : Cg p s m args meth c cc own nL A D cA) {host : String} {y : MethodName} {bytes : ByteArray} {maxL n index d mc ms b : Nat} {As : List Value} {fin : va_W → Prop} {l0 le : va_W} (hct : KC l A D cA y bytes maxL d mc ms (X ++ l1) (.ref b :: As) le fin) (hl0 : l1 ++ le = l0) (hm : MIi y bytes maxL n) (hl : va_Nw (.methodLinkNest own index y host) s) (hn : As.length = n) (hR1 : d + 1 ≤ R.frames) (hR2 : 32 * (d + 1) ≤ R.locals) (hst : (st.map fun v => v.category).sum ≤ 8) {c2 s2 : Nat} (hc2 : cells + mc = c2) (hs2 : slots + ms = s2) (hcR : c2 ≤ R.cells) (hsR : s2 ≤ R.slots) (hdg : decode cc pc = .ok (.invokespecial index, 3)) (kk : ∀ lf, fin lf → G p l e R s m args below meth c nL A D X Q c2 s2 (pc + 3) L st (l1 ++ lf)) : G p l e R s m args below meth c nL A D X Q cells slots pc L (As.reverse ++ .ref b :: st) l0 := by
  subst hl0
  refine g_run (fun H locs ls hz hP hD hS => va_runIN (As := As) (rest := st) ⟨C.1, C.2.1, C.2.2.1, C.2.2.2.1, C.2.2.2.2.1⟩ hct ⟨va_cnB n C.2.2.2.2.1 (gw_cons hm.1) rfl rfl rfl hl (C.2.2.2.2.1 _ hm.2.1) hm.2.2.1 ⟨hR1, by have := hm.2.2.2.1; show 8 + (maxL + 11) + 32 * d ≤ R.locals; omega⟩, hm.2.2.2.2.1, C.2.2.2.2.1 _ hm.2.2.2.2.2⟩ ⟨pc_blind, fun U hU hW => pc_app (pc_pre C hP hD hS U hU hW)⟩ rfl hn hz rfl (lv_room hst) hdg ⟨by omega, by omega⟩) hc2 hs2 kk
theorem kc_of {y : MethodName} {d mc ms : Nat} {av : List Value} {fin : va_W → Prop} (hy : plainName y.cls = true) (hyn : y.name = "<init>") (hle : (lg_sl av).length ≤ nL) (hL : lv_args 0 av = L)
    (h : ∀ (p : Program) (e : Env) (s : State) (m : MethodId) (args : Array Value) (below : List Frame) (meth : Method) (c : Code), Cg p s m args meth c cc y.cls nL A D cA → G p l e { frames := d, cells := mc, slots := ms, locals := 32 * d } s m args below meth c nL A D X (MQ below (QC D A X fin) args s mc ms A) 0 0 0 L [] l1) : KC l A D cA y cc nL d mc ms X av l1 fin := by
  refine Met.ofW (cc := cc) (maxL := nL) (ret := none) hy rfl ?_
  intro p e s m args below meth c s₁ B hml hv
  obtain ⟨rfl, hA, hP, hD, hK, hE⟩ := hv
  have hts := atoms_spec (ws := .code y cc nL none :: GW) B.pre
  have hown : s.vm.findClass y.cls = some m.cls := findClass_of_methodNamed B.named
  have hin : meth.name = y.name := (name_of_methodNamed B.named B.method).1
  have hl := lv_entry av (n := nL) hle
  rw [lg_entry_eq]
  rw [hL] at hl
  exact h p e s m _ below meth c ⟨B.exec, B.bytes, hml, hown, fun w hw => hts w (List.mem_cons_of_mem _ hw), hK, hA, hE, B.notSynchronized, hin.trans hyn, B.returns⟩ s.heap [] _ hP hD va_S.rf hl
theorem g_mna (C : Cg p s m args meth c cc own nL A D cA) {index : Nat} (hcl : Cond.classLink own index "[[I" ∈ GW) (hw : Cond.arrayClass .int ∈ GW) {c2 s2 : Nat} (hc2 : cells + 5 = c2) (hs2 : slots + 164 = s2) (hcR : c2 ≤ R.cells) (hsR : s2 ≤ R.slots) (l2 : Nat → Nat → Nat → Nat → Nat → va_W) (hl2 : ∀ q r0 r1 r2 r3, l1 ++ [(q, .inl (cA 4, 4, .inr (.inr (.inr (.inr (fun i => if i < 4 then some (if i = 0 then r0 else if i = 1 then r1 else if i = 2 then r2 else r3) else none)))))), (r0, .inl (cA 0, 40, .inl (fun _ => 0))), (r1, .inl (cA 0, 40, .inl (fun _ => 0))), (r2, .inl (cA 0, 40, .inl (fun _ => 0))), (r3, .inl (cA 0, 40, .inl (fun _ => 0)))] = l2 q r0 r1 r2 r3) (hdg : decode cc pc = .ok (.multianewarray index 2, 4)) (k : ∀ q r0 r1 r2 r3, G p l e R s m args below meth c nL A D X Q c2 s2 (pc + 4) L (.ref q :: st) (l2 q r0 r1 r2 r3)) : G p l e R s m args below meth c nL A D X Q cells slots pc L (.int 40 :: .int 4 :: st) l1 := by
  intro H locs ls hP hD hS hL
  subst hc2; subst hs2
  have h0 : (X ++ l1) ++ va_pl [] (fun _ => .inr (0, [])) = X ++ l1 := by simp [va_pl]
  refine va_mna (X := X ++ l1) (L := []) (f := fun _ => .inr (0, [])) (ty := .int) (cy := cA 0) (z := (40, .inl (fun _ => 0))) (N' := 4) (K' := 40) C.1 C.2.1 C.2.2.2.1 (C.2.2.2.2.1 _ hcl) C.2.2.2.2.2.2.2.1.2.1 (C.2.2.2.2.1 _ hw) (C.2.2.2.2.2.1.2 0 _ rfl).2 C.2.2.2.2.2.1 (by rw [h0]; exact hP) (by rw [h0]; exact hD) hS C.2.2.2.2.2.2.1 (by decide) (by decide) (by decide) (by decide) (by decide) (by decide) (by decide) (by decide) (by decide) hcR hsR (fun _ => rfl) hdg (fun q r c0 H1 hri hrL hK1 hP1 hD1 hS1 => ?_)
  have e1 : s.vm.findClass ("[" ++ (FieldType.array .int).toString) = some c0 := (hK1.2 5 (c0, .array .int) rfl).2
  have e2 : s.vm.findClass ("[" ++ (FieldType.array .int).toString) = some (cA 4) := (C.2.2.2.2.2.1.2 4 _ rfl).2
  have e3 : c0 = cA 4 := Option.some.inj (e1.symm.trans e2)
  subst e3
  have hf : (fun i => if i < 4 then some (r i) else none) = (fun i => if i < 4 then some (if i = 0 then r 0 else if i = 1 then r 1 else if i = 2 then r 2 else r 3) else none) := by
    funext i
    match i with
    | 0 => rfl
    | 1 => rfl
    | 2 => rfl
    | 3 => rfl
    | i + 4 => rw [if_neg (by omega), if_neg (by omega)]
  have hlist : ((X ++ l1) ++ [(q, .inl (cA 4, 4, .inr (.inr (.inr (.inr (fun i => if i < 4 then some (r i) else none))))))]) ++ va_pl ([] ++ (List.range 4).map r) (vr_up (fun _ => .inr (0, [])) ((List.range 4).map r) (.inl (cA 0, (40, .inl (fun _ => 0))))) = X ++ l2 q (r 0) (r 1) (r 2) (r 3) := by
    rw [← hl2, ← hf]
    have hr4 : (List.range 4).map r = [r 0, r 1, r 2, r 3] := rfl
    rw [hr4]
    simp [va_pl, vr_up]
  rw [hlist] at hP1 hD1
  exact k q (r 0) (r 1) (r 2) (r 3) H1 locs ls hP1 hD1 hS1 hL
end GR
theorem ac_byte : Cond.arrayClass .byte ∈ GW := gw_of 104 (by decide +kernel) (by decide +kernel)
theorem ac_int : Cond.arrayClass .int ∈ GW := gw_of 155 (by decide +kernel) (by decide +kernel)
theorem ac_boolean : Cond.arrayClass .boolean ∈ GW := gw_of 339 (by decide +kernel) (by decide +kernel)
theorem cl_RX7_7 : Cond.classLink RX7 7 RX5 ∈ GW := gw_of 88 (by decide +kernel) (by decide +kernel)
theorem cl_RX7_16 : Cond.classLink RX7 16 RX4 ∈ GW := gw_of 105 (by decide +kernel) (by decide +kernel)
theorem cl_RX7_23 : Cond.classLink RX7 23 RX1 ∈ GW := gw_of 156 (by decide +kernel) (by decide +kernel)
theorem cl_RX1_9 : Cond.classLink RX1 9 RX4 ∈ GW := gw_of 162 (by decide +kernel) (by decide +kernel)
theorem cl_RX7_32 : Cond.classLink RX7 32 RX6 ∈ GW := gw_of 205 (by decide +kernel) (by decide +kernel)
theorem cl_RX7_41 : Cond.classLink RX7 41 RX0 ∈ GW := gw_of 275 (by decide +kernel) (by decide +kernel)
theorem cl_RX7_48 : Cond.classLink RX7 48 RX2 ∈ GW := gw_of 301 (by decide +kernel) (by decide +kernel)
theorem cl_RX7_63 : Cond.classLink RX7 63 RX3 ∈ GW := gw_of 319 (by decide +kernel) (by decide +kernel)
theorem cl_RX3_9 : Cond.classLink RX3 9 "[[I" ∈ GW := gw_of 325 (by decide +kernel) (by decide +kernel)
theorem ia_RX7 : Cond.instantiable RX7 11 ∈ GW := gw_of 81 (by decide +kernel) (by decide +kernel)
theorem ia_RX5 : Cond.instantiable RX5 2 ∈ GW := gw_of 89 (by decide +kernel) (by decide +kernel)
theorem ia_RX4 : Cond.instantiable RX4 8 ∈ GW := gw_of 106 (by decide +kernel) (by decide +kernel)
theorem ia_RX1 : Cond.instantiable RX1 12 ∈ GW := gw_of 157 (by decide +kernel) (by decide +kernel)
theorem ia_RX6 : Cond.instantiable RX6 17 ∈ GW := gw_of 206 (by decide +kernel) (by decide +kernel)
theorem ia_RX0 : Cond.instantiable RX0 5 ∈ GW := gw_of 276 (by decide +kernel) (by decide +kernel)
theorem ia_RX2 : Cond.instantiable RX2 3 ∈ GW := gw_of 302 (by decide +kernel) (by decide +kernel)
theorem ia_RX3 : Cond.instantiable RX3 3 ∈ GW := gw_of 320 (by decide +kernel) (by decide +kernel)
theorem ia_RX8 : Cond.instantiable RX8 45 ∈ GW := gw_of 892 (by decide +kernel) (by decide +kernel)
theorem oi_in : Cond.instanceMethod Lib.objectInit ∈ GW := gw_of 86 (by decide +kernel) (by decide +kernel)
theorem oi_cd : Cond.code Lib.objectInit ⟨#[0xb1]⟩ 1 none ∈ GW := gw_of 87 (by decide +kernel) (by decide +kernel)
theorem cd_X5_init : Cond.code yX5_init cX5_init 1 none ∈ GW := gw_of 92 (by decide +kernel) (by decide +kernel)
theorem mv_X5_init : Cond.instanceMethod yX5_init ∈ GW := gw_of 91 (by decide +kernel) (by decide +kernel)
theorem ini_X5_init_i : Cond.initialized yX5_init.cls ∈ GW := gw_of 64 (by decide +kernel) (by decide +kernel)
theorem mi_X5_init : MIi yX5_init cX5_init 1 0 := ⟨cd_X5_init, ini_X5_init_i, by decide +kernel, by decide, rfl, mv_X5_init⟩
theorem cd_X4_init : Cond.code yX4_init cX4_init 1 none ∈ GW := gw_of 109 (by decide +kernel) (by decide +kernel)
theorem mv_X4_init : Cond.instanceMethod yX4_init ∈ GW := gw_of 108 (by decide +kernel) (by decide +kernel)
theorem ini_X4_init_i : Cond.initialized yX4_init.cls ∈ GW := gw_of 65 (by decide +kernel) (by decide +kernel)
theorem mi_X4_init : MIi yX4_init cX4_init 1 0 := ⟨cd_X4_init, ini_X4_init_i, by decide +kernel, by decide, rfl, mv_X4_init⟩
theorem cd_X1_init : Cond.code yX1_init cX1_init 2 none ∈ GW := gw_of 160 (by decide +kernel) (by decide +kernel)
theorem mv_X1_init : Cond.instanceMethod yX1_init ∈ GW := gw_of 159 (by decide +kernel) (by decide +kernel)
theorem ini_X1_init_i : Cond.initialized yX1_init.cls ∈ GW := gw_of 66 (by decide +kernel) (by decide +kernel)
theorem mi_X1_init : MIi yX1_init cX1_init 2 1 := ⟨cd_X1_init, ini_X1_init_i, by decide +kernel, by decide, rfl, mv_X1_init⟩
theorem cd_X6_init : Cond.code yX6_init cX6_init 2 none ∈ GW := gw_of 209 (by decide +kernel) (by decide +kernel)
theorem mv_X6_init : Cond.instanceMethod yX6_init ∈ GW := gw_of 208 (by decide +kernel) (by decide +kernel)
theorem ini_X6_init_i : Cond.initialized yX6_init.cls ∈ GW := gw_of 67 (by decide +kernel) (by decide +kernel)
theorem mi_X6_init : MIi yX6_init cX6_init 2 1 := ⟨cd_X6_init, ini_X6_init_i, by decide +kernel, by decide, rfl, mv_X6_init⟩
theorem cd_X0_init : Cond.code yX0_init cX0_init 1 none ∈ GW := gw_of 279 (by decide +kernel) (by decide +kernel)
theorem mv_X0_init : Cond.instanceMethod yX0_init ∈ GW := gw_of 278 (by decide +kernel) (by decide +kernel)
theorem ini_X0_init_i : Cond.initialized yX0_init.cls ∈ GW := gw_of 68 (by decide +kernel) (by decide +kernel)
theorem mi_X0_init : MIi yX0_init cX0_init 1 0 := ⟨cd_X0_init, ini_X0_init_i, by decide +kernel, by decide, rfl, mv_X0_init⟩
theorem cd_X2_init : Cond.code yX2_init cX2_init 1 none ∈ GW := gw_of 305 (by decide +kernel) (by decide +kernel)
theorem mv_X2_init : Cond.instanceMethod yX2_init ∈ GW := gw_of 304 (by decide +kernel) (by decide +kernel)
theorem ini_X2_init_i : Cond.initialized yX2_init.cls ∈ GW := gw_of 69 (by decide +kernel) (by decide +kernel)
theorem mi_X2_init : MIi yX2_init cX2_init 1 0 := ⟨cd_X2_init, ini_X2_init_i, by decide +kernel, by decide, rfl, mv_X2_init⟩
theorem cd_X3_init : Cond.code yX3_init cX3_init 1 none ∈ GW := gw_of 323 (by decide +kernel) (by decide +kernel)
theorem mv_X3_init : Cond.instanceMethod yX3_init ∈ GW := gw_of 322 (by decide +kernel) (by decide +kernel)
theorem ini_X3_init_i : Cond.initialized yX3_init.cls ∈ GW := gw_of 70 (by decide +kernel) (by decide +kernel)
theorem mi_X3_init : MIi yX3_init cX3_init 1 0 := ⟨cd_X3_init, ini_X3_init_i, by decide +kernel, by decide, rfl, mv_X3_init⟩
theorem cd_X7_init : Cond.code yX7_init cX7_init 1 none ∈ GW := gw_of 84 (by decide +kernel) (by decide +kernel)
theorem mv_X7_init : Cond.instanceMethod yX7_init ∈ GW := gw_of 83 (by decide +kernel) (by decide +kernel)
theorem ini_X7_init_i : Cond.initialized yX7_init.cls ∈ GW := gw_of 63 (by decide +kernel) (by decide +kernel)
theorem mi_X7_init : MIi yX7_init cX7_init 1 0 := ⟨cd_X7_init, ini_X7_init_i, by decide +kernel, by decide, rfl, mv_X7_init⟩
theorem cd_X8_init : Cond.code yX8_init cX8_init 1 none ∈ GW := gw_of 895 (by decide +kernel) (by decide +kernel)
theorem mv_X8_init : Cond.instanceMethod yX8_init ∈ GW := gw_of 894 (by decide +kernel) (by decide +kernel)
theorem ini_X8_init_i : Cond.initialized yX8_init.cls ∈ GW := gw_of 71 (by decide +kernel) (by decide +kernel)
theorem mi_X8_init : MIi yX8_init cX8_init 1 0 := ⟨cd_X8_init, ini_X8_init_i, by decide +kernel, by decide, rfl, mv_X8_init⟩
theorem ml_RX7_1 : Cond.methodLink RX7 1 Lib.objectInit ∈ GW := gw_of 85 (by decide +kernel) (by decide +kernel)
theorem ml_RX7_25 : Cond.methodLink RX7 25 yX1_init ∈ GW := gw_of 158 (by decide +kernel) (by decide +kernel)
theorem ml_RX7_34 : Cond.methodLink RX7 34 yX6_init ∈ GW := gw_of 207 (by decide +kernel) (by decide +kernel)
theorem ml_RX0_1 : Cond.methodLink RX0 1 Lib.objectInit ∈ GW := gw_of 280 (by decide +kernel) (by decide +kernel)
theorem ml_RX1_3 : Cond.methodLink RX1 3 Lib.objectInit ∈ GW := gw_of 161 (by decide +kernel) (by decide +kernel)
theorem ml_RX2_3 : Cond.methodLink RX2 3 Lib.objectInit ∈ GW := gw_of 306 (by decide +kernel) (by decide +kernel)
theorem ml_RX3_3 : Cond.methodLink RX3 3 Lib.objectInit ∈ GW := gw_of 324 (by decide +kernel) (by decide +kernel)
theorem ml_RX4_3 : Cond.methodLink RX4 3 Lib.objectInit ∈ GW := gw_of 110 (by decide +kernel) (by decide +kernel)
theorem ml_RX5_3 : Cond.methodLink RX5 3 Lib.objectInit ∈ GW := gw_of 93 (by decide +kernel) (by decide +kernel)
theorem ml_RX6_3 : Cond.methodLink RX6 3 Lib.objectInit ∈ GW := gw_of 210 (by decide +kernel) (by decide +kernel)
theorem ml_RX8_1 : Cond.methodLink RX8 1 Lib.objectInit ∈ GW := gw_of 896 (by decide +kernel) (by decide +kernel)
theorem ff_1_0 : FLf RX1 1 0 (.object "BasketRound$Shop") := ⟨RX1, TX1, 12, rfl, rfl, rfl, by decide +kernel⟩
theorem ff_1_1 : FLf RX1 1 1 (.object "BasketRound$Tape") := ⟨RX1, TX1, 12, rfl, rfl, rfl, by decide +kernel⟩
theorem ff_2_0 : FLf RX2 2 0 (.array .int) := ⟨RX2, TX2, 3, rfl, rfl, rfl, by decide +kernel⟩
theorem ff_2_1 : FLf RX2 2 1 (.array .int) := ⟨RX2, TX2, 3, rfl, rfl, rfl, by decide +kernel⟩
theorem ff_3_0 : FLf RX3 3 0 (.array (.array .int)) := ⟨RX3, TX3, 3, rfl, rfl, rfl, by decide +kernel⟩
theorem ff_3_1 : FLf RX3 3 1 (.array .int) := ⟨RX3, TX3, 3, rfl, rfl, rfl, by decide +kernel⟩
theorem ff_3_2 : FLf RX3 3 2 (.array .int) := ⟨RX3, TX3, 3, rfl, rfl, rfl, by decide +kernel⟩
theorem ff_4_0 : FLf RX4 4 0 (.array .int) := ⟨RX4, TX4, 8, rfl, rfl, rfl, by decide +kernel⟩
theorem ff_4_1 : FLf RX4 4 1 (.array .int) := ⟨RX4, TX4, 8, rfl, rfl, rfl, by decide +kernel⟩
theorem ff_4_2 : FLf RX4 4 2 (.array .int) := ⟨RX4, TX4, 8, rfl, rfl, rfl, by decide +kernel⟩
theorem ff_4_3 : FLf RX4 4 3 (.array .int) := ⟨RX4, TX4, 8, rfl, rfl, rfl, by decide +kernel⟩
theorem ff_5_0 : FLf RX5 5 0 (.array .byte) := ⟨RX5, TX5, 2, rfl, rfl, rfl, by decide +kernel⟩
theorem ff_6_0 : FLf RX6 6 0 (.object "BasketRound$Shop") := ⟨RX6, TX6, 17, rfl, rfl, rfl, by decide +kernel⟩
theorem ff_6_1 : FLf RX6 6 1 (.array .int) := ⟨RX6, TX6, 17, rfl, rfl, rfl, by decide +kernel⟩
theorem ff_6_2 : FLf RX6 6 2 (.array .int) := ⟨RX6, TX6, 17, rfl, rfl, rfl, by decide +kernel⟩
theorem ff_6_3 : FLf RX6 6 3 (.array .int) := ⟨RX6, TX6, 17, rfl, rfl, rfl, by decide +kernel⟩
theorem ff_6_4 : FLf RX6 6 4 (.array .int) := ⟨RX6, TX6, 17, rfl, rfl, rfl, by decide +kernel⟩
theorem ff_6_5 : FLf RX6 6 5 (.array .int) := ⟨RX6, TX6, 17, rfl, rfl, rfl, by decide +kernel⟩
theorem ff_7_0 : FLf RX7 7 0 (.object "BasketRound$Tape") := ⟨RX7, TX7, 11, rfl, rfl, rfl, by decide +kernel⟩
theorem ff_7_1 : FLf RX7 7 1 (.object "BasketRound$Shop") := ⟨RX7, TX7, 11, rfl, rfl, rfl, by decide +kernel⟩
theorem ff_7_2 : FLf RX7 7 2 (.object "BasketRound$Reader") := ⟨RX7, TX7, 11, rfl, rfl, rfl, by decide +kernel⟩
theorem ff_7_3 : FLf RX7 7 3 (.object "BasketRound$Trip") := ⟨RX7, TX7, 11, rfl, rfl, rfl, by decide +kernel⟩
theorem ff_7_4 : FLf RX7 7 4 (.object "BasketRound$Choice") := ⟨RX7, TX7, 11, rfl, rfl, rfl, by decide +kernel⟩
theorem ff_7_5 : FLf RX7 7 5 (.object "BasketRound$Seen") := ⟨RX7, TX7, 11, rfl, rfl, rfl, by decide +kernel⟩
theorem ff_7_6 : FLf RX7 7 6 (.array (.object "BasketRound$Shop")) := ⟨RX7, TX7, 11, rfl, rfl, rfl, by decide +kernel⟩
theorem ff_7_7 : FLf RX7 7 7 (.array .boolean) := ⟨RX7, TX7, 11, rfl, rfl, rfl, by decide +kernel⟩
theorem ff_7_8 : FLf RX7 7 8 (.object "BasketRound$Sheets") := ⟨RX7, TX7, 11, rfl, rfl, rfl, by decide +kernel⟩
theorem ff_8_0 : FLf RX8 8 0 (.array .int) := ⟨RX8, TX8, 45, rfl, rfl, rfl, by decide +kernel⟩
theorem ff_8_1 : FLf RX8 8 1 (.array .int) := ⟨RX8, TX8, 45, rfl, rfl, rfl, by decide +kernel⟩
theorem ff_8_2 : FLf RX8 8 2 (.array .int) := ⟨RX8, TX8, 45, rfl, rfl, rfl, by decide +kernel⟩
theorem ff_8_4 : FLf RX8 8 4 (.array .int) := ⟨RX8, TX8, 45, rfl, rfl, rfl, by decide +kernel⟩
theorem ff_8_6 : FLf RX8 8 6 (.array .int) := ⟨RX8, TX8, 45, rfl, rfl, rfl, by decide +kernel⟩
theorem ff_8_7 : FLf RX8 8 7 (.array .int) := ⟨RX8, TX8, 45, rfl, rfl, rfl, by decide +kernel⟩
theorem ff_8_8 : FLf RX8 8 8 (.array .int) := ⟨RX8, TX8, 45, rfl, rfl, rfl, by decide +kernel⟩
theorem ff_8_9 : FLf RX8 8 9 (.array .int) := ⟨RX8, TX8, 45, rfl, rfl, rfl, by decide +kernel⟩
theorem ff_8_13 : FLf RX8 8 13 (.array .int) := ⟨RX8, TX8, 45, rfl, rfl, rfl, by decide +kernel⟩
theorem ff_8_14 : FLf RX8 8 14 (.array .int) := ⟨RX8, TX8, 45, rfl, rfl, rfl, by decide +kernel⟩
theorem ff_8_17 : FLf RX8 8 17 (.array .int) := ⟨RX8, TX8, 45, rfl, rfl, rfl, by decide +kernel⟩
theorem ff_8_26 : FLf RX8 8 26 (.array .int) := ⟨RX8, TX8, 45, rfl, rfl, rfl, by decide +kernel⟩
theorem ff_8_27 : FLf RX8 8 27 (.array .int) := ⟨RX8, TX8, 45, rfl, rfl, rfl, by decide +kernel⟩
theorem ff_8_28 : FLf RX8 8 28 (.array .int) := ⟨RX8, TX8, 45, rfl, rfl, rfl, by decide +kernel⟩
theorem ff_8_38 : FLf RX8 8 38 (.array .int) := ⟨RX8, TX8, 45, rfl, rfl, rfl, by decide +kernel⟩
theorem ff_8_40 : FLf RX8 8 40 (.array .boolean) := ⟨RX8, TX8, 45, rfl, rfl, rfl, by decide +kernel⟩
theorem ff_8_41 : FLf RX8 8 41 (.array .int) := ⟨RX8, TX8, 45, rfl, rfl, rfl, by decide +kernel⟩
theorem ff_8_42 : FLf RX8 8 42 (.array .int) := ⟨RX8, TX8, 45, rfl, rfl, rfl, by decide +kernel⟩
theorem ff_8_43 : FLf RX8 8 43 (.array .int) := ⟨RX8, TX8, 45, rfl, rfl, rfl, by decide +kernel⟩
def fl (l : List Int32) : Nat → Int32 := fun i => l.getD i 0
theorem fl_up0 (v : Int32) : upd (fun _ => 0) (0 : Int32).toNatClampNeg v = fl [v] := by
  funext i
  match i with
  | 0 => rfl
  | i + 1 => rfl
theorem fl_up {l l' : List Int32} {j v : Int32} (h : j.toNatClampNeg = l.length ∧ l ++ [v] = l') : upd (fl l) j.toNatClampNeg v = fl l' := by
  obtain ⟨h1, h2⟩ := h
  subst h2
  rw [h1]
  funext i
  show (if i = l.length then v else l.getD i 0) = (l ++ [v]).getD i 0
  by_cases e : i = l.length
  · subst e
    simp
  · rw [if_neg e]
    rcases Nat.lt_or_gt_of_ne e with h | h
    · simp [List.getD, List.getElem?_append_left h]
    · simp only [List.getD]
      rw [List.getElem?_eq_none (by omega), List.getElem?_eq_none (by simp; omega)]
theorem ini_RX0_n : Cond.initialized RX0 ∈ GW := gw_of 68 (by decide +kernel) (by decide +kernel)
theorem ini_RX1_n : Cond.initialized RX1 ∈ GW := gw_of 66 (by decide +kernel) (by decide +kernel)
theorem ini_RX2_n : Cond.initialized RX2 ∈ GW := gw_of 69 (by decide +kernel) (by decide +kernel)
theorem ini_RX3_n : Cond.initialized RX3 ∈ GW := gw_of 70 (by decide +kernel) (by decide +kernel)
theorem ini_RX4_n : Cond.initialized RX4 ∈ GW := gw_of 65 (by decide +kernel) (by decide +kernel)
theorem ini_RX5_n : Cond.initialized RX5 ∈ GW := gw_of 64 (by decide +kernel) (by decide +kernel)
theorem ini_RX6_n : Cond.initialized RX6 ∈ GW := gw_of 67 (by decide +kernel) (by decide +kernel)
theorem ini_RX7_n : Cond.initialized RX7 ∈ GW := gw_of 63 (by decide +kernel) (by decide +kernel)
theorem ini_RX8_n : Cond.initialized RX8 ∈ GW := gw_of 71 (by decide +kernel) (by decide +kernel)

