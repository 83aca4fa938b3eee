/-! ===== a fixed world: cells by their places, one memory Mem (place, field or element) ===== -/
abbrev Mem : Type := Nat → Nat → Int32
def wr (μ : Mem) (k j : Nat) (v : Int32) : Mem := fun a b => if a = k then (if b = j then v else μ a b) else μ a b
def wrA (μ : Mem) (k : Nat) (f : Nat → Int32) : Mem := fun a b => if a = k then f b else μ a b
abbrev dsE : Type := Nat × Nat × List (Option Nat)
def dsF (ad : Nat → Nat) (μ : Mem) (k : Nat) : Nat → List (Option Nat) → List Value
  | _, [] => []
  | j, none :: l => .int (μ k j) :: dsF ad μ k (j + 1) l
  | j, some r :: l => .ref (ad r) :: dsF ad μ k (j + 1) l
def dsC (ad : Nat → Nat) (cA : Nat → ClassId) (μ : Mem) (k : Nat) (d : dsE) : va_E := match d with
  | (0, n, _) => .inl (cA 0, n, .inl (μ k))
  | (1, n, _) => .inl (cA 1, n, .inl (μ k))
  | (2, n, _) => .inl (cA 2, n, .inl (μ k))
  | (3, n, l) => .inl (cA 3, n, .inr (.inr (.inr (.inr (fun i => (l.getD i none).map ad)))))
  | (4, n, l) => .inl (cA 4, n, .inr (.inr (.inr (.inr (fun i => (l.getD i none).map ad)))))
  | (t + 5, _, l) => .inr (t, dsF ad μ k 0 l)
def wdF (ad : Nat → Nat) (cA : Nat → ClassId) (μ : Mem) : Nat → List dsE → va_W
  | _, [] => []
  | k, d :: l => (ad k, dsC ad cA μ k d) :: wdF ad cA μ (k + 1) l
def wd (ad : Nat → Nat) (cA : Nat → ClassId) (ds : List dsE) (μ : Mem) : va_W := wdF ad cA μ 0 ds
theorem wdF_get (ad : Nat → Nat) (cA : Nat → ClassId) (μ : Mem) : ∀ (l : List dsE) (k i : Nat), (wdF ad cA μ k l)[i]? = (l[i]?).map (fun d => (ad (k + i), dsC ad cA μ (k + i) d))
  | [], k, i => by simp [wdF]
  | d :: l, k, 0 => by simp [wdF]
  | d :: l, k, i + 1 => by
    rw [wdF, List.getElem?_cons_succ, List.getElem?_cons_succ, wdF_get ad cA μ l (k + 1) i, show k + 1 + i = k + (i + 1) by omega]
theorem wd_get {ad : Nat → Nat} {cA : Nat → ClassId} {ds : List dsE} {μ : Mem} {k : Nat} {d : dsE} (h : ds[k]? = some d) : (wd ad cA ds μ)[k]? = some (ad k, dsC ad cA μ k d) := by
  rw [wd, wdF_get, h, Nat.zero_add]; rfl
theorem dsF_get (ad : Nat → Nat) (μ : Mem) (k : Nat) : ∀ (l : List (Option Nat)) (j i : Nat), (dsF ad μ k j l)[i]? = (l[i]?).map (fun o => match o with | none => .int (μ k (j + i)) | some r => .ref (ad r))
  | [], j, i => by simp [dsF]
  | none :: l, j, 0 => by simp [dsF]
  | some r :: l, j, 0 => by simp [dsF]
  | none :: l, j, i + 1 => by
    rw [dsF, List.getElem?_cons_succ, List.getElem?_cons_succ, dsF_get ad μ k l (j + 1) i, show j + 1 + i = j + (i + 1) by omega]
  | some r :: l, j, i + 1 => by
    rw [dsF, List.getElem?_cons_succ, List.getElem?_cons_succ, dsF_get ad μ k l (j + 1) i, show j + 1 + i = j + (i + 1) by omega]
theorem dsC_other {ad : Nat → Nat} {cA : Nat → ClassId} {μ ν : Mem} {k : Nat} (h : ∀ b, ν k b = μ k b) (d : dsE) : dsC ad cA ν k d = dsC ad cA μ k d := by
  have e : ν k = μ k := funext h
  have eF : ∀ l, dsF ad ν k 0 l = dsF ad μ k 0 l := fun l => List.ext_getElem? (fun i => by rw [dsF_get, dsF_get, e])
  obtain ⟨t, n, l⟩ := d
  match t with
  | 0 => simp [dsC, e]
  | 1 => simp [dsC, e]
  | 2 => simp [dsC, e]
  | 3 => simp [dsC]
  | 4 => simp [dsC]
  | t + 5 => simp [dsC, eF]
theorem wd_set {ad : Nat → Nat} {cA : Nat → ClassId} {ds : List dsE} {μ ν : Mem} {k : Nat} {d : dsE} (h : ds[k]? = some d) (ho : ∀ a b, a ≠ k → ν a b = μ a b) : (wd ad cA ds μ).set k (ad k, dsC ad cA ν k d) = wd ad cA ds ν := by
  refine List.ext_getElem? (fun i => ?_)
  by_cases hi : i = k
  · subst hi
    have hl : i < (wd ad cA ds μ).length := (List.getElem?_eq_some_iff.mp (wd_get (ad := ad) (cA := cA) (μ := μ) h)).1
    rw [List.getElem?_set_self hl, wd_get h]
  · rw [List.getElem?_set_ne (Ne.symm hi), wd, wd, wdF_get, wdF_get]
    cases ds[i]? with
    | none => rfl
    | some d2 =>
      simp only [Nat.zero_add, Option.map_some]
      rw [dsC_other (fun b => ho i b hi)]
theorem wr_ne {μ : Mem} {k j : Nat} {v : Int32} {a b : Nat} (h : a ≠ k) : wr μ k j v a b = μ a b := by simp [wr, h]
theorem wr_row (μ : Mem) (k j : Nat) (v : Int32) : wr μ k j v k = upd (μ k) j v := by
  funext b; simp [wr, upd]
theorem wrA_row (μ : Mem) (k : Nat) (f : Nat → Int32) : wrA μ k f k = f := by
  funext b; simp [wrA]
theorem wrA_ne {μ : Mem} {k : Nat} {f : Nat → Int32} {a b : Nat} (h : a ≠ k) : wrA μ k f a b = μ a b := by simp [wrA, h]
theorem dsF_put {ad : Nat → Nat} {μ : Mem} {k j : Nat} {l : List (Option Nat)} {v : Int32} (h : l[j]? = some none) : (dsF ad μ k 0 l).set j (.int v) = dsF ad (wr μ k j v) k 0 l := by
  refine List.ext_getElem? (fun i => ?_)
  have hl : j < (dsF ad μ k 0 l).length := by
    have := dsF_get ad μ k l 0 j
    rw [h] at this
    exact (List.getElem?_eq_some_iff.mp this).1
  by_cases hi : i = j
  · subst hi
    rw [List.getElem?_set_self hl, dsF_get, h]
    simp [wr]
  · rw [List.getElem?_set_ne (Ne.symm hi), dsF_get, dsF_get]
    cases l[i]? with
    | none => rfl
    | some o => cases o <;> simp [wr, hi]
def tysl (cA : Nat → ClassId) : List (ClassId × FieldType) := [(cA 0, .int), (cA 1, .byte), (cA 2, .boolean), (cA 3, .object "BasketRound$Shop"), (cA 4, .array .int)]
/-! ===== the words that all methods share ===== -/
def GW : List Cond := lw_tbl.filter goodWord
theorem gw_of (i : Nat) {w : Cond} (h : lw_tbl[i]? = some w) (g : goodWord w = true) : w ∈ GW := List.mem_filter.mpr ⟨List.mem_of_getElem? h, g⟩
theorem gw_good {w : Cond} (h : w ∈ GW) : (w.onTables && w.keeps) = true ∨ ∃ ty, w = .arrayClass ty := good_of_word (List.mem_filter.mp h).2
theorem gw_in {w : Cond} (h : w ∈ GW) : w ∈ lw_tbl := (List.mem_filter.mp h).1
def rmD (d : Nat) : Room := { frames := d, cells := 0, slots := 0, locals := 32 * d }
/-! ===== results, and the pure words of a walk ===== -/
def enI (r : Int32 × Mem) : Option Value × Mem := (some (.int r.1), r.2)
def enL (r : Int64 × Mem) : Option Value × Mem := (some (.long r.1), r.2)
def enV (r : Mem) : Option Value × Mem := (none, r)
def gd {ρ : Type} (c : Prop) [Decidable c] (x : Option ρ) : Option ρ := if c then x else none
def lb {α β : Type} (x : α) (f : α → β) : β := f x
def bi {ρ : Type} (x : Option (Int32 × Mem)) (f : Int32 → Mem → Option ρ) : Option ρ := match x with | none => none | some r => f r.1 r.2
def bl {ρ : Type} (x : Option (Int64 × Mem)) (f : Int64 → Mem → Option ρ) : Option ρ := match x with | none => none | some r => f r.1 r.2
def bv {ρ : Type} (x : Option Mem) (f : Mem → Option ρ) : Option ρ := match x with | none => none | some r => f r
/-- an index in range, as a test -/
def inr (i : Int32) (n : Nat) : Prop := ¬ (i < 0 ∨ n ≤ i.toNatClampNeg)
theorem inr_dec (i : Int32) (n : Nat) : inr i n ↔ (¬ (i < 0 ∨ n ≤ i.toNatClampNeg)) := Iff.rfl
def gr {ρ : Type} (i : Int32) (n : Nat) (x : Option ρ) : Option ρ := if (i < 0 ∨ n ≤ i.toNatClampNeg) then none else x
def Qm (D : va_G) (ad : Nat → Nat) (cA : Nat → ClassId) (ds : List dsE) (A : Nat → Prop) (r : Option Value × Mem) : Array Value → State → Outcome → State → Prop := fun _ st oc t => oc = .returned r.1 ∧ va_P D vwCl (wd ad cA ds r.2) t.heap ∧ va_F A st t
def E1 (E : State → Prop) : Prop := ∀ s U : State, E s → U.vm = s.vm → U.heap = s.heap → E U
def E2 (A : Nat → Prop) (E : State → Prop) : Prop := ∀ s U : State, E s → s.WarmedH U.vm → (∀ q : Nat, q < s.heap.size → ¬ A q → U.heap[q]? = s.heap[q]?) → E U
def Pk (A : Nat → Prop) (ds : List dsE) (ad : Nat → Nat) (cA : Nat → ClassId) (E : State → Prop) : Prop := (∀ μ, va_D A (wd ad cA ds μ)) ∧ E1 E ∧ E2 A E
def Cx (p : Program) (s : State) (m : MethodId) (args : Array Value) (meth : Method) (c : Code) (cc : ByteArray) (own : String) (nL : Nat) (A : Nat → Prop) (ds : List dsE) (D : va_G) (ad : Nat → Nat) (cA : Nat → ClassId) (E : State → Prop) : Prop :=
  p.tables.exec = Jvm.exec ∧ c.code = cc ∧ c.maxLocals = nL ∧ s.vm.findClass own = some m.cls ∧ (∀ w ∈ GW, w.before args s = true) ∧ va_K D vwCl (tysl cA) s ∧ (∀ q : Nat, s.heap.size ≤ q → A q) ∧ Pk A ds ad cA E ∧ meth.locks = false ∧ E s
def T (p : Program) (l : Launch) (e : Env) (R : Room) (s : State) (m : MethodId) (args : Array Value) (below : List Frame) (meth : Method) (c : Code) (nL : Nat) (A : Nat → Prop) (ds : List dsE) (D : va_G) (ad : Nat → Nat) (cA : Nat → ClassId) {ρ : Type} (en : ρ → Option Value × Mem) (x : Option ρ) (pc : Nat) (L : List (Nat × Value)) (st : List Value) (μ : Mem) : Prop :=
  ∀ r, x = some r → ∀ (H : Heap) (locs : List Loc) (ls : Array Slot), va_P D vwCl (wd ad cA ds μ) H → va_S A s.heap H locs → lv_has ls nL L → W p l e R s m args below meth c H locs 0 0 (MQ below (Qm D ad cA ds A (en r)) args s 0 0 A) (F0 m pc ls st)
def Ct (l : Launch) (A : Nat → Prop) (ds : List dsE) (D : va_G) (ad : Nat → Nat) (cA : Nat → ClassId) (E : State → Prop) (y : MethodName) (cc : ByteArray) (nL : Nat) (ret : Option FieldType) (d : Nat) (av : List Value) (μ : Mem) (rr : Option Value × Mem) : Prop :=
  Met l y (.code y cc nL ret :: GW) (rmD d) (va_Pc av (fun U => (∀ q : Nat, U.heap.size ≤ q → A q) ∧ va_P D vwCl (wd ad cA ds μ) U.heap ∧ va_K D vwCl (tysl cA) U ∧ E U)) (Qm D ad cA ds A rr) 0 0 A
section TR
variable {p : Program} {l : Launch} {e : Env} {R : Room} {s : State} {m : MethodId} {args : Array Value} {below : List Frame} {meth : Method} {c : Code} {cc : ByteArray} {own : String} {nL : Nat} {A : Nat → Prop} {ds : List dsE} {D : va_G} {ad : Nat → Nat} {cA : Nat → ClassId} {E : State → Prop} {ρ : Type} {en : ρ → Option Value × Mem} {x : Option ρ} {pc : Nat} {L : List (Nat × Value)} {st : List Value} {μ : Mem}
theorem ct_of {y : MethodName} {ret : Option FieldType} {d : Nat} {av : List Value} {r : ρ} (hy : plainName y.cls = true) (hle : (lg_sl av).length ≤ nL) (hPk : Pk A ds ad cA E) (hL : lv_args 0 av = L)
    (h : ∀ (p : Program) (e : Env) (s : State) (m : MethodId) (args : Array Value) (below : List Frame) (meth : Method) (c : Code), Cx p s m args meth c cc y.cls nL A ds D ad cA E → meth.sig.returnType = ret → T p l e (rmD d) s m args below meth c nL A ds D ad cA en x 0 L [] μ) (hx : x = some r) : Ct l A ds D ad cA E y cc nL ret d av μ (en r) := by
  refine Met.ofW (cc := cc) (maxL := nL) (ret := ret) hy rfl ?_
  intro p e s m args below meth c s₁ B hml hv
  obtain ⟨rfl, hA, hP, hK, hE⟩ := hv
  have hts := atoms_spec (ws := .code y cc nL ret :: GW) B.pre
  have hown : s.vm.findClass y.cls = some m.cls := findClass_of_methodNamed B.named
  have hl := lv_entry av (n := nL) hle
  rw [lg_entry_eq]
  rw [hL] at hl
  exact h p e s m _ below meth c ⟨B.exec, B.bytes, hml, hown, fun w hw => hts w (List.mem_cons_of_mem _ hw), hK, hA, hPk, B.notSynchronized, hE⟩ B.returns r hx s.heap [] _ hP va_S.rf hl
theorem tt_none : T p l e R s m args below meth c nL A ds D ad cA en none pc L st μ := fun r h => by cases h
theorem tt_gr {i : Int32} {n : Nat} (k : inr i n → T p l e R s m args below meth c nL A ds D ad cA en x pc L st μ) : T p l e R s m args below meth c nL A ds D ad cA en (gr i n x) pc L st μ := by
  intro r h
  unfold gr at h
  split at h
  · cases h
  · next q => exact k q r h
theorem tt_gd {q : Prop} [Decidable q] (k : q → T p l e R s m args below meth c nL A ds D ad cA en x pc L st μ) : T p l e R s m args below meth c nL A ds D ad cA en (gd q x) pc L st μ := by
  intro r h
  unfold gd at h
  split at h
  · next q => exact k q r h
  · cases h
theorem tt_if {q : Prop} [Decidable q] {y : Option ρ} (k1 : q → T p l e R s m args below meth c nL A ds D ad cA en x pc L st μ) (k2 : ¬ q → T p l e R s m args below meth c nL A ds D ad cA en y pc L st μ) : T p l e R s m args below meth c nL A ds D ad cA en (if q then x else y) pc L st μ := by
  intro r h
  split at h
  · next q => exact k1 q r h
  · next q => exact k2 q r h
theorem tt_bi {f : Option (Int32 × Mem)} {g : Int32 → Mem → Option ρ} (k : ∀ v ν, f = some (v, ν) → T p l e R s m args below meth c nL A ds D ad cA en (g v ν) pc L st μ) : T p l e R s m args below meth c nL A ds D ad cA en (bi f g) pc L st μ := by
  intro r h
  cases f with
  | none => cases h
  | some y => exact k y.1 y.2 rfl r h
theorem tt_bl {f : Option (Int64 × Mem)} {g : Int64 → Mem → Option ρ} (k : ∀ v ν, f = some (v, ν) → T p l e R s m args below meth c nL A ds D ad cA en (g v ν) pc L st μ) : T p l e R s m args below meth c nL A ds D ad cA en (bl f g) pc L st μ := by
  intro r h
  cases f with
  | none => cases h
  | some y => exact k y.1 y.2 rfl r h
theorem tt_bv {f : Option Mem} {g : Mem → Option ρ} (k : ∀ ν, f = some ν → T p l e R s m args below meth c nL A ds D ad cA en (g ν) pc L st μ) : T p l e R s m args below meth c nL A ds D ad cA en (bv f g) pc L st μ := by
  intro r h
  cases f with
  | none => cases h
  | some y => exact k y rfl r h
theorem tt_lbi {w : Int32} {g : Int32 → Option ρ} (k : ∀ v, T p l e R s m args below meth c nL A ds D ad cA en (g v) pc L (.int v :: st) μ) : T p l e R s m args below meth c nL A ds D ad cA en (lb w g) pc L (.int w :: st) μ := k w
theorem tt_lbl {w : Int64} {g : Int64 → Option ρ} (k : ∀ v, T p l e R s m args below meth c nL A ds D ad cA en (g v) pc L (.long v :: st) μ) : T p l e R s m args below meth c nL A ds D ad cA en (lb w g) pc L (.long w :: st) μ := k w
theorem tt_lbm {g : Mem → Option ρ} (k : ∀ ν, T p l e R s m args below meth c nL A ds D ad cA en (g ν) pc L st ν) : T p l e R s m args below meth c nL A ds D ad cA en (lb μ g) pc L st μ := k μ
theorem tt_sub (ks : List Nat) {L2 : List (Nat × Value)} (h : lv_pick L ks = L2) (k : T p l e R s m args below meth c nL A ds D ad cA en x pc L2 st μ) : T p l e R s m args below meth c nL A ds D ad cA en x pc L st μ := fun r hr H locs ls hP hS hL => k r hr H locs ls hP hS (lv_sub hL ks h)
theorem tt_iconst (C : Cx p s m args meth c cc own nL A ds D ad cA E) {n : Int} {v : Int32} (hdg : decode cc pc = .ok (.iconst n, 1)) (hv : Int32.ofInt n = v) (k : T p l e R s m args below meth c nL A ds D ad cA en x (pc + 1) L (.int v :: st) μ) : T p l e R s m args below meth c nL A ds D ad cA en x pc L (st) μ := fun r hr H locs ls hP hS hL => lv_iconst C.1 C.2.1 hdg hv (k r hr H locs ls hP hS hL)
theorem tt_bipush (C : Cx p s m args meth c cc own nL A ds D ad cA E) {n : Int} {v : Int32} (hdg : decode cc pc = .ok (.bipush n, 2)) (hv : (Int8.ofInt n).toInt32 = v) (k : T p l e R s m args below meth c nL A ds D ad cA en x (pc + 2) L (.int v :: st) μ) : T p l e R s m args below meth c nL A ds D ad cA en x pc L (st) μ := fun r hr H locs ls hP hS hL => lv_bipush C.1 C.2.1 hdg hv (k r hr H locs ls hP hS hL)
theorem tt_sipush (C : Cx p s m args meth c cc own nL A ds D ad cA E) {n : Int} {v : Int32} (hdg : decode cc pc = .ok (.sipush n, 3)) (hv : (Int16.ofInt n).toInt32 = v) (k : T p l e R s m args below meth c nL A ds D ad cA en x (pc + 3) L (.int v :: st) μ) : T p l e R s m args below meth c nL A ds D ad cA en x pc L (st) μ := fun r hr H locs ls hP hS hL => lv_sipush C.1 C.2.1 hdg hv (k r hr H locs ls hP hS hL)
theorem tt_lconst (C : Cx p s m args meth c cc own nL A ds D ad cA E) {n : Fin 2} {v : Int64} (hdg : decode cc pc = .ok (.lconst n, 1)) (hv : Int64.ofNat (n : Nat) = v) (k : T p l e R s m args below meth c nL A ds D ad cA en x (pc + 1) L (.long v :: st) μ) : T p l e R s m args below meth c nL A ds D ad cA en x pc L (st) μ := fun r hr H locs ls hP hS hL => lv_lconst C.1 C.2.1 hdg hv (k r hr H locs ls hP hS hL)
theorem tt_ldc (C : Cx p s m args meth c cc own nL A ds D ad cA E) {index : Nat} {v : Int32} (hw : Cond.constant own index v ∈ GW) (hdg : decode cc pc = .ok (.ldc index, 2)) (k : T p l e R s m args below meth c nL A ds D ad cA en x (pc + 2) L (.int v :: st) μ) : T p l e R s m args below meth c nL A ds D ad cA en x pc L (st) μ := fun r hr H locs ls hP hS hL => lv_ldc C.1 C.2.1 C.2.2.2.1 (C.2.2.2.2.1 _ hw) hdg (k r hr H locs ls hP hS hL)
theorem tt_ldcw (C : Cx p s m args meth c cc own nL A ds D ad cA E) {index : Nat} {v : Int32} (hw : Cond.constant own index v ∈ GW) (hdg : decode cc pc = .ok (.ldc_w index, 3)) (k : T p l e R s m args below meth c nL A ds D ad cA en x (pc + 3) L (.int v :: st) μ) : T p l e R s m args below meth c nL A ds D ad cA en x pc L (st) μ := fun r hr H locs ls hP hS hL => lv_ldcw C.1 C.2.1 C.2.2.2.1 (C.2.2.2.2.1 _ hw) hdg (k r hr H locs ls hP hS hL)
theorem tt_ldc2 (C : Cx p s m args meth c cc own nL A ds D ad cA E) {index : Nat} {v : Int64} (hw : Cond.constantLong own index v ∈ GW) (hdg : decode cc pc = .ok (.ldc2_w index, 3)) (k : T p l e R s m args below meth c nL A ds D ad cA en x (pc + 3) L (.long v :: st) μ) : T p l e R s m args below meth c nL A ds D ad cA en x pc L (st) μ := fun r hr H locs ls hP hS hL => lv_ldc2 C.1 C.2.1 C.2.2.2.1 (C.2.2.2.2.1 _ hw) hdg (k r hr H locs ls hP hS hL)
theorem tt_iload_n (C : Cx p s m args meth c cc own nL A ds D ad cA E) (j : Nat) {n : Fin 4} {i : Nat} {v : Int32} (hdg : decode cc pc = .ok (.iload_n n, 1)) (hi : (n : Nat) = i) (hj : L[j]? = some (i, .int v)) (k : T p l e R s m args below meth c nL A ds D ad cA en x (pc + 1) L (.int v :: st) μ) : T p l e R s m args below meth c nL A ds D ad cA en x pc L (st) μ := fun r hr H locs ls hP hS hL => lv_iload_n C.1 C.2.1 hdg hi (lv_at hL j hj) (k r hr H locs ls hP hS hL)
theorem tt_iload (C : Cx p s m args meth c cc own nL A ds D ad cA E) (j : Nat) {i : Nat} {v : Int32} (hdg : decode cc pc = .ok (.iload i, 2)) (hj : L[j]? = some (i, .int v)) (k : T p l e R s m args below meth c nL A ds D ad cA en x (pc + 2) L (.int v :: st) μ) : T p l e R s m args below meth c nL A ds D ad cA en x pc L (st) μ := fun r hr H locs ls hP hS hL => lv_iload C.1 C.2.1 hdg (lv_at hL j hj) (k r hr H locs ls hP hS hL)
theorem tt_lload_n (C : Cx p s m args meth c cc own nL A ds D ad cA E) (j : Nat) {n : Fin 4} {i : Nat} {v : Int64} (hdg : decode cc pc = .ok (.lload_n n, 1)) (hi : (n : Nat) = i) (hj : L[j]? = some (i, .long v)) (k : T p l e R s m args below meth c nL A ds D ad cA en x (pc + 1) L (.long v :: st) μ) : T p l e R s m args below meth c nL A ds D ad cA en x pc L (st) μ := fun r hr H locs ls hP hS hL => lv_lload_n C.1 C.2.1 hdg hi (lv_at hL j hj) (k r hr H locs ls hP hS hL)
theorem tt_lload (C : Cx p s m args meth c cc own nL A ds D ad cA E) (j : Nat) {i : Nat} {v : Int64} (hdg : decode cc pc = .ok (.lload i, 2)) (hj : L[j]? = some (i, .long v)) (k : T p l e R s m args below meth c nL A ds D ad cA en x (pc + 2) L (.long v :: st) μ) : T p l e R s m args below meth c nL A ds D ad cA en x pc L (st) μ := fun r hr H locs ls hP hS hL => lv_lload C.1 C.2.1 hdg (lv_at hL j hj) (k r hr H locs ls hP hS hL)
theorem tt_aload_n (C : Cx p s m args meth c cc own nL A ds D ad cA E) (j : Nat) {n : Fin 4} {i : Nat} {v : Nat} (hdg : decode cc pc = .ok (.aload_n n, 1)) (hi : (n : Nat) = i) (hj : L[j]? = some (i, .ref v)) (k : T p l e R s m args below meth c nL A ds D ad cA en x (pc + 1) L (.ref v :: st) μ) : T p l e R s m args below meth c nL A ds D ad cA en x pc L (st) μ := fun r hr H locs ls hP hS hL => lv_aload_n C.1 C.2.1 hdg hi (lv_at hL j hj) (k r hr H locs ls hP hS hL)
theorem tt_aload (C : Cx p s m args meth c cc own nL A ds D ad cA E) (j : Nat) {i : Nat} {v : Nat} (hdg : decode cc pc = .ok (.aload i, 2)) (hj : L[j]? = some (i, .ref v)) (k : T p l e R s m args below meth c nL A ds D ad cA en x (pc + 2) L (.ref v :: st) μ) : T p l e R s m args below meth c nL A ds D ad cA en x pc L (st) μ := fun r hr H locs ls hP hS hL => lv_aload C.1 C.2.1 hdg (lv_at hL j hj) (k r hr H locs ls hP hS hL)
theorem tt_istore_n (C : Cx p s m args meth c cc own nL A ds D ad cA E) {n : Fin 4} {i : Nat} {v : Int32} {L2 : List (Nat × Value)} (hdg : decode cc pc = .ok (.istore_n n, 1)) (hi : (n : Nat) = i) (hn : i < nL) (hl : (i, Value.int v) :: L.filter (fun q => !(q.1 == i) && !(q.1 + 1 == i && q.2.category == 2)) = L2) (k : T p l e R s m args below meth c nL A ds D ad cA en x (pc + 1) L2 st μ) : T p l e R s m args below meth c nL A ds D ad cA en x pc L (.int v :: st) μ := fun r hr H locs ls hP hS hL => lv_istore_n C.1 C.2.1 hdg hi hL hn hl (fun ls2 hl2 => k r hr H locs ls2 hP hS hl2)
theorem tt_istore (C : Cx p s m args meth c cc own nL A ds D ad cA E) {i : Nat} {v : Int32} {L2 : List (Nat × Value)} (hdg : decode cc pc = .ok (.istore i, 2)) (hn : i < nL) (hl : (i, Value.int v) :: L.filter (fun q => !(q.1 == i) && !(q.1 + 1 == i && q.2.category == 2)) = L2) (k : T p l e R s m args below meth c nL A ds D ad cA en x (pc + 2) L2 st μ) : T p l e R s m args below meth c nL A ds D ad cA en x pc L (.int v :: st) μ := fun r hr H locs ls hP hS hL => lv_istore C.1 C.2.1 hdg hL hn hl (fun ls2 hl2 => k r hr H locs ls2 hP hS hl2)
theorem tt_astore_n (C : Cx p s m args meth c cc own nL A ds D ad cA E) {n : Fin 4} {i : Nat} {v : Nat} {L2 : List (Nat × Value)} (hdg : decode cc pc = .ok (.astore_n n, 1)) (hi : (n : Nat) = i) (hn : i < nL) (hl : (i, Value.ref v) :: L.filter (fun q => !(q.1 == i) && !(q.1 + 1 == i && q.2.category == 2)) = L2) (k : T p l e R s m args below meth c nL A ds D ad cA en x (pc + 1) L2 st μ) : T p l e R s m args below meth c nL A ds D ad cA en x pc L (.ref v :: st) μ := fun r hr H locs ls hP hS hL => lv_astore_n C.1 C.2.1 hdg hi hL hn hl (fun ls2 hl2 => k r hr H locs ls2 hP hS hl2)
theorem tt_astore (C : Cx p s m args meth c cc own nL A ds D ad cA E) {i : Nat} {v : Nat} {L2 : List (Nat × Value)} (hdg : decode cc pc = .ok (.astore i, 2)) (hn : i < nL) (hl : (i, Value.ref v) :: L.filter (fun q => !(q.1 == i) && !(q.1 + 1 == i && q.2.category == 2)) = L2) (k : T p l e R s m args below meth c nL A ds D ad cA en x (pc + 2) L2 st μ) : T p l e R s m args below meth c nL A ds D ad cA en x pc L (.ref v :: st) μ := fun r hr H locs ls hP hS hL => lv_astore C.1 C.2.1 hdg hL hn hl (fun ls2 hl2 => k r hr H locs ls2 hP hS hl2)
theorem tt_lstore_n (C : Cx p s m args meth c cc own nL A ds D ad cA E) {n : Fin 4} {i : Nat} {v : Int64} {L2 : List (Nat × Value)} (hdg : decode cc pc = .ok (.lstore_n n, 1)) (hi : (n : Nat) = i) (hn : i + 1 < nL) (hl : (i, Value.long v) :: L.filter (fun q => !(q.1 == i) && (!(q.1 == i + 1) && !(q.1 + 1 == i && q.2.category == 2))) = L2) (k : T p l e R s m args below meth c nL A ds D ad cA en x (pc + 1) L2 st μ) : T p l e R s m args below meth c nL A ds D ad cA en x pc L (.long v :: st) μ := fun r hr H locs ls hP hS hL => lv_lstore_n C.1 C.2.1 hdg hi hL hn hl (fun ls2 hl2 => k r hr H locs ls2 hP hS hl2)
theorem tt_lstore (C : Cx p s m args meth c cc own nL A ds D ad cA E) {i : Nat} {v : Int64} {L2 : List (Nat × Value)} (hdg : decode cc pc = .ok (.lstore i, 2)) (hn : i + 1 < nL) (hl : (i, Value.long v) :: L.filter (fun q => !(q.1 == i) && (!(q.1 == i + 1) && !(q.1 + 1 == i && q.2.category == 2))) = L2) (k : T p l e R s m args below meth c nL A ds D ad cA en x (pc + 2) L2 st μ) : T p l e R s m args below meth c nL A ds D ad cA en x pc L (.long v :: st) μ := fun r hr H locs ls hP hS hL => lv_lstore C.1 C.2.1 hdg hL hn hl (fun ls2 hl2 => k r hr H locs ls2 hP hS hl2)
theorem tt_iinc (C : Cx p s m args meth c cc own nL A ds D ad cA E) (j : Nat) {i : Nat} {n : Int} {y d v : Int32} {L2 : List (Nat × Value)} (hdg : decode cc pc = .ok (.iinc i n, 3)) (hj : L[j]? = some (i, .int y)) (hd : Int32.ofInt n = d) (hv : y + d = v) (hn : i < nL) (hl : (i, Value.int v) :: L.filter (fun q => !(q.1 == i) && !(q.1 + 1 == i && q.2.category == 2)) = L2) (k : T p l e R s m args below meth c nL A ds D ad cA en x (pc + 3) L2 st μ) : T p l e R s m args below meth c nL A ds D ad cA en x pc L st μ := fun r hr H locs ls hP hS hL => lv_iinc C.1 C.2.1 hdg hL hj (by rw [hd]; exact hv) hn hl (fun ls2 hl2 => k r hr H locs ls2 hP hS hl2)
theorem tt_iincB (C : Cx p s m args meth c cc own nL A ds D ad cA E) (j : Nat) {i : Nat} {n : Int} {y d : Int32} {g : Int32 → Option ρ} (L2 : Int32 → List (Nat × Value)) (hdg : decode cc pc = .ok (.iinc i n, 3)) (hj : L[j]? = some (i, .int y)) (hd : Int32.ofInt n = d) (hn : i < nL) (hl : ∀ v, (i, Value.int v) :: L.filter (fun q => !(q.1 == i) && !(q.1 + 1 == i && q.2.category == 2)) = L2 v) (k : ∀ v, T p l e R s m args below meth c nL A ds D ad cA en (g v) (pc + 3) (L2 v) st μ) : T p l e R s m args below meth c nL A ds D ad cA en (lb (y + d) g) pc L st μ := fun r hr H locs ls hP hS hL => lv_iinc C.1 C.2.1 hdg hL hj (by rw [hd]) hn (hl (y + d)) (fun ls2 hl2 => k (y + d) r hr H locs ls2 hP hS hl2)
theorem tt_iadd (C : Cx p s m args meth c cc own nL A ds D ad cA E) {x1 y1 : Int32} (hdg : decode cc pc = .ok (.iadd, 1)) (k : T p l e R s m args below meth c nL A ds D ad cA en x (pc + 1) L (.int (x1 + y1) :: st) μ) : T p l e R s m args below meth c nL A ds D ad cA en x pc L (.int y1 :: .int x1 :: st) μ := fun r hr H locs ls hP hS hL => lv_iadd C.1 C.2.1 hdg (k r hr H locs ls hP hS hL)
theorem tt_isub (C : Cx p s m args meth c cc own nL A ds D ad cA E) {x1 y1 : Int32} (hdg : decode cc pc = .ok (.isub, 1)) (k : T p l e R s m args below meth c nL A ds D ad cA en x (pc + 1) L (.int (x1 - y1) :: st) μ) : T p l e R s m args below meth c nL A ds D ad cA en x pc L (.int y1 :: .int x1 :: st) μ := fun r hr H locs ls hP hS hL => lv_isub C.1 C.2.1 hdg (k r hr H locs ls hP hS hL)
theorem tt_imul (C : Cx p s m args meth c cc own nL A ds D ad cA E) {x1 y1 : Int32} (hdg : decode cc pc = .ok (.imul, 1)) (k : T p l e R s m args below meth c nL A ds D ad cA en x (pc + 1) L (.int (x1 * y1) :: st) μ) : T p l e R s m args below meth c nL A ds D ad cA en x pc L (.int y1 :: .int x1 :: st) μ := fun r hr H locs ls hP hS hL => lv_imul C.1 C.2.1 hdg (k r hr H locs ls hP hS hL)
theorem tt_iand (C : Cx p s m args meth c cc own nL A ds D ad cA E) {x1 y1 : Int32} (hdg : decode cc pc = .ok (.iand, 1)) (k : T p l e R s m args below meth c nL A ds D ad cA en x (pc + 1) L (.int (x1 &&& y1) :: st) μ) : T p l e R s m args below meth c nL A ds D ad cA en x pc L (.int y1 :: .int x1 :: st) μ := fun r hr H locs ls hP hS hL => lv_iand C.1 C.2.1 hdg (k r hr H locs ls hP hS hL)
theorem tt_ior (C : Cx p s m args meth c cc own nL A ds D ad cA E) {x1 y1 : Int32} (hdg : decode cc pc = .ok (.ior, 1)) (k : T p l e R s m args below meth c nL A ds D ad cA en x (pc + 1) L (.int (x1 ||| y1) :: st) μ) : T p l e R s m args below meth c nL A ds D ad cA en x pc L (.int y1 :: .int x1 :: st) μ := fun r hr H locs ls hP hS hL => lv_ior C.1 C.2.1 hdg (k r hr H locs ls hP hS hL)
theorem tt_ixor (C : Cx p s m args meth c cc own nL A ds D ad cA E) {x1 y1 : Int32} (hdg : decode cc pc = .ok (.ixor, 1)) (k : T p l e R s m args below meth c nL A ds D ad cA en x (pc + 1) L (.int (x1 ^^^ y1) :: st) μ) : T p l e R s m args below meth c nL A ds D ad cA en x pc L (.int y1 :: .int x1 :: st) μ := fun r hr H locs ls hP hS hL => lv_ixor C.1 C.2.1 hdg (k r hr H locs ls hP hS hL)
theorem tt_ishl (C : Cx p s m args meth c cc own nL A ds D ad cA E) {x1 y1 : Int32} (hdg : decode cc pc = .ok (.ishl, 1)) (k : T p l e R s m args below meth c nL A ds D ad cA en x (pc + 1) L (.int (x1 <<< (y1 &&& 31)) :: st) μ) : T p l e R s m args below meth c nL A ds D ad cA en x pc L (.int y1 :: .int x1 :: st) μ := fun r hr H locs ls hP hS hL => lv_ishl C.1 C.2.1 hdg (k r hr H locs ls hP hS hL)
theorem tt_ishr (C : Cx p s m args meth c cc own nL A ds D ad cA E) {x1 y1 : Int32} (hdg : decode cc pc = .ok (.ishr, 1)) (k : T p l e R s m args below meth c nL A ds D ad cA en x (pc + 1) L (.int (x1 >>> (y1 &&& 31)) :: st) μ) : T p l e R s m args below meth c nL A ds D ad cA en x pc L (.int y1 :: .int x1 :: st) μ := fun r hr H locs ls hP hS hL => lv_ishr C.1 C.2.1 hdg (k r hr H locs ls hP hS hL)
def ush (x y : Int32) : Int32 := (x.toUInt32 >>> (y.toUInt32 &&& Int32.toUInt32 31)).toInt32
theorem tt_iushr (C : Cx p s m args meth c cc own nL A ds D ad cA E) {x1 y1 : Int32} (hdg : decode cc pc = .ok (.iushr, 1)) (k : T p l e R s m args below meth c nL A ds D ad cA en x (pc + 1) L (.int (ush x1 y1) :: st) μ) : T p l e R s m args below meth c nL A ds D ad cA en x pc L (.int y1 :: .int x1 :: st) μ := fun r hr H locs ls hP hS hL => lv_iushr C.1 C.2.1 hdg rfl (k r hr H locs ls hP hS hL)
def irm (x y : Int32) : Int32 := x - x / y * y
def lrm (x y : Int64) : Int64 := x - x / y * y
theorem tt_irem (C : Cx p s m args meth c cc own nL A ds D ad cA E) {x1 y1 : Int32} (h0 : ¬ y1 = 0) (hdg : decode cc pc = .ok (.irem, 1)) (k : T p l e R s m args below meth c nL A ds D ad cA en x (pc + 1) L (.int (irm x1 y1) :: st) μ) : T p l e R s m args below meth c nL A ds D ad cA en x pc L (.int y1 :: .int x1 :: st) μ := fun r hr H locs ls hP hS hL => lv_irem C.1 C.2.1 hdg h0 (k r hr H locs ls hP hS hL)
theorem tt_idiv (C : Cx p s m args meth c cc own nL A ds D ad cA E) {x1 y1 : Int32} (h0 : ¬ y1 = 0) (hdg : decode cc pc = .ok (.idiv, 1)) (k : T p l e R s m args below meth c nL A ds D ad cA en x (pc + 1) L (.int (x1 / y1) :: st) μ) : T p l e R s m args below meth c nL A ds D ad cA en x pc L (.int y1 :: .int x1 :: st) μ := fun r hr H locs ls hP hS hL => lv_idiv C.1 C.2.1 hdg h0 (k r hr H locs ls hP hS hL)
theorem tt_lrem (C : Cx p s m args meth c cc own nL A ds D ad cA E) {x1 y1 : Int64} (h0 : ¬ y1 = 0) (hdg : decode cc pc = .ok (.lrem, 1)) (k : T p l e R s m args below meth c nL A ds D ad cA en x (pc + 1) L (.long (lrm x1 y1) :: st) μ) : T p l e R s m args below meth c nL A ds D ad cA en x pc L (.long y1 :: .long x1 :: st) μ := fun r hr H locs ls hP hS hL => lv_lrem C.1 C.2.1 hdg h0 (k r hr H locs ls hP hS hL)
theorem tt_ldiv (C : Cx p s m args meth c cc own nL A ds D ad cA E) {x1 y1 : Int64} (h0 : ¬ y1 = 0) (hdg : decode cc pc = .ok (.ldiv, 1)) (k : T p l e R s m args below meth c nL A ds D ad cA en x (pc + 1) L (.long (x1 / y1) :: st) μ) : T p l e R s m args below meth c nL A ds D ad cA en x pc L (.long y1 :: .long x1 :: st) μ := fun r hr H locs ls hP hS hL => lv_ldiv C.1 C.2.1 hdg h0 (k r hr H locs ls hP hS hL)
theorem tt_ladd (C : Cx p s m args meth c cc own nL A ds D ad cA E) {x1 y1 : Int64} (hdg : decode cc pc = .ok (.ladd, 1)) (k : T p l e R s m args below meth c nL A ds D ad cA en x (pc + 1) L (.long (x1 + y1) :: st) μ) : T p l e R s m args below meth c nL A ds D ad cA en x pc L (.long y1 :: .long x1 :: st) μ := fun r hr H locs ls hP hS hL => lv_ladd C.1 C.2.1 hdg (k r hr H locs ls hP hS hL)
theorem tt_lmul (C : Cx p s m args meth c cc own nL A ds D ad cA E) {x1 y1 : Int64} (hdg : decode cc pc = .ok (.lmul, 1)) (k : T p l e R s m args below meth c nL A ds D ad cA en x (pc + 1) L (.long (x1 * y1) :: st) μ) : T p l e R s m args below meth c nL A ds D ad cA en x pc L (.long y1 :: .long x1 :: st) μ := fun r hr H locs ls hP hS hL => lv_lmul C.1 C.2.1 hdg (k r hr H locs ls hP hS hL)
theorem tt_lcmp (C : Cx p s m args meth c cc own nL A ds D ad cA E) {x1 y1 : Int64} (hdg : decode cc pc = .ok (.lcmp, 1)) (k : T p l e R s m args below meth c nL A ds D ad cA en x (pc + 1) L (.int (lg_cmp x1 y1) :: st) μ) : T p l e R s m args below meth c nL A ds D ad cA en x pc L (.long y1 :: .long x1 :: st) μ := fun r hr H locs ls hP hS hL => W.lcmp C.1 C.2.1 hdg (k r hr H locs ls hP hS hL)
theorem tt_i2l (C : Cx p s m args meth c cc own nL A ds D ad cA E) {x1 : Int32} (hdg : decode cc pc = .ok (.i2l, 1)) (k : T p l e R s m args below meth c nL A ds D ad cA en x (pc + 1) L (.long x1.toInt64 :: st) μ) : T p l e R s m args below meth c nL A ds D ad cA en x pc L (.int x1 :: st) μ := fun r hr H locs ls hP hS hL => lv_i2l C.1 C.2.1 hdg rfl (k r hr H locs ls hP hS hL)
theorem tt_i2b (C : Cx p s m args meth c cc own nL A ds D ad cA E) {x1 : Int32} (hdg : decode cc pc = .ok (.i2b, 1)) (k : T p l e R s m args below meth c nL A ds D ad cA en x (pc + 1) L (.int x1.toInt8.toInt32 :: st) μ) : T p l e R s m args below meth c nL A ds D ad cA en x pc L (.int x1 :: st) μ := fun r hr H locs ls hP hS hL => lv_i2b C.1 C.2.1 hdg rfl (k r hr H locs ls hP hS hL)
theorem tt_i2s (C : Cx p s m args meth c cc own nL A ds D ad cA E) {x1 : Int32} (hdg : decode cc pc = .ok (.i2s, 1)) (k : T p l e R s m args below meth c nL A ds D ad cA en x (pc + 1) L (.int x1.toInt16.toInt32 :: st) μ) : T p l e R s m args below meth c nL A ds D ad cA en x pc L (.int x1 :: st) μ := fun r hr H locs ls hP hS hL => lv_i2s C.1 C.2.1 hdg rfl (k r hr H locs ls hP hS hL)
theorem tt_dup (C : Cx p s m args meth c cc own nL A ds D ad cA E) {v : Value} (hdg : decode cc pc = .ok (.dup, 1)) (hc : v.category = 1) (k : T p l e R s m args below meth c nL A ds D ad cA en x (pc + 1) L (v :: v :: st) μ) : T p l e R s m args below meth c nL A ds D ad cA en x pc L (v :: st) μ := fun r hr H locs ls hP hS hL => lv_dup C.1 C.2.1 hdg hc (k r hr H locs ls hP hS hL)
theorem tt_dup2 (C : Cx p s m args meth c cc own nL A ds D ad cA E) {v w : Value} (hdg : decode cc pc = .ok (.dup2, 1)) (hc : v.category = 1) (hw : w.category = 1) (k : T p l e R s m args below meth c nL A ds D ad cA en x (pc + 1) L (v :: w :: v :: w :: st) μ) : T p l e R s m args below meth c nL A ds D ad cA en x pc L (v :: w :: st) μ := fun r hr H locs ls hP hS hL => lv_dup2_11 C.1 C.2.1 hdg hc hw (k r hr H locs ls hP hS hL)
theorem tt_pop (C : Cx p s m args meth c cc own nL A ds D ad cA E) {v : Value} (hdg : decode cc pc = .ok (.pop, 1)) (hc : v.category = 1) (k : T p l e R s m args below meth c nL A ds D ad cA en x (pc + 1) L (st) μ) : T p l e R s m args below meth c nL A ds D ad cA en x pc L (v :: st) μ := fun r hr H locs ls hP hS hL => lv_pop C.1 C.2.1 hdg hc (k r hr H locs ls hP hS hL)
theorem tt_goto (C : Cx p s m args meth c cc own nL A ds D ad cA E) {off : Int} {tgt : Nat} (hdg : decode cc pc = .ok (.goto off, 3)) (ht : (pc : Int) + off = (tgt : Int)) (k : T p l e R s m args below meth c nL A ds D ad cA en x tgt L st μ) : T p l e R s m args below meth c nL A ds D ad cA en x pc L st μ := fun r hr H locs ls hP hS hL => lv_goto C.1 C.2.1 hdg ht (k r hr H locs ls hP hS hL)
theorem tt_icmp_eqT (C : Cx p s m args meth c cc own nL A ds D ad cA E) {x1 y1 : Int32} {off : Int} {tgt : Nat} (h : x1 = y1) (hdg : decode cc pc = .ok (.if_icmp .eq off, 3)) (ht : (pc : Int) + off = (tgt : Int)) (k : T p l e R s m args below meth c nL A ds D ad cA en x tgt L st μ) : T p l e R s m args below meth c nL A ds D ad cA en x pc L (.int y1 :: .int x1 :: st) μ := fun r hr H locs ls hP hS hL => lv_icmp_eq C.1 C.2.1 hdg ht (fun _ => k r hr H locs ls hP hS hL) (fun n => absurd h n)
theorem tt_icmp_eqF (C : Cx p s m args meth c cc own nL A ds D ad cA E) {x1 y1 : Int32} {off : Int} (tgt : Nat) (h : ¬ (x1 = y1)) (hdg : decode cc pc = .ok (.if_icmp .eq off, 3)) (ht : (pc : Int) + off = (tgt : Int)) (k : T p l e R s m args below meth c nL A ds D ad cA en x (pc + 3) L st μ) : T p l e R s m args below meth c nL A ds D ad cA en x pc L (.int y1 :: .int x1 :: st) μ := fun r hr H locs ls hP hS hL => lv_icmp_eq C.1 C.2.1 hdg ht (fun n => absurd n h) (fun _ => k r hr H locs ls hP hS hL)
theorem tt_if_eqT (C : Cx p s m args meth c cc own nL A ds D ad cA E) {x1 : Int32} {off : Int} {tgt : Nat} (h : x1 = 0) (hdg : decode cc pc = .ok (.ifCond .eq off, 3)) (ht : (pc : Int) + off = (tgt : Int)) (k : T p l e R s m args below meth c nL A ds D ad cA en x tgt L st μ) : T p l e R s m args below meth c nL A ds D ad cA en x pc L (.int x1 :: st) μ := fun r hr H locs ls hP hS hL => lv_if_eq C.1 C.2.1 hdg ht (fun _ => k r hr H locs ls hP hS hL) (fun n => absurd h n)
theorem tt_if_eqF (C : Cx p s m args meth c cc own nL A ds D ad cA E) {x1 : Int32} {off : Int} (tgt : Nat) (h : ¬ (x1 = 0)) (hdg : decode cc pc = .ok (.ifCond .eq off, 3)) (ht : (pc : Int) + off = (tgt : Int)) (k : T p l e R s m args below meth c nL A ds D ad cA en x (pc + 3) L st μ) : T p l e R s m args below meth c nL A ds D ad cA en x pc L (.int x1 :: st) μ := fun r hr H locs ls hP hS hL => lv_if_eq C.1 C.2.1 hdg ht (fun n => absurd n h) (fun _ => k r hr H locs ls hP hS hL)
theorem tt_icmp_neT (C : Cx p s m args meth c cc own nL A ds D ad cA E) {x1 y1 : Int32} {off : Int} {tgt : Nat} (h : ¬ x1 = y1) (hdg : decode cc pc = .ok (.if_icmp .ne off, 3)) (ht : (pc : Int) + off = (tgt : Int)) (k : T p l e R s m args below meth c nL A ds D ad cA en x tgt L st μ) : T p l e R s m args below meth c nL A ds D ad cA en x pc L (.int y1 :: .int x1 :: st) μ := fun r hr H locs ls hP hS hL => lv_icmp_ne C.1 C.2.1 hdg ht (fun _ => k r hr H locs ls hP hS hL) (fun n => absurd n h)
theorem tt_icmp_neF (C : Cx p s m args meth c cc own nL A ds D ad cA E) {x1 y1 : Int32} {off : Int} (tgt : Nat) (h : x1 = y1) (hdg : decode cc pc = .ok (.if_icmp .ne off, 3)) (ht : (pc : Int) + off = (tgt : Int)) (k : T p l e R s m args below meth c nL A ds D ad cA en x (pc + 3) L st μ) : T p l e R s m args below meth c nL A ds D ad cA en x pc L (.int y1 :: .int x1 :: st) μ := fun r hr H locs ls hP hS hL => lv_icmp_ne C.1 C.2.1 hdg ht (fun n => absurd h n) (fun _ => k r hr H locs ls hP hS hL)
theorem tt_if_neT (C : Cx p s m args meth c cc own nL A ds D ad cA E) {x1 : Int32} {off : Int} {tgt : Nat} (h : ¬ x1 = 0) (hdg : decode cc pc = .ok (.ifCond .ne off, 3)) (ht : (pc : Int) + off = (tgt : Int)) (k : T p l e R s m args below meth c nL A ds D ad cA en x tgt L st μ) : T p l e R s m args below meth c nL A ds D ad cA en x pc L (.int x1 :: st) μ := fun r hr H locs ls hP hS hL => lv_if_ne C.1 C.2.1 hdg ht (fun _ => k r hr H locs ls hP hS hL) (fun n => absurd n h)
theorem tt_if_neF (C : Cx p s m args meth c cc own nL A ds D ad cA E) {x1 : Int32} {off : Int} (tgt : Nat) (h : x1 = 0) (hdg : decode cc pc = .ok (.ifCond .ne off, 3)) (ht : (pc : Int) + off = (tgt : Int)) (k : T p l e R s m args below meth c nL A ds D ad cA en x (pc + 3) L st μ) : T p l e R s m args below meth c nL A ds D ad cA en x pc L (.int x1 :: st) μ := fun r hr H locs ls hP hS hL => lv_if_ne C.1 C.2.1 hdg ht (fun n => absurd h n) (fun _ => k r hr H locs ls hP hS hL)
theorem tt_icmp_ltT (C : Cx p s m args meth c cc own nL A ds D ad cA E) {x1 y1 : Int32} {off : Int} {tgt : Nat} (h : x1 < y1) (hdg : decode cc pc = .ok (.if_icmp .lt off, 3)) (ht : (pc : Int) + off = (tgt : Int)) (k : T p l e R s m args below meth c nL A ds D ad cA en x tgt L st μ) : T p l e R s m args below meth c nL A ds D ad cA en x pc L (.int y1 :: .int x1 :: st) μ := fun r hr H locs ls hP hS hL => lv_icmp_lt C.1 C.2.1 hdg ht (fun _ => k r hr H locs ls hP hS hL) (fun n => absurd h n)
theorem tt_icmp_ltF (C : Cx p s m args meth c cc own nL A ds D ad cA E) {x1 y1 : Int32} {off : Int} (tgt : Nat) (h : ¬ (x1 < y1)) (hdg : decode cc pc = .ok (.if_icmp .lt off, 3)) (ht : (pc : Int) + off = (tgt : Int)) (k : T p l e R s m args below meth c nL A ds D ad cA en x (pc + 3) L st μ) : T p l e R s m args below meth c nL A ds D ad cA en x pc L (.int y1 :: .int x1 :: st) μ := fun r hr H locs ls hP hS hL => lv_icmp_lt C.1 C.2.1 hdg ht (fun n => absurd n h) (fun _ => k r hr H locs ls hP hS hL)
theorem tt_if_ltT (C : Cx p s m args meth c cc own nL A ds D ad cA E) {x1 : Int32} {off : Int} {tgt : Nat} (h : x1 < 0) (hdg : decode cc pc = .ok (.ifCond .lt off, 3)) (ht : (pc : Int) + off = (tgt : Int)) (k : T p l e R s m args below meth c nL A ds D ad cA en x tgt L st μ) : T p l e R s m args below meth c nL A ds D ad cA en x pc L (.int x1 :: st) μ := fun r hr H locs ls hP hS hL => lv_if_lt C.1 C.2.1 hdg ht (fun _ => k r hr H locs ls hP hS hL) (fun n => absurd h n)
theorem tt_if_ltF (C : Cx p s m args meth c cc own nL A ds D ad cA E) {x1 : Int32} {off : Int} (tgt : Nat) (h : ¬ (x1 < 0)) (hdg : decode cc pc = .ok (.ifCond .lt off, 3)) (ht : (pc : Int) + off = (tgt : Int)) (k : T p l e R s m args below meth c nL A ds D ad cA en x (pc + 3) L st μ) : T p l e R s m args below meth c nL A ds D ad cA en x pc L (.int x1 :: st) μ := fun r hr H locs ls hP hS hL => lv_if_lt C.1 C.2.1 hdg ht (fun n => absurd n h) (fun _ => k r hr H locs ls hP hS hL)
theorem tt_icmp_geT (C : Cx p s m args meth c cc own nL A ds D ad cA E) {x1 y1 : Int32} {off : Int} {tgt : Nat} (h : y1 ≤ x1) (hdg : decode cc pc = .ok (.if_icmp .ge off, 3)) (ht : (pc : Int) + off = (tgt : Int)) (k : T p l e R s m args below meth c nL A ds D ad cA en x tgt L st μ) : T p l e R s m args below meth c nL A ds D ad cA en x pc L (.int y1 :: .int x1 :: st) μ := fun r hr H locs ls hP hS hL => lv_icmp_ge C.1 C.2.1 hdg ht (fun _ => k r hr H locs ls hP hS hL) (fun n => absurd h n)
theorem tt_icmp_geF (C : Cx p s m args meth c cc own nL A ds D ad cA E) {x1 y1 : Int32} {off : Int} (tgt : Nat) (h : ¬ (y1 ≤ x1)) (hdg : decode cc pc = .ok (.if_icmp .ge off, 3)) (ht : (pc : Int) + off = (tgt : Int)) (k : T p l e R s m args below meth c nL A ds D ad cA en x (pc + 3) L st μ) : T p l e R s m args below meth c nL A ds D ad cA en x pc L (.int y1 :: .int x1 :: st) μ := fun r hr H locs ls hP hS hL => lv_icmp_ge C.1 C.2.1 hdg ht (fun n => absurd n h) (fun _ => k r hr H locs ls hP hS hL)
theorem tt_if_geT (C : Cx p s m args meth c cc own nL A ds D ad cA E) {x1 : Int32} {off : Int} {tgt : Nat} (h : 0 ≤ x1) (hdg : decode cc pc = .ok (.ifCond .ge off, 3)) (ht : (pc : Int) + off = (tgt : Int)) (k : T p l e R s m args below meth c nL A ds D ad cA en x tgt L st μ) : T p l e R s m args below meth c nL A ds D ad cA en x pc L (.int x1 :: st) μ := fun r hr H locs ls hP hS hL => lv_if_ge C.1 C.2.1 hdg ht (fun _ => k r hr H locs ls hP hS hL) (fun n => absurd h n)
theorem tt_if_geF (C : Cx p s m args meth c cc own nL A ds D ad cA E) {x1 : Int32} {off : Int} (tgt : Nat) (h : ¬ (0 ≤ x1)) (hdg : decode cc pc = .ok (.ifCond .ge off, 3)) (ht : (pc : Int) + off = (tgt : Int)) (k : T p l e R s m args below meth c nL A ds D ad cA en x (pc + 3) L st μ) : T p l e R s m args below meth c nL A ds D ad cA en x pc L (.int x1 :: st) μ := fun r hr H locs ls hP hS hL => lv_if_ge C.1 C.2.1 hdg ht (fun n => absurd n h) (fun _ => k r hr H locs ls hP hS hL)
theorem tt_icmp_gtT (C : Cx p s m args meth c cc own nL A ds D ad cA E) {x1 y1 : Int32} {off : Int} {tgt : Nat} (h : y1 < x1) (hdg : decode cc pc = .ok (.if_icmp .gt off, 3)) (ht : (pc : Int) + off = (tgt : Int)) (k : T p l e R s m args below meth c nL A ds D ad cA en x tgt L st μ) : T p l e R s m args below meth c nL A ds D ad cA en x pc L (.int y1 :: .int x1 :: st) μ := fun r hr H locs ls hP hS hL => lv_icmp_gt C.1 C.2.1 hdg ht (fun _ => k r hr H locs ls hP hS hL) (fun n => absurd h n)
theorem tt_icmp_gtF (C : Cx p s m args meth c cc own nL A ds D ad cA E) {x1 y1 : Int32} {off : Int} (tgt : Nat) (h : ¬ (y1 < x1)) (hdg : decode cc pc = .ok (.if_icmp .gt off, 3)) (ht : (pc : Int) + off = (tgt : Int)) (k : T p l e R s m args below meth c nL A ds D ad cA en x (pc + 3) L st μ) : T p l e R s m args below meth c nL A ds D ad cA en x pc L (.int y1 :: .int x1 :: st) μ := fun r hr H locs ls hP hS hL => lv_icmp_gt C.1 C.2.1 hdg ht (fun n => absurd n h) (fun _ => k r hr H locs ls hP hS hL)
theorem tt_if_gtT (C : Cx p s m args meth c cc own nL A ds D ad cA E) {x1 : Int32} {off : Int} {tgt : Nat} (h : 0 < x1) (hdg : decode cc pc = .ok (.ifCond .gt off, 3)) (ht : (pc : Int) + off = (tgt : Int)) (k : T p l e R s m args below meth c nL A ds D ad cA en x tgt L st μ) : T p l e R s m args below meth c nL A ds D ad cA en x pc L (.int x1 :: st) μ := fun r hr H locs ls hP hS hL => lv_if_gt C.1 C.2.1 hdg ht (fun _ => k r hr H locs ls hP hS hL) (fun n => absurd h n)
theorem tt_if_gtF (C : Cx p s m args meth c cc own nL A ds D ad cA E) {x1 : Int32} {off : Int} (tgt : Nat) (h : ¬ (0 < x1)) (hdg : decode cc pc = .ok (.ifCond .gt off, 3)) (ht : (pc : Int) + off = (tgt : Int)) (k : T p l e R s m args below meth c nL A ds D ad cA en x (pc + 3) L st μ) : T p l e R s m args below meth c nL A ds D ad cA en x pc L (.int x1 :: st) μ := fun r hr H locs ls hP hS hL => lv_if_gt C.1 C.2.1 hdg ht (fun n => absurd n h) (fun _ => k r hr H locs ls hP hS hL)
theorem tt_icmp_leT (C : Cx p s m args meth c cc own nL A ds D ad cA E) {x1 y1 : Int32} {off : Int} {tgt : Nat} (h : x1 ≤ y1) (hdg : decode cc pc = .ok (.if_icmp .le off, 3)) (ht : (pc : Int) + off = (tgt : Int)) (k : T p l e R s m args below meth c nL A ds D ad cA en x tgt L st μ) : T p l e R s m args below meth c nL A ds D ad cA en x pc L (.int y1 :: .int x1 :: st) μ := fun r hr H locs ls hP hS hL => lv_icmp_le C.1 C.2.1 hdg ht (fun _ => k r hr H locs ls hP hS hL) (fun n => absurd h n)
theorem tt_icmp_leF (C : Cx p s m args meth c cc own nL A ds D ad cA E) {x1 y1 : Int32} {off : Int} (tgt : Nat) (h : ¬ (x1 ≤ y1)) (hdg : decode cc pc = .ok (.if_icmp .le off, 3)) (ht : (pc : Int) + off = (tgt : Int)) (k : T p l e R s m args below meth c nL A ds D ad cA en x (pc + 3) L st μ) : T p l e R s m args below meth c nL A ds D ad cA en x pc L (.int y1 :: .int x1 :: st) μ := fun r hr H locs ls hP hS hL => lv_icmp_le C.1 C.2.1 hdg ht (fun n => absurd n h) (fun _ => k r hr H locs ls hP hS hL)
theorem tt_if_leT (C : Cx p s m args meth c cc own nL A ds D ad cA E) {x1 : Int32} {off : Int} {tgt : Nat} (h : x1 ≤ 0) (hdg : decode cc pc = .ok (.ifCond .le off, 3)) (ht : (pc : Int) + off = (tgt : Int)) (k : T p l e R s m args below meth c nL A ds D ad cA en x tgt L st μ) : T p l e R s m args below meth c nL A ds D ad cA en x pc L (.int x1 :: st) μ := fun r hr H locs ls hP hS hL => lv_if_le C.1 C.2.1 hdg ht (fun _ => k r hr H locs ls hP hS hL) (fun n => absurd h n)
theorem tt_if_leF (C : Cx p s m args meth c cc own nL A ds D ad cA E) {x1 : Int32} {off : Int} (tgt : Nat) (h : ¬ (x1 ≤ 0)) (hdg : decode cc pc = .ok (.ifCond .le off, 3)) (ht : (pc : Int) + off = (tgt : Int)) (k : T p l e R s m args below meth c nL A ds D ad cA en x (pc + 3) L st μ) : T p l e R s m args below meth c nL A ds D ad cA en x pc L (.int x1 :: st) μ := fun r hr H locs ls hP hS hL => lv_if_le C.1 C.2.1 hdg ht (fun n => absurd n h) (fun _ => k r hr H locs ls hP hS hL)
theorem tt_tabIn (C : Cx p s m args meth c cc own nL A ds D ad cA E) {dflt lo hi : Int} {offs : Array Int} {len : Nat} {x1 y1 : Int32} {off a : Int} {tgt : Nat} (h : x1 = y1) (hy : y1.toInt = a) (h1 : lo ≤ a) (h2 : a ≤ hi) (hdg : decode cc pc = .ok (.tableswitch dflt lo hi offs, len)) (ho : offs[(a - lo).toNat]? = some off) (ht : (pc : Int) + off = (tgt : Int)) (k : T p l e R s m args below meth c nL A ds D ad cA en x tgt L st μ) : T p l e R s m args below meth c nL A ds D ad cA en x pc L (.int x1 :: st) μ := by
  subst h; subst hy
  exact fun r hr H locs ls hP hS hL => lv_tableIn C.1 C.2.1 hdg (by omega) (by omega) ho ht (k r hr H locs ls hP hS hL)
theorem tt_tabOut (C : Cx p s m args meth c cc own nL A ds D ad cA E) {dflt lo hi : Int} {offs : Array Int} {len : Nat} {x1 : Int32} {tgt : Nat} (h : x1.toInt < lo ∨ hi < x1.toInt) (hdg : decode cc pc = .ok (.tableswitch dflt lo hi offs, len)) (ht : (pc : Int) + dflt = (tgt : Int)) (k : T p l e R s m args below meth c nL A ds D ad cA en x tgt L st μ) : T p l e R s m args below meth c nL A ds D ad cA en x pc L (.int x1 :: st) μ := fun r hr H locs ls hP hS hL => lv_tableOut C.1 C.2.1 hdg h ht (k r hr H locs ls hP hS hL)
theorem tt_look (C : Cx p s m args meth c cc own nL A ds D ad cA E) {dflt : Int} {ps : Array (Int × Int)} {len : Nat} {x1 : Int32} {off : Int} {tgt : Nat} (hdg : decode cc pc = .ok (.lookupswitch dflt ps, len)) (hp : (ps.toList.zip (ps.toList.drop 1)).all (fun (a, next) => a.1 < next.1) = true) (ho : Op.lookupswitch.offset ps.toList dflt x1.toInt = off) (ht : (pc : Int) + off = (tgt : Int)) (k : T p l e R s m args below meth c nL A ds D ad cA en x tgt L st μ) : T p l e R s m args below meth c nL A ds D ad cA en x pc L (.int x1 :: st) μ := fun r hr H locs ls hP hS hL => lv_lookup C.1 C.2.1 hdg hp ho ht (k r hr H locs ls hP hS hL)
/-! fields -/
/-- the pool's number names field j of the world's class t -/
def FL (own : String) (index t j : Nat) : Prop := ∃ (Cn : String) (Tb : u_T) (N : Nat) (ty : Nat → FieldType), vwCl[t]? = some (Cn, Tb, N) ∧ j < N ∧ (∀ w ∈ u_ws Cn Tb N, w ∈ GW) ∧ (∀ k, k < N → parseFieldDescriptor (Tb k).2.2.1 = some (ty k)) ∧ (∀ a, a < N → ∀ b, b < N → a ≠ b → (Tb a).2.1 ≠ (Tb b).2.1) ∧ (Tb j).1 = Cn ∧ Cond.fieldLink own index Cn (Tb j).2.1 (Tb j).2.2.1 ∈ GW
def FLw (t j : Nat) (ty : FieldType) : Prop := ∃ (Cn : String) (Tb : u_T) (N : Nat), vwCl[t]? = some (Cn, Tb, N) ∧ (Tb j).2.2.2 = false ∧ parseFieldDescriptor (Tb j).2.2.1 = some ty
theorem tt_getI (C : Cx p s m args meth c cc own nL A ds D ad cA E) {k t n index j : Nat} {fl : List (Option Nat)} (hd : ds[k]? = some (t + 5, n, fl)) (hj : fl[j]? = some none) (hf : FL own index t j) (hdg : decode cc pc = .ok (.getfield index, 3)) (kk : T p l e R s m args below meth c nL A ds D ad cA en x (pc + 3) L (.int (μ k j) :: st) μ) : T p l e R s m args below meth c nL A ds D ad cA en x pc L (.ref (ad k) :: st) μ := by
  obtain ⟨Cn, Tb, N, ty, h1, h2, h3, h4, h5, h6, h7⟩ := hf
  intro r hr H locs ls hP hS hL
  refine va_get (D := D) (ci := t) (v := .int (μ k j)) (C := Cn) (T := Tb) (N := N) C.1 C.2.1 C.2.2.2.2.1 h3 C.2.2.2.1 C.2.2.2.2.2.1 hP k (wd_get hd) h1 j h2 (C.2.2.2.2.1 _ h7) (fun _ h9 => by rw [h6] at h9; exact h9) ?_ hdg (kk r hr H locs ls hP hS hL)
  rw [dsF_get, hj]
  simp
theorem tt_getR (C : Cx p s m args meth c cc own nL A ds D ad cA E) {k t n index j r0 : Nat} {fl : List (Option Nat)} (hd : ds[k]? = some (t + 5, n, fl)) (hj : fl[j]? = some (some r0)) (hf : FL own index t j) (hdg : decode cc pc = .ok (.getfield index, 3)) (kk : T p l e R s m args below meth c nL A ds D ad cA en x (pc + 3) L (.ref (ad r0) :: st) μ) : T p l e R s m args below meth c nL A ds D ad cA en x pc L (.ref (ad k) :: st) μ := by
  obtain ⟨Cn, Tb, N, ty, h1, h2, h3, h4, h5, h6, h7⟩ := hf
  intro r hr H locs ls hP hS hL
  refine va_get (D := D) (ci := t) (v := .ref (ad r0)) (C := Cn) (T := Tb) (N := N) C.1 C.2.1 C.2.2.2.2.1 h3 C.2.2.2.1 C.2.2.2.2.2.1 hP k (wd_get hd) h1 j h2 (C.2.2.2.2.1 _ h7) (fun _ h9 => by rw [h6] at h9; exact h9) ?_ hdg (kk r hr H locs ls hP hS hL)
  rw [dsF_get, hj]
  simp
theorem tt_putX (C : Cx p s m args meth c cc own nL A ds D ad cA E) {k t n index j : Nat} {ty : FieldType} {v : Int32} {fl : List (Option Nat)} (hd : ds[k]? = some (t + 5, n, fl)) (hj : fl[j]? = some none) (hf : FL own index t j) (hw : FLw t j ty) (hn : narrow ty (.int v) = .int v) (hfit : fits ty (.int v) = true) (hdg : decode cc pc = .ok (.putfield index, 3)) (kk : T p l e R s m args below meth c nL A ds D ad cA en x (pc + 3) L st (wr μ k j v)) : T p l e R s m args below meth c nL A ds D ad cA en x pc L (.int v :: .ref (ad k) :: st) μ := by
  obtain ⟨Cn, Tb, N, ty0, h1, h2, h3, h4, h5, h6, h7⟩ := hf
  obtain ⟨Cn', Tb', N', g1, g2, g3⟩ := hw
  have e := Option.some.inj (g1.symm.trans h1)
  cases e
  intro r hr H locs ls hP hS hL
  refine va_put (D := D) (ci := t) (v := .int v) (ty := ty) (C := Cn) (T := Tb) (N := N) C.1 C.2.1 C.2.2.2.2.1 h3 ty0 h4 h5 C.2.2.2.1 C.2.2.2.2.2.1 hP (C.2.2.2.2.2.2.2.1.1 μ) hS k (wd_get hd) h1 j h2 (C.2.2.2.2.1 _ h7) (fun _ h9 => by rw [h6] at h9; exact h9) g2 g3 hn hfit ?_ hdg (fun H1 locs1 hP1 _ hS1 => kk r hr H1 locs1 ls ?_ hS1 hL)
  · have := dsF_get ad μ k fl 0 j
    rw [hj] at this
    exact (List.getElem?_eq_some_iff.mp this).1
  · rw [← wd_set hd (μ := μ) (fun a b h => wr_ne h)]
    show va_P D vwCl ((wd ad cA ds μ).set k (ad k, .inr (t, dsF ad (wr μ k j v) k 0 fl))) H1
    rw [← dsF_put hj]
    exact hP1
theorem tt_putI (C : Cx p s m args meth c cc own nL A ds D ad cA E) {k t n index j : Nat} {v : Int32} {fl : List (Option Nat)} (hd : ds[k]? = some (t + 5, n, fl)) (hj : fl[j]? = some none) (hf : FL own index t j) (hw : FLw t j .int) (hdg : decode cc pc = .ok (.putfield index, 3)) (kk : T p l e R s m args below meth c nL A ds D ad cA en x (pc + 3) L st (wr μ k j v)) : T p l e R s m args below meth c nL A ds D ad cA en x pc L (.int v :: .ref (ad k) :: st) μ := tt_putX C hd hj hf hw rfl rfl hdg kk
theorem tt_putZ (C : Cx p s m args meth c cc own nL A ds D ad cA E) {k t n index j : Nat} {v : Int32} {fl : List (Option Nat)} (hd : ds[k]? = some (t + 5, n, fl)) (hj : fl[j]? = some none) (hf : FL own index t j) (hw : FLw t j .boolean) (hz : v = 0 ∨ v = 1) (hdg : decode cc pc = .ok (.putfield index, 3)) (kk : T p l e R s m args below meth c nL A ds D ad cA en x (pc + 3) L st (wr μ k j v)) : T p l e R s m args below meth c nL A ds D ad cA en x pc L (.int v :: .ref (ad k) :: st) μ := tt_putX C hd hj hf hw (by rcases hz with rfl | rfl <;> decide) (by rcases hz with rfl | rfl <;> decide) hdg kk
/-! arrays -/
theorem tt_iald (C : Cx p s m args meth c cc own nL A ds D ad cA E) {k n : Nat} {fl : List (Option Nat)} {i : Int32} (hd : ds[k]? = some (0, n, fl)) (hin : inr i n) (hdg : decode cc pc = .ok (.iaload, 1)) (kk : T p l e R s m args below meth c nL A ds D ad cA en x (pc + 1) L (.int (μ k i.toNatClampNeg) :: st) μ) : T p l e R s m args below meth c nL A ds D ad cA en x pc L (.int i :: .ref (ad k) :: st) μ := fun r hr H locs ls hP hS hL => va_iald C.1 C.2.1 C.2.2.2.2.2.1 hP k 0 (wd_get hd) rfl hin hdg (kk r hr H locs ls hP hS hL)
theorem tt_iast (C : Cx p s m args meth c cc own nL A ds D ad cA E) {k n : Nat} {fl : List (Option Nat)} {i v : Int32} (hd : ds[k]? = some (0, n, fl)) (hin : inr i n) (hdg : decode cc pc = .ok (.iastore, 1)) (kk : T p l e R s m args below meth c nL A ds D ad cA en x (pc + 1) L st (wr μ k i.toNatClampNeg v)) : T p l e R s m args below meth c nL A ds D ad cA en x pc L (.int v :: .int i :: .ref (ad k) :: st) μ := fun r hr H locs ls hP hS hL => va_iast C.1 C.2.1 C.2.2.2.2.2.1 hP (C.2.2.2.2.2.2.2.1.1 μ) hS k 0 (wd_get hd) rfl hin hdg (fun H1 locs1 hP1 _ hS1 => kk r hr H1 locs1 ls (by
  rw [← wd_set hd (μ := μ) (fun a b h => wr_ne h)]
  show va_P D vwCl ((wd ad cA ds μ).set k (ad k, .inl (cA 0, n, .inl (wr μ k i.toNatClampNeg v k)))) H1
  rw [wr_row]
  exact hP1) hS1 hL)
theorem tt_bald (C : Cx p s m args meth c cc own nL A ds D ad cA E) {k n : Nat} {fl : List (Option Nat)} {i : Int32} (hd : ds[k]? = some (1, n, fl)) (hin : inr i n) (hdg : decode cc pc = .ok (.baload, 1)) (kk : T p l e R s m args below meth c nL A ds D ad cA en x (pc + 1) L (.int (μ k i.toNatClampNeg) :: st) μ) : T p l e R s m args below meth c nL A ds D ad cA en x pc L (.int i :: .ref (ad k) :: st) μ := fun r hr H locs ls hP hS hL => va_bald C.1 C.2.1 C.2.2.2.2.2.1 hP k 1 (wd_get hd) rfl hin hdg (kk r hr H locs ls hP hS hL)
theorem tt_bast (C : Cx p s m args meth c cc own nL A ds D ad cA E) {k n : Nat} {fl : List (Option Nat)} {i v : Int32} (hd : ds[k]? = some (1, n, fl)) (hin : inr i n) (hdg : decode cc pc = .ok (.bastore, 1)) (kk : T p l e R s m args below meth c nL A ds D ad cA en x (pc + 1) L st (wr μ k i.toNatClampNeg v.toInt8.toInt32)) : T p l e R s m args below meth c nL A ds D ad cA en x pc L (.int v :: .int i :: .ref (ad k) :: st) μ := fun r hr H locs ls hP hS hL => va_bast C.1 C.2.1 C.2.2.2.2.2.1 hP (C.2.2.2.2.2.2.2.1.1 μ) hS k 1 (wd_get hd) rfl hin hdg (fun H1 locs1 hP1 _ hS1 => kk r hr H1 locs1 ls (by
  rw [← wd_set hd (μ := μ) (fun a b h => wr_ne h)]
  show va_P D vwCl ((wd ad cA ds μ).set k (ad k, .inl (cA 1, n, .inl (wr μ k i.toNatClampNeg v.toInt8.toInt32 k)))) H1
  rw [wr_row]
  exact hP1) hS1 hL)
theorem tt_zald (C : Cx p s m args meth c cc own nL A ds D ad cA E) {k n : Nat} {fl : List (Option Nat)} {i : Int32} (hd : ds[k]? = some (2, n, fl)) (hin : inr i n) (hdg : decode cc pc = .ok (.baload, 1)) (kk : T p l e R s m args below meth c nL A ds D ad cA en x (pc + 1) L (.int (μ k i.toNatClampNeg) :: st) μ) : T p l e R s m args below meth c nL A ds D ad cA en x pc L (.int i :: .ref (ad k) :: st) μ := fun r hr H locs ls hP hS hL => va_zald C.1 C.2.1 C.2.2.2.2.2.1 hP k 2 (wd_get hd) rfl hin hdg (kk r hr H locs ls hP hS hL)
theorem tt_zast (C : Cx p s m args meth c cc own nL A ds D ad cA E) {k n : Nat} {fl : List (Option Nat)} {i v : Int32} (hd : ds[k]? = some (2, n, fl)) (hin : inr i n) (hdg : decode cc pc = .ok (.bastore, 1)) (kk : T p l e R s m args below meth c nL A ds D ad cA en x (pc + 1) L st (wr μ k i.toNatClampNeg (vp_nar .boolean v))) : T p l e R s m args below meth c nL A ds D ad cA en x pc L (.int v :: .int i :: .ref (ad k) :: st) μ := fun r hr H locs ls hP hS hL => va_zast C.1 C.2.1 C.2.2.2.2.2.1 hP (C.2.2.2.2.2.2.2.1.1 μ) hS k 2 (wd_get hd) rfl hin hdg (fun H1 locs1 hP1 _ hS1 => kk r hr H1 locs1 ls (by
  rw [← wd_set hd (μ := μ) (fun a b h => wr_ne h)]
  show va_P D vwCl ((wd ad cA ds μ).set k (ad k, .inl (cA 2, n, .inl (wr μ k i.toNatClampNeg (vp_nar .boolean v) k)))) H1
  rw [wr_row]
  exact hP1) hS1 hL)
theorem tt_alen (C : Cx p s m args meth c cc own nL A ds D ad cA E) {k n : Nat} {fl : List (Option Nat)} {v : Int32} (hd : ds[k]? = some (0, n, fl)) (hv : Int32.ofNat n = v) (hdg : decode cc pc = .ok (.arraylength, 1)) (kk : T p l e R s m args below meth c nL A ds D ad cA en x (pc + 1) L (.int v :: st) μ) : T p l e R s m args below meth c nL A ds D ad cA en x pc L (.ref (ad k) :: st) μ := fun r hr H locs ls hP hS hL => va_alen C.1 C.2.1 C.2.2.2.2.2.1 hP k 0 (wd_get hd) rfl hv hdg (kk r hr H locs ls hP hS hL)
theorem tt_aald (C : Cx p s m args meth c cc own nL A ds D ad cA E) {k n r0 : Nat} {fl : List (Option Nat)} {i : Int32} (hd : ds[k]? = some (3, n, fl)) (hin : inr i n) (hr0 : fl.getD i.toNatClampNeg none = some r0) (hdg : decode cc pc = .ok (.aaload, 1)) (kk : T p l e R s m args below meth c nL A ds D ad cA en x (pc + 1) L (.ref (ad r0) :: st) μ) : T p l e R s m args below meth c nL A ds D ad cA en x pc L (.int i :: .ref (ad k) :: st) μ := fun r hr H locs ls hP hS hL => va_aldq C.1 C.2.1 C.2.2.2.2.2.1 hP k 3 (wd_get hd) rfl hin hdg (by rw [hr0]; exact kk r hr H locs ls hP hS hL)
theorem tt_gald (C : Cx p s m args meth c cc own nL A ds D ad cA E) {k n r0 : Nat} {fl : List (Option Nat)} {i : Int32} (hd : ds[k]? = some (4, n, fl)) (hin : inr i n) (hr0 : fl.getD i.toNatClampNeg none = some r0) (hdg : decode cc pc = .ok (.aaload, 1)) (kk : T p l e R s m args below meth c nL A ds D ad cA en x (pc + 1) L (.ref (ad r0) :: st) μ) : T p l e R s m args below meth c nL A ds D ad cA en x pc L (.int i :: .ref (ad k) :: st) μ := by
  intro r hr H locs ls hP hS hL
  have hlt : i.toNatClampNeg < n := Nat.not_le.mp fun q => hin (Or.inr q)
  refine W.aald (v := va_rf ((fl.getD i.toNatClampNeg none).map ad)) (ty := .array .int) C.1 C.2.1 (hP k _ (wd_get hd)) ((C.2.2.2.2.2.1.2 4 _ rfl).1 n (fun j => va_rf ((fl.getD j none).map ad))) rfl (fun q => by cases q) (by show ¬ (i < 0 ∨ (arrV _ _ _).slots.size ≤ _); rw [arrV_size]; exact hin) (by show (arrV _ _ _).slots[_]? = _; rw [arrV_read _ _ hlt]) rfl rfl hdg ?_
  rw [hr0]
  exact kk r hr H locs ls hP hS hL
/-! returns -/
theorem tt_iret {en : Int32 × Mem → Option Value × Mem} (he : en = enI) (C : Cx p s m args meth c cc own nL A ds D ad cA E) {v : Int32} (hr : meth.sig.returnType = some .int) (hdg : decode cc pc = .ok (.ireturn, 1)) : T p l e R s m args below meth c nL A ds D ad cA en (some (v, μ)) pc L [.int v] μ := by
  subst he
  intro r h H locs ls hP hS hL
  cases h
  have hlocks : meth.locks = false := C.2.2.2.2.2.2.2.2.1
  exact W.iret C.1 C.2.1 hr (fun t ht hW => ⟨rfl, by rw [ht]; exact hP, hS.F ht⟩) hS.2.2 hdg hlocks
theorem tt_zret {en : Int32 × Mem → Option Value × Mem} (he : en = enI) (C : Cx p s m args meth c cc own nL A ds D ad cA E) {v : Int32} (hr : meth.sig.returnType = some .boolean) (hz : v = 0 ∨ v = 1) (hdg : decode cc pc = .ok (.ireturn, 1)) : T p l e R s m args below meth c nL A ds D ad cA en (some (v, μ)) pc L [.int v] μ := by
  subst he
  intro r h H locs ls hP hS hL
  cases h
  have hlocks : meth.locks = false := C.2.2.2.2.2.2.2.2.1
  exact W.zret C.1 C.2.1 hr (by rcases hz with rfl | rfl <;> decide) (fun t ht hW => ⟨rfl, by rw [ht]; exact hP, hS.F ht⟩) hS.2.2 hdg hlocks
theorem tt_lret {en : Int64 × Mem → Option Value × Mem} (he : en = enL) (C : Cx p s m args meth c cc own nL A ds D ad cA E) {v : Int64} (hr : meth.sig.returnType = some .long) (hdg : decode cc pc = .ok (.lreturn, 1)) : T p l e R s m args below meth c nL A ds D ad cA en (some (v, μ)) pc L [.long v] μ := by
  subst he
  intro r h H locs ls hP hS hL
  cases h
  have hlocks : meth.locks = false := C.2.2.2.2.2.2.2.2.1
  exact W.lret C.1 C.2.1 hr (fun t ht hW => ⟨rfl, by rw [ht]; exact hP, hS.F ht⟩) hS.2.2 hdg hlocks
theorem tt_vret {en : Mem → Option Value × Mem} (he : en = enV) (C : Cx p s m args meth c cc own nL A ds D ad cA E) (hr : meth.sig.returnType = none) (hdg : decode cc pc = .ok (.return_, 1)) : T p l e R s m args below meth c nL A ds D ad cA en (some μ) pc L [] μ := by
  subst he
  intro r h H locs ls hP hS hL
  cases h
  have hlocks : meth.locks = false := C.2.2.2.2.2.2.2.2.1
  exact W.vret C.1 C.2.1 hr (fun t ht hW => ⟨rfl, by rw [ht]; exact hP, hS.F ht⟩) hS.2.2 hdg hlocks
/-! calls -/
/-- behind a call: the world is the callee's, all else stays -/
theorem tt_run {rr : Option Value × Mem} {a : Array Value} {st0 : List Value}
    (hr : ∀ (H : Heap) (locs : List Loc) (ls : Array Slot), ls.size = nL → va_P D vwCl (wd ad cA ds μ) H → va_S A s.heap H locs → va_Run p l e R s m args below meth c H locs 0 0 0 0 (F0 m pc ls st0) st (Qm D ad cA ds A rr a) A)
    (kk : T p l e R s m args below meth c nL A ds D ad cA en x (pc + 3) L (rr.1.toList ++ st) rr.2) : T p l e R s m args below meth c nL A ds D ad cA en x pc L st0 μ := by
  intro r hx H locs ls hP hS hL T0 hT X
  obtain ⟨v, st₀, t, T', Ls, h0, X', hLs, e1, e2, ⟨hv, hP1, hz, hk⟩, stp⟩ := hr H locs ls hL.1 hP hS T0 hT X
  cases hv
  rw [h0] at hz hk
  obtain ⟨t2, a1, b1⟩ := kk r hx T'.heap (locs ++ Ls) ls (by rw [e1]; exact hP1)
    ⟨Nat.le_trans hS.1 (by rw [e1]; exact hz), fun q h1 h2 => by rw [e1, hk q (Nat.lt_of_lt_of_le h1 hS.1) h2]; exact hS.2.1 q h1 h2, fun q hq => by
      rcases List.mem_append.mp hq with h | h
      · exact hS.2.2 q h
      · exact hLs q h⟩ hL T' rfl X'
  exact ⟨t2, stp t2 a1, b1⟩
theorem ct_blind {av : List Value} (h1 : E1 E) : FrameBlind (va_Pc av (fun U => (∀ q : Nat, U.heap.size ≤ q → A q) ∧ va_P D vwCl (wd ad cA ds μ) U.heap ∧ va_K D vwCl (tysl cA) U ∧ E U)) := by
  intro a U g mk q
  obtain ⟨q0, q1, qP, qK, qE⟩ := q
  exact ⟨q0, q1, qP, va_K.moved (u := U) (U := U.calling g mk a) (Vm.Alike.refl U.vm) qK, h1 U _ qE rfl rfl⟩
theorem ct_pre {av : List Value} (C : Cx p s m args meth c cc own nL A ds D ad cA E) {H : Heap} {locs : List Loc} (hP : va_P D vwCl (wd ad cA ds μ) H) (hS : va_S A s.heap H locs) : ∀ U : State, U.heap = H → s.WarmedH U.vm → va_Pc av (fun U => (∀ q : Nat, U.heap.size ≤ q → A q) ∧ va_P D vwCl (wd ad cA ds μ) U.heap ∧ va_K D vwCl (tysl cA) U ∧ E U) av.toArray U := by
  intro U hU hW
  refine ⟨rfl, fun q hq => C.2.2.2.2.2.2.1 q (Nat.le_trans hS.1 (by rw [hU] at hq; exact hq)), by rw [hU]; exact hP, va_K.moved hW.alike C.2.2.2.2.2.1, ?_⟩
  exact C.2.2.2.2.2.2.2.1.2.2 s U C.2.2.2.2.2.2.2.2.2 hW (fun q h1 h2 => by rw [hU]; exact hS.2.1 q h1 h2)
def MI (y : MethodName) (bytes : ByteArray) (maxL : Nat) (ret : Option FieldType) (n : Nat) : Prop := Cond.code y bytes maxL ret ∈ GW ∧ Cond.initialized y.cls ∈ GW ∧ (y.cls ≠ "java/lang/invoke/MethodHandle" ∧ y.cls ≠ "java/lang/invoke/VarHandle" ∧ (parseMethodDescriptor y.desc).map (fun d => d.parameters.length) = some n) ∧ maxL ≤ 13
theorem gw_cons {w : Cond} (h : w ∈ GW) : GoodIn GW (w :: GW) := fun v hv => by
  rcases List.mem_cons.mp hv with rfl | hv
  · exact ⟨h, gw_good h⟩
  · exact ⟨hv, gw_good hv⟩
theorem ct_B {y : MethodName} {bytes : ByteArray} {maxL n index d : Nat} {ret : Option FieldType} (C : Cx p s m args meth c cc own nL A ds D ad cA E) (hm : MI y bytes maxL ret n) (hl : Cond.methodLink own index y ∈ GW) (hR1 : d + 1 ≤ R.frames) (hR2 : 32 * (d + 1) ≤ R.locals) : CallB R s args own index y bytes maxL ret (.code y bytes maxL ret :: GW) (rmD d) 0 0 n :=
  callB_of n C.2.2.2.2.1 (gw_cons hm.1) rfl rfl rfl (C.2.2.2.2.1 _ hm.2.1) (C.2.2.2.2.1 _ hl) hm.2.2.1 ⟨hR1, by have := hm.2.2.2; show 8 + (maxL + 11) + 32 * d ≤ R.locals; omega⟩
theorem tt_callV (C : Cx p s m args meth c cc own nL A ds D ad cA E) {y : MethodName} {bytes : ByteArray} {maxL n index d k t nf : Nat} {ret : Option FieldType} {fl : List (Option Nat)} {q : vw_C} {As : List Value} {rr : Option Value × Mem} (hct : Ct l A ds D ad cA E y bytes maxL ret d (.ref (ad k) :: As) μ rr) (hm : MI y bytes maxL ret n) (hl : Cond.methodLink own index y ∈ GW) (hi : Cond.instanceMethod y ∈ GW) (hs : Cond.selects q.1 y y ∈ GW) (hd : ds[k]? = some (t + 5, nf, fl)) (hc : vwCl[t]? = some q) (hn : As.length = n) (hR1 : d + 1 ≤ R.frames) (hR2 : 32 * (d + 1) ≤ R.locals) (hst : (st.map fun v => v.category).sum ≤ 8) (hdg : decode cc pc = .ok (.invokevirtual index, 3)) (kk : T p l e R s m args below meth c nL A ds D ad cA en x (pc + 3) L (rr.1.toList ++ st) rr.2) : T p l e R s m args below meth c nL A ds D ad cA en x pc L (As.reverse ++ .ref (ad k) :: st) μ :=
  tt_run (fun H locs ls hz hP hS => va_runV (C := q.1) (As := As) (rest := st) ⟨C.1, C.2.1, C.2.2.1, C.2.2.2.1, C.2.2.2.2.1⟩ hct ⟨ct_B C hm hl hR1 hR2, C.2.2.2.2.1 _ hi, C.2.2.2.2.1 _ hs⟩ ⟨ct_blind C.2.2.2.2.2.2.2.1.2.1, va_recv C.2.2.2.2.2.1 hP hc (wd_get hd), ct_pre C hP hS⟩ rfl hn hz rfl (lv_room hst) hdg ⟨Nat.zero_le _, Nat.zero_le _⟩) kk
theorem tt_callS (C : Cx p s m args meth c cc own nL A ds D ad cA E) {y : MethodName} {bytes : ByteArray} {maxL n index d : Nat} {ret : Option FieldType} {As : List Value} {rr : Option Value × Mem} (hct : Ct l A ds D ad cA E y bytes maxL ret d As μ rr) (hm : MI y bytes maxL ret n) (hl : Cond.methodLink own index y ∈ GW) (hi : Cond.static y ∈ GW) (hn : As.length = n) (hR1 : d + 1 ≤ R.frames) (hR2 : 32 * (d + 1) ≤ R.locals) (hst : (st.map fun v => v.category).sum ≤ 8) (hdg : decode cc pc = .ok (.invokestatic index, 3)) (kk : T p l e R s m args below meth c nL A ds D ad cA en x (pc + 3) L (rr.1.toList ++ st) rr.2) : T p l e R s m args below meth c nL A ds D ad cA en x pc L (As.reverse ++ st) μ :=
  tt_run (fun H locs ls hz hP hS => va_runS (As := As) (rest := st) ⟨C.1, C.2.1, C.2.2.1, C.2.2.2.1, C.2.2.2.2.1⟩ hct ⟨ct_B C hm hl hR1 hR2, C.2.2.2.2.1 _ hi⟩ ⟨ct_blind C.2.2.2.2.2.2.2.1.2.1, ct_pre C hP hS⟩ rfl hn hz rfl (lv_room hst) hdg ⟨Nat.zero_le _, Nat.zero_le _⟩) kk
theorem tt_callSN (C : Cx p s m args meth c cc own nL A ds D ad cA E) {host : String} {y : MethodName} {bytes : ByteArray} {maxL n index d : Nat} {ret : Option FieldType} {As : List Value} {rr : Option Value × Mem} (hct : Ct l A ds D ad cA E y bytes maxL ret d As μ rr) (hm : MI y bytes maxL ret n) (hl : va_Nw (.methodLinkNest own index y host) s) (hi : Cond.static y ∈ GW) (hn : As.length = n) (hR1 : d + 1 ≤ R.frames) (hR2 : 32 * (d + 1) ≤ R.locals) (hst : (st.map fun v => v.category).sum ≤ 8) (hdg : decode cc pc = .ok (.invokestatic index, 3)) (kk : T p l e R s m args below meth c nL A ds D ad cA en x (pc + 3) L (rr.1.toList ++ st) rr.2) : T p l e R s m args below meth c nL A ds D ad cA en x pc L (As.reverse ++ st) μ :=
  tt_run (fun H locs ls hz hP hS => va_runSN (As := As) (rest := st) ⟨C.1, C.2.1, C.2.2.1, C.2.2.2.1, C.2.2.2.2.1⟩ hct ⟨va_cnB n C.2.2.2.2.1 (gw_cons hm.1) rfl rfl rfl hl (C.2.2.2.2.1 _ hm.2.1) hm.2.2.1 ⟨hR1, by have := hm.2.2.2; show 8 + (maxL + 11) + 32 * d ≤ R.locals; omega⟩, C.2.2.2.2.1 _ hi, trivial⟩ ⟨ct_blind C.2.2.2.2.2.2.2.1.2.1, ct_pre C hP hS⟩ rfl hn hz rfl (lv_room hst) hdg ⟨Nat.zero_le _, Nat.zero_le _⟩) kk
def cpOk (sp dp n : Int32) (n0 n1 : Nat) : Prop := ¬ sp < 0 ∧ ¬ dp < 0 ∧ ¬ n < 0 ∧ sp.toNatClampNeg + n.toNatClampNeg ≤ n0 ∧ dp.toNatClampNeg + n.toNatClampNeg ≤ n1
theorem tt_copy (C : Cx p s m args meth c cc own nL A ds D ad cA E) {k1 k2 n0 n1 index : Nat} {f1 f2 : List (Option Nat)} {sp dp n : Int32} (hl : Cond.methodLink own index arraycopyName ∈ GW) (hnat : Cond.native arraycopyName ∈ GW) (hstat : Cond.static arraycopyName ∈ GW) (hini : Cond.initialized "java/lang/System" ∈ GW) (hd1 : ds[k1]? = some (0, n0, f1)) (hd2 : ds[k2]? = some (0, n1, f2)) (hok : cpOk sp dp n n0 n1) (hR1 : 1 ≤ R.frames) (hR2 : 31 ≤ R.locals) (hst : (st.map fun v => v.category).sum ≤ 8) (hdg : decode cc pc = .ok (.invokestatic index, 3)) (kk : T p l e R s m args below meth c nL A ds D ad cA en x (pc + 3) L st (wrA μ k2 (va_cpy (μ k1) (μ k2) sp.toNatClampNeg dp.toNatClampNeg n.toNatClampNeg))) : T p l e R s m args below meth c nL A ds D ad cA en x pc L (.int n :: .int dp :: .ref (ad k2) :: .int sp :: .ref (ad k1) :: st) μ := by
  intro r hr H locs ls hP hS hL
  refine va_copyi C.1 C.2.1 (C.2.2.1.trans hL.1.symm) C.2.2.2.1 (C.2.2.2.2.1 _ hl) (C.2.2.2.2.1 _ hnat) (C.2.2.2.2.1 _ hstat) (C.2.2.2.2.1 _ hini) C.2.2.2.2.2.1 hP (C.2.2.2.2.2.2.2.1.1 μ) hS k1 k2 0 0 (ty := .int) (wd_get hd1) (wd_get hd2) rfl rfl rfl hok.1 hok.2.1 hok.2.2.1 hok.2.2.2.1 hok.2.2.2.2 (fun _ _ => rfl) hR1 ?_ hdg (fun H1 locs1 hP1 _ hS1 => kk r hr H1 locs1 ls ?_ hS1 hL)
  · have : nativeFrameWords "java/lang/System" "arraycopy" 5 + 11 ≤ 23 := by decide
    omega
  · rw [← wd_set hd2 (μ := μ) (fun a b h => wrA_ne h)]
    show va_P D vwCl ((wd ad cA ds μ).set k2 (ad k2, .inl (cA 0, n1, .inl (wrA μ k2 (va_cpy (μ k1) (μ k2) sp.toNatClampNeg dp.toNatClampNeg n.toNatClampNeg) k2)))) H1
    rw [wrA_row]
    exact hP1
end TR
def FU : Nat := 4000
