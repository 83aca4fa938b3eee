def mX0 : Mem := fun a => match a with
  | 3 => fun j => match j with
    | 6 => 10
    | _ => 0
  | 8 => fun j => match j with
    | 6 => 10
    | _ => 0
  | 13 => fun j => match j with
    | 6 => 10
    | _ => 0
  | 18 => fun j => match j with
    | 6 => 10
    | _ => 0
  | 43 => (fl [-1, -1, -1, -1])
  | _ => fun _ => 0
def mM0 : Mem := fun a => match a with
  | 12 => (fl [0, 4, 6, 10, 15, 19, 24, 28, 33, 38, 42, 45, 49, 57])
  | 13 => (fl [114, 111, 97, 100, 117, 112, 100, 111, 119, 110, 111, 114, 100, 101, 114, 112, 117, 115, 104, 115, 116, 97, 114, 116, 112, 97, 99, 107, 114, 111, 117, 110, 100, 112, 108, 97, 105, 110, 101, 103, 103, 115, 105, 99, 101, 115, 111, 100, 97, 112, 97, 114, 97, 102, 102, 105, 110])
  | 17 => (fl [-4, -4, -4, -4])
  | _ => fun _ => 0
def sTm (i : Nat) : Term := .string RX1 (sIx.getD i 0)
def sFl : List Cond := flatC (Jvm.Cond.and given_1 narrow_1)
theorem sN1 : ∀ i, i < 13 → Cond.exactly (sTm i) "java/lang/String" ∈ sFl := by decide +kernel
theorem sN2 : ∀ i, i < 13 → Cond.eq (.field (sTm i) "java/lang/String" "coder" "B") (.int 0) ∈ sFl := by decide +kernel
theorem sN3 : ∀ i, i < 13 → Cond.arrayOf (.field (sTm i) "java/lang/String" "value" "[B") .byte ∈ sFl := by decide +kernel
theorem sN4 : ∀ i, i < 13 → Cond.eq (.length (.field (sTm i) "java/lang/String" "value" "[B")) (.int (Int32.ofNat (sLen.getD i 0))) ∈ sFl := by decide +kernel
theorem sN5 : ∀ i, i < 13 → ∀ j, j < sLen.getD i 0 → Cond.eq (.elem (.field (sTm i) "java/lang/String" "value" "[B") (.int (Int32.ofNat j))) (.int ((sByt.getD i []).getD j 0)) ∈ sFl := by decide +kernel
theorem sN6_1 : ∀ i, i < 1 → Cond.not (Cond.eq (sTm i) (sTm 1)) ∈ sFl := by decide +kernel
theorem sN6_2 : ∀ i, i < 2 → Cond.not (Cond.eq (sTm i) (sTm 2)) ∈ sFl := by decide +kernel
theorem sN6_3 : ∀ i, i < 3 → Cond.not (Cond.eq (sTm i) (sTm 3)) ∈ sFl := by decide +kernel
theorem sN6_4 : ∀ i, i < 4 → Cond.not (Cond.eq (sTm i) (sTm 4)) ∈ sFl := by decide +kernel
theorem sN6_5 : ∀ i, i < 5 → Cond.not (Cond.eq (sTm i) (sTm 5)) ∈ sFl := by decide +kernel
theorem sN6_6 : ∀ i, i < 6 → Cond.not (Cond.eq (sTm i) (sTm 6)) ∈ sFl := by decide +kernel
theorem sN6_7 : ∀ i, i < 7 → Cond.not (Cond.eq (sTm i) (sTm 7)) ∈ sFl := by decide +kernel
theorem sN6_8 : ∀ i, i < 8 → Cond.not (Cond.eq (sTm i) (sTm 8)) ∈ sFl := by decide +kernel
theorem sN6_9 : ∀ i, i < 9 → Cond.not (Cond.eq (sTm i) (sTm 9)) ∈ sFl := by decide +kernel
theorem sN6_10 : ∀ i, i < 10 → Cond.not (Cond.eq (sTm i) (sTm 10)) ∈ sFl := by decide +kernel
theorem sN6_11 : ∀ i, i < 11 → Cond.not (Cond.eq (sTm i) (sTm 11)) ∈ sFl := by decide +kernel
theorem sN6_12 : ∀ i, i < 12 → Cond.not (Cond.eq (sTm i) (sTm 12)) ∈ sFl := by decide +kernel
theorem sN6 : ∀ j, j < 13 → ∀ i, i < j → Cond.not (Cond.eq (sTm i) (sTm j)) ∈ sFl
  | 0, _ => fun i h => absurd h (Nat.not_lt_zero i)
  | 1, _ => sN6_1
  | 2, _ => sN6_2
  | 3, _ => sN6_3
  | 4, _ => sN6_4
  | 5, _ => sN6_5
  | 6, _ => sN6_6
  | 7, _ => sN6_7
  | 8, _ => sN6_8
  | 9, _ => sN6_9
  | 10, _ => sN6_10
  | 11, _ => sN6_11
  | 12, _ => sN6_12
  | j + 13, h => absurd h (by omega)
theorem sN7 : Cond.eq (.static "java/lang/String" "COMPACT_STRINGS" "Z") (.int 1) ∈ sFl := by decide +kernel
theorem sN8 : Cond.isRef (.static "jdk/internal/util/Preconditions" "SIOOBE_FORMATTER" "Ljava/util/function/BiFunction;") ∈ sFl := by decide +kernel
theorem sR : ∀ i, i < 13 → Cond.stringRef RX1 (sIx.getD i 0) (sTx.getD i "") ∈ lw_tbl := by decide +kernel
theorem tO_3 : Cond.arrayOver (.object "BasketRound$Shop") ∈ lw_tbl := List.mem_of_getElem? (i := 318) (by decide +kernel)
theorem tO_4 : Cond.arrayOver (.array .int) ∈ lw_tbl := List.mem_of_getElem? (i := 326) (by decide +kernel)
theorem tS_COMPACT_STRINGS : Cond.laysStatic "java/lang/String" "COMPACT_STRINGS" "Z" ∈ lw_tbl := List.mem_of_getElem? (i := 429) (by decide +kernel)
theorem tS_SIOOBE_FORMATTER : Cond.laysStatic "jdk/internal/util/Preconditions" "SIOOBE_FORMATTER" "Ljava/util/function/BiFunction;" ∈ lw_tbl := List.mem_of_getElem? (i := 445) (by decide +kernel)
theorem tI_str : Cond.initialized "java/lang/String" ∈ lw_tbl := List.mem_of_getElem? (i := 72) (by decide +kernel)
theorem tI_pre : Cond.initialized "jdk/internal/util/Preconditions" ∈ lw_tbl := List.mem_of_getElem? (i := 74) (by decide +kernel)
theorem tN_RX7_9 : Cond.methodLinkNest RX7 9 yX5_init "BasketRound" ∈ lw_tbl := List.mem_of_getElem? (i := 90) (by decide +kernel)
theorem tN_RX7_18 : Cond.methodLinkNest RX7 18 yX4_init "BasketRound" ∈ lw_tbl := List.mem_of_getElem? (i := 107) (by decide +kernel)
theorem tN_RX7_43 : Cond.methodLinkNest RX7 43 yX0_init "BasketRound" ∈ lw_tbl := List.mem_of_getElem? (i := 277) (by decide +kernel)
theorem tN_RX7_50 : Cond.methodLinkNest RX7 50 yX2_init "BasketRound" ∈ lw_tbl := List.mem_of_getElem? (i := 303) (by decide +kernel)
theorem tN_RX7_65 : Cond.methodLinkNest RX7 65 yX3_init "BasketRound" ∈ lw_tbl := List.mem_of_getElem? (i := 321) (by decide +kernel)
theorem tN_RX1_11 : Cond.methodLinkNest RX1 11 yX4_init "BasketRound" ∈ lw_tbl := List.mem_of_getElem? (i := 163) (by decide +kernel)
theorem tN_RX1_186 : Cond.methodLinkNest RX1 186 yX7_within "BasketRound" ∈ lw_tbl := List.mem_of_getElem? (i := 480) (by decide +kernel)
theorem tN_RX1_163 : Cond.methodLinkNest RX1 163 yX7_leastOf "BasketRound" ∈ lw_tbl := List.mem_of_getElem? (i := 501) (by decide +kernel)
theorem tN_RX1_167 : Cond.methodLinkNest RX1 167 yX7_mostOf "BasketRound" ∈ lw_tbl := List.mem_of_getElem? (i := 504) (by decide +kernel)
theorem clL_7 : Cond.classLink RL 7 RX7 ∈ GW := gw_of 80 (by decide +kernel) (by decide +kernel)
theorem clL_10 : Cond.classLink RL 10 RX8 ∈ GW := gw_of 891 (by decide +kernel) (by decide +kernel)
theorem mlL_9 : Cond.methodLink RL 9 yX7_init ∈ GW := gw_of 82 (by decide +kernel) (by decide +kernel)
theorem mlL_12 : Cond.methodLink RL 12 yX8_init ∈ GW := gw_of 893 (by decide +kernel) (by decide +kernel)
theorem wd_D {ad : Nat → Nat} {cA : Nat → ClassId} {ds : List dsE} {n sz : Nat} (hn : ds.length = n) (hi : ∀ i j : Nat, i < n → j < n → ad i = ad j → i = j) (μ : Mem) : va_D (lwA sz ad n) (wd ad cA ds μ) := by
  have key : ∀ (k : Nat) (q : Nat × va_E), (wd ad cA ds μ)[k]? = some q → k < n ∧ q.1 = ad k := by
    intro k q hq
    rw [wd, wdF_get] at hq
    cases hd : ds[k]? with
    | none => rw [hd] at hq; cases hq
    | some d =>
      rw [hd] at hq
      cases hq
      exact ⟨by rw [← hn]; exact (List.getElem?_eq_some_iff.mp hd).1, by rw [Nat.zero_add]⟩
  refine ⟨fun i j p q h1 h2 h3 => ?_, fun k q h => ?_⟩
  · obtain ⟨a1, b1⟩ := key i p h1
    obtain ⟨a2, b2⟩ := key j q h2
    exact hi i j a1 a2 (by rw [← b1, ← b2]; exact h3)
  · obtain ⟨a1, b1⟩ := key k q h
    exact Or.inl ⟨k, a1, b1⟩
/-- the addresses of a world's list are apart -/
theorem as_inj {A : Nat → Prop} {l : va_W} {as : List Nat} (hm : l.map (fun q => q.1) = as) (hD : va_D A l) : ∀ i j : Nat, i < as.length → j < as.length → as.getD i 0 = as.getD j 0 → i = j := by
  have key : ∀ i : Nat, i < as.length → ∃ q, l[i]? = some q ∧ q.1 = as.getD i 0 := by
    intro i hi
    have hl : i < l.length := by rw [← hm] at hi; simpa using hi
    refine ⟨l[i], List.getElem?_eq_getElem hl, ?_⟩
    rw [← hm]
    simp [List.getD, List.getElem?_map, List.getElem?_eq_getElem hl]
  intro i j hi hj h
  obtain ⟨p, h1, h2⟩ := key i hi
  obtain ⟨q, h3, h4⟩ := key j hj
  exact hD.1 i j p q h1 h3 (by rw [h2, h4]; exact h)
theorem as_in {A : Nat → Prop} {l : va_W} {as : List Nat} (hm : l.map (fun q => q.1) = as) (hD : va_D A l) : ∀ i : Nat, i < as.length → A (as.getD i 0) := by
  intro i hi
  have hl : i < l.length := by rw [← hm] at hi; simpa using hi
  have := hD.2 i l[i] (List.getElem?_eq_getElem hl)
  rw [← hm]
  simpa [List.getD, List.getElem?_map, List.getElem?_eq_getElem hl] using this
theorem as_lt {D : va_G} {l : va_W} {as : List Nat} {H : Heap} (hm : l.map (fun q => q.1) = as) (hP : va_P D vwCl l H) : ∀ i : Nat, i < as.length → as.getD i 0 < H.size := by
  intro i hi
  have hl : i < l.length := by rw [← hm] at hi; simpa using hi
  have := (hP i l[i] (List.getElem?_eq_getElem hl)).lt
  rw [← hm]
  simpa [List.getD, List.getElem?_map, List.getElem?_eq_getElem hl] using this
def pX : List Nat := [0, 1, 2, 3, 4, 5, 6, 7, 25, 26, 27, 28, 29, 30, 31, 32, 33, 34, 9, 10, 11, 12, 13, 8, 14, 15, 16, 17, 18, 19, 20, 21, 22, 23, 24, 35, 36, 37, 38, 39, 40, 41, 42, 43]
theorem pX_lt : ∀ k, k < 44 → pX.getD k 0 < 44 := by decide
theorem pX_inj : ∀ i, i < 44 → ∀ j, j < 44 → pX.getD i 0 = pX.getD j 0 → i = j := by decide +kernel
def mkX (as : List Nat) (adK adV : Nat → Nat) (qS : Nat) : Nat → Nat := fun k => if k < 1000 then as.getD (pX.getD k 0) 0 else if k < 2000 then adK (k - 1000) else if k < 3000 then adV (k - 2000) else qS
def mkM (as : List Nat) : Nat → Nat := fun k => as.getD (44 + k) 0
theorem ref2 (a b : Nat) : va_up (va_up (fun _ => none) 0 (some a)) 1 (some b) = (fun i => (([some a, some b] : List (Option Nat)).getD i none)) := by
  funext i
  match i with
  | 0 => rfl
  | 1 => rfl
  | i + 2 => rfl
theorem ref4 (a b c d : Nat) : (fun i => if i < 4 then some (if i = 0 then a else if i = 1 then b else if i = 2 then c else d) else none) = (fun i => (([some a, some b, some c, some d] : List (Option Nat)).getD i none)) := by
  funext i
  match i with
  | 0 => rfl
  | 1 => rfl
  | 2 => rfl
  | 3 => rfl
  | i + 4 => rw [if_neg (by omega)]; rfl
theorem map2 (ad : Nat → Nat) (r1 r2 : Nat) : (fun i => (([some r1, some r2] : List (Option Nat)).getD i none).map ad) = (fun i => (([some (ad r1), some (ad r2)] : List (Option Nat)).getD i none)) := by
  funext i
  match i with
  | 0 => rfl
  | 1 => rfl
  | i + 2 => rfl
theorem map4 (ad : Nat → Nat) (r1 r2 r3 r4 : Nat) : (fun i => (([some r1, some r2, some r3, some r4] : List (Option Nat)).getD i none).map ad) = (fun i => (([some (ad r1), some (ad r2), some (ad r3), some (ad r4)] : List (Option Nat)).getD i none)) := by
  funext i
  match i with
  | 0 => rfl
  | 1 => rfl
  | 2 => rfl
  | 3 => rfl
  | i + 4 => rfl
set_option maxHeartbeats 8000000 in
set_option maxRecDepth 100000 in
theorem toX {cA : Nat → ClassId} (gx x0 x1 x2 x3 x4 x5 x6 x7 x8 x9 x10 x11 x12 x13 x14 x15 x16 x17 x18 x19 x20 x21 x22 x23 x24 x25 x26 x27 x28 x29 x30 x31 x32 x33 x34 x35 x36 x37 x38 x39 x40 x41 x42 gm m0 m1 m2 m3 m4 m5 m6 m7 m8 m9 m10 m11 m12 m13 m14 m15 m16 m17 m18 : Nat) (adK adV : Nat → Nat) (qS : Nat) : wd (mkX [gx, x0, x1, x2, x3, x4, x5, x6, x7, x8, x9, x10, x11, x12, x13, x14, x15, x16, x17, x18, x19, x20, x21, x22, x23, x24, x25, x26, x27, x28, x29, x30, x31, x32, x33, x34, x35, x36, x37, x38, x39, x40, x41, x42, gm, m0, m1, m2, m3, m4, m5, m6, m7, m8, m9, m10, m11, m12, m13, m14, m15, m16, m17, m18] adK adV qS) cA dsX mX0 = [(gx, .inr (7, [.ref x0, .ref x2, .ref x7, .ref x13, .ref x19, .ref x20, .ref x23, .ref x34, .ref x35, .int 0, .int 0])), (x0, .inr (5, [.ref x1, .int 0])), (x1, .inl (cA 1, 160, .inl (fun _ => 0))), (x2, .inr (4, [.ref x3, .ref x4, .ref x5, .ref x6, .int 0, .int 0, .int 10, .int 0])), (x3, .inl (cA 0, 12, .inl (fun _ => 0))), (x4, .inl (cA 0, 25, .inl (fun _ => 0))), (x5, .inl (cA 0, 5, .inl (fun _ => 0))), (x6, .inl (cA 0, 5, .inl (fun _ => 0))), (x24, .inr (4, [.ref x25, .ref x26, .ref x27, .ref x28, .int 0, .int 0, .int 10, .int 0])), (x25, .inl (cA 0, 12, .inl (fun _ => 0))), (x26, .inl (cA 0, 25, .inl (fun _ => 0))), (x27, .inl (cA 0, 5, .inl (fun _ => 0))), (x28, .inl (cA 0, 5, .inl (fun _ => 0))), (x29, .inr (4, [.ref x30, .ref x31, .ref x32, .ref x33, .int 0, .int 0, .int 10, .int 0])), (x30, .inl (cA 0, 12, .inl (fun _ => 0))), (x31, .inl (cA 0, 25, .inl (fun _ => 0))), (x32, .inl (cA 0, 5, .inl (fun _ => 0))), (x33, .inl (cA 0, 5, .inl (fun _ => 0))), (x8, .inr (4, [.ref x9, .ref x10, .ref x11, .ref x12, .int 0, .int 0, .int 10, .int 0])), (x9, .inl (cA 0, 12, .inl (fun _ => 0))), (x10, .inl (cA 0, 25, .inl (fun _ => 0))), (x11, .inl (cA 0, 5, .inl (fun _ => 0))), (x12, .inl (cA 0, 5, .inl (fun _ => 0))), (x7, .inr (1, [.ref x8, .ref x0, .int 0, .int 0, .int 0, .int 0, .int 0, .int 0, .int 0, .int 0, .int 0, .int 0])), (x13, .inr (6, [.ref x2, .ref x14, .ref x15, .ref x16, .ref x17, .ref x18, .int 0, .int 0, .int 0, .int 0, .int 0, .int 0, .int 0, .int 0, .int 0, .int 0, .int 0])), (x14, .inl (cA 0, 5, .inl (fun _ => 0))), (x15, .inl (cA 0, 5, .inl (fun _ => 0))), (x16, .inl (cA 0, 5, .inl (fun _ => 0))), (x17, .inl (cA 0, 5, .inl (fun _ => 0))), (x18, .inl (cA 0, 5, .inl (fun _ => 0))), (x19, .inr (0, [.int 0, .int 0, .int 0, .int 0, .int 0])), (x20, .inr (2, [.ref x21, .ref x22, .int 0])), (x21, .inl (cA 0, 6, .inl (fun _ => 0))), (x22, .inl (cA 0, 6, .inl (fun _ => 0))), (x23, .inl (cA 3, 2, .inr (.inr (.inr (.inr (fun i => (([some x24, some x29] : List (Option Nat)).getD i none))))))), (x34, .inl (cA 2, 2, .inl (fun _ => 0))), (x35, .inr (3, [.ref x36, .ref x41, .ref x42])), (x36, .inl (cA 4, 4, .inr (.inr (.inr (.inr (fun i => (([some x37, some x38, some x39, some x40] : List (Option Nat)).getD i none))))))), (x37, .inl (cA 0, 40, .inl (fun _ => 0))), (x38, .inl (cA 0, 40, .inl (fun _ => 0))), (x39, .inl (cA 0, 40, .inl (fun _ => 0))), (x40, .inl (cA 0, 40, .inl (fun _ => 0))), (x41, .inl (cA 0, 4, .inl (fun _ => 0))), (x42, .inl (cA 0, 4, .inl (fl [-1, -1, -1, -1])))] := by
  show wdF _ _ _ 0 dsX = _
  simp only [dsX, wdF, dsC, dsF, map2, map4]
  rfl
set_option maxHeartbeats 8000000 in
set_option maxRecDepth 100000 in
theorem toM {cA : Nat → ClassId} (gx x0 x1 x2 x3 x4 x5 x6 x7 x8 x9 x10 x11 x12 x13 x14 x15 x16 x17 x18 x19 x20 x21 x22 x23 x24 x25 x26 x27 x28 x29 x30 x31 x32 x33 x34 x35 x36 x37 x38 x39 x40 x41 x42 gm m0 m1 m2 m3 m4 m5 m6 m7 m8 m9 m10 m11 m12 m13 m14 m15 m16 m17 m18 : Nat) : wd (mkM [gx, x0, x1, x2, x3, x4, x5, x6, x7, x8, x9, x10, x11, x12, x13, x14, x15, x16, x17, x18, x19, x20, x21, x22, x23, x24, x25, x26, x27, x28, x29, x30, x31, x32, x33, x34, x35, x36, x37, x38, x39, x40, x41, x42, gm, m0, m1, m2, m3, m4, m5, m6, m7, m8, m9, m10, m11, m12, m13, m14, m15, m16, m17, m18]) cA dsM mM0 = [(gm, .inr (8, [.ref m0, .ref m1, .ref m2, .int 0, .ref m3, .int 0, .ref m4, .ref m5, .ref m6, .ref m7, .int 0, .int 0, .int 0, .ref m8, .ref m9, .int 0, .int 0, .ref m10, .int 0, .int 0, .int 0, .int 0, .int 0, .int 0, .int 0, .int 0, .ref m11, .ref m12, .ref m13, .int 0, .int 0, .int 0, .int 0, .int 0, .int 0, .int 0, .int 0, .int 0, .ref m14, .int 0, .ref m15, .ref m16, .ref m17, .ref m18, .int 0])), (m0, .inl (cA 0, 160, .inl (fun _ => 0))), (m1, .inl (cA 0, 6, .inl (fun _ => 0))), (m2, .inl (cA 0, 6, .inl (fun _ => 0))), (m3, .inl (cA 0, 5, .inl (fun _ => 0))), (m4, .inl (cA 0, 32, .inl (fun _ => 0))), (m5, .inl (cA 0, 6, .inl (fun _ => 0))), (m6, .inl (cA 0, 6, .inl (fun _ => 0))), (m7, .inl (cA 0, 5, .inl (fun _ => 0))), (m8, .inl (cA 0, 10, .inl (fun _ => 0))), (m9, .inl (cA 0, 2, .inl (fun _ => 0))), (m10, .inl (cA 0, 160, .inl (fun _ => 0))), (m11, .inl (cA 0, 14, .inl (fl [0, 4, 6, 10, 15, 19, 24, 28, 33, 38, 42, 45, 49, 57]))), (m12, .inl (cA 0, 57, .inl (fl [114, 111, 97, 100, 117, 112, 100, 111, 119, 110, 111, 114, 100, 101, 114, 112, 117, 115, 104, 115, 116, 97, 114, 116, 112, 97, 99, 107, 114, 111, 117, 110, 100, 112, 108, 97, 105, 110, 101, 103, 103, 115, 105, 99, 101, 115, 111, 100, 97, 112, 97, 114, 97, 102, 102, 105, 110]))), (m13, .inl (cA 0, 5, .inl (fun _ => 0))), (m14, .inl (cA 0, 12, .inl (fun _ => 0))), (m15, .inl (cA 2, 2, .inl (fun _ => 0))), (m16, .inl (cA 0, 4, .inl (fl [-4, -4, -4, -4]))), (m17, .inl (cA 0, 4, .inl (fun _ => 0))), (m18, .inl (cA 0, 160, .inl (fun _ => 0)))] := by
  show wdF _ _ _ 0 dsM = _
  simp only [dsM, wdF, dsC, dsF]
  rfl
set_option maxHeartbeats 8000000 in
set_option maxRecDepth 100000 in
theorem start_of {Inv : Mem → Mem → Prop} (hA : STall Inv) (h0 : Inv mX0 mM0) {p : Program} {e : Env} {s : State} {m : MethodId} {below : List Frame} {meth : Method} {c : Code} (l : Launch) {b L : Nat} {xs : Nat → Int32} (hL : L ≤ 320) (C0 : lw_At p s m meth c b L xs) : W p l e room_1 s m #[Value.ref b] below meth c s.heap [] 0 0 (lw_Z below #[Value.ref b] s) (entryFrame m ([Value.ref b] : List Value).toArray 4) := by
  obtain ⟨hx, hb, hr, hml, hown, hts, hX, hbl, hlocks, hgv⟩ := id C0
  have htg : ∀ w ∈ GW, w.before #[Value.ref b] s = true := fun w hw => hts w (gw_in hw)
  have hfl : ∀ w ∈ sFl, w.before #[Value.ref b] s = true := flat_of_before _ hgv
  obtain ⟨c0, iS0, hKn0⟩ := u_known (C := RX0) (T := TX0) (N := 5) (n := 5) htg inG0 (htg _ ia_RX0)
  obtain ⟨c1, iS1, hKn1⟩ := u_known (C := RX1) (T := TX1) (N := 12) (n := 12) htg inG1 (htg _ ia_RX1)
  obtain ⟨c2, iS2, hKn2⟩ := u_known (C := RX2) (T := TX2) (N := 3) (n := 3) htg inG2 (htg _ ia_RX2)
  obtain ⟨c3, iS3, hKn3⟩ := u_known (C := RX3) (T := TX3) (N := 3) (n := 3) htg inG3 (htg _ ia_RX3)
  obtain ⟨c4, iS4, hKn4⟩ := u_known (C := RX4) (T := TX4) (N := 8) (n := 8) htg inG4 (htg _ ia_RX4)
  obtain ⟨c5, iS5, hKn5⟩ := u_known (C := RX5) (T := TX5) (N := 2) (n := 2) htg inG5 (htg _ ia_RX5)
  obtain ⟨c6, iS6, hKn6⟩ := u_known (C := RX6) (T := TX6) (N := 17) (n := 17) htg inG6 (htg _ ia_RX6)
  obtain ⟨c7, iS7, hKn7⟩ := u_known (C := RX7) (T := TX7) (N := 11) (n := 11) htg inG7 (htg _ ia_RX7)
  obtain ⟨c8, iS8, hKn8⟩ := u_known (C := RX8) (T := TX8) (N := 45) (n := 45) htg inG8 (htg _ ia_RX8)
  obtain ⟨dC, dI, hKc⟩ : ∃ (dC : Nat → ClassId) (dI : Nat → Nat → Nat), ∀ (k : Nat) (q : vw_C), vwCl[k]? = some q → u_Kn s q.1 q.2.1 q.2.2 (dC k) (dI k) := by
    refine ⟨fun k => if k = 0 then c0 else if k = 1 then c1 else if k = 2 then c2 else if k = 3 then c3 else if k = 4 then c4 else if k = 5 then c5 else if k = 6 then c6 else if k = 7 then c7 else c8, fun k => if k = 0 then iS0 else if k = 1 then iS1 else if k = 2 then iS2 else if k = 3 then iS3 else if k = 4 then iS4 else if k = 5 then iS5 else if k = 6 then iS6 else if k = 7 then iS7 else iS8, ?_⟩
    intro k q hq
    match k, hq with
    | 0, hq => cases hq; exact hKn0
    | 1, hq => cases hq; exact hKn1
    | 2, hq => cases hq; exact hKn2
    | 3, hq => cases hq; exact hKn3
    | 4, hq => cases hq; exact hKn4
    | 5, hq => cases hq; exact hKn5
    | 6, hq => cases hq; exact hKn6
    | 7, hq => cases hq; exact hKn7
    | 8, hq => cases hq; exact hKn8
    | k + 9, hq => simp [vwCl] at hq
  obtain ⟨a0, k0, p0, fA0, kA0, kd0⟩ := Cond.arrayClass_spec (htg _ ac_int)
  obtain ⟨a1, k1, p1, fA1, kA1, kd1⟩ := Cond.arrayClass_spec (htg _ ac_byte)
  obtain ⟨a2, k2, p2, fA2, kA2, kd2⟩ := Cond.arrayClass_spec (htg _ ac_boolean)
  obtain ⟨p3, a3, k3, fC3, -, kA3, kd3, fA3⟩ := Cond.arrayOver_spec (hts _ tO_3)
  obtain ⟨p4, a4, k4, fC4, -, kA4, kd4, fA4⟩ := Jvm.Stand.arrayOver_specB (hts _ tO_4)
  obtain ⟨cA, hcA⟩ : ∃ cA : Nat → ClassId, cA = fun k => if k = 0 then a0 else if k = 1 then a1 else if k = 2 then a2 else if k = 3 then a3 else a4 := ⟨_, rfl⟩
  have hK : va_K (dC, dI) vwCl (tysl cA) s := by
    subst hcA
    refine ⟨hKc, fun k q hq => ?_⟩
    match k, hq with
    | 0, hq => cases hq; exact ⟨fun n z => ⟨fun _ h => (by cases h), k0, kA0, p0, kd0⟩, fA0⟩
    | 1, hq => cases hq; exact ⟨fun n z => ⟨fun _ h => (by cases h), k1, kA1, p1, kd1⟩, fA1⟩
    | 2, hq => cases hq; exact ⟨fun n z => ⟨fun _ h => (by cases h), k2, kA2, p2, kd2⟩, fA2⟩
    | 3, hq => cases hq; exact ⟨fun n z => ⟨fun _ h => (by cases h), k3, kA3, p3, kd3⟩, k3, p3, kA3, kd3, fC3, fA3⟩
    | 4, hq => cases hq; exact ⟨fun n z => ⟨fun _ h => (by cases h), k4, kA4, p4, kd4⟩, fA4⟩
    | k + 5, hq => simp [tysl] at hq
  have hEN : EN s := ⟨va_AO.of (hts _ tO_3), (hts _ tO_4), va_Nw.of rfl (hts _ tN_RX7_9), va_Nw.of rfl (hts _ tN_RX7_18), va_Nw.of rfl (hts _ tN_RX7_43), va_Nw.of rfl (hts _ tN_RX7_50), va_Nw.of rfl (hts _ tN_RX7_65), va_Nw.of rfl (hts _ tN_RX1_11)⟩
  have hA0 : ∀ a : Nat, a < s.heap.size → ¬ (fun q : Nat => s.heap.size ≤ q) a := fun a h => Nat.not_le.mpr h
  obtain ⟨adK, adV, hSt, hSe⟩ := vk_Sof (args := #[Value.ref b]) (s := s) (N := 13) (tm := sTm) (len := sLen) (byt := sByt) (A := fun q : Nat => s.heap.size ≤ q) (fun i hi => by have := sLen_ok i hi; omega) (fun i hi => hfl _ (sN1 i hi)) (fun i hi => hfl _ (sN2 i hi)) (fun i hi => hfl _ (sN3 i hi)) (fun i hi => hfl _ (sN4 i hi)) (fun i hi j hj => hfl _ (sN5 i hi j hj)) (fun i j hi hj hne => (Nat.lt_or_gt_of_ne hne).imp (fun h => hfl _ (sN6 j hj i h)) (fun h => hfl _ (sN6 i hi j h))) hA0
  have hZ1 : va_Z "java/lang/String" "COMPACT_STRINGS" "Z" (.int 1) (fun q : Nat => s.heap.size ≤ q) s s.heap := va_Zof (args := #[Value.ref b]) (hts _ tS_COMPACT_STRINGS) (hts _ tI_str) (va_eqi (hfl _ sN7)) hA0
  obtain ⟨qS, hqS⟩ : ∃ qS : Nat, (Term.static "jdk/internal/util/Preconditions" "SIOOBE_FORMATTER" "Ljava/util/function/BiFunction;").eval #[Value.ref b] s none [] s = some (sV qS) := by
    have h9 := hfl _ sN8
    simp only [Cond.before, Cond.holds, Cond.value] at h9
    cases hv : (Term.static "jdk/internal/util/Preconditions" "SIOOBE_FORMATTER" "Ljava/util/function/BiFunction;").eval #[Value.ref b] s none [] s with
    | none => rw [hv] at h9; cases h9
    | some v => cases v <;> first | exact ⟨0, rfl⟩ | exact ⟨_ + 1, rfl⟩ | (rw [hv] at h9; simp at h9)
  have hZ2 : va_Z "jdk/internal/util/Preconditions" "SIOOBE_FORMATTER" "Ljava/util/function/BiFunction;" (sV qS) (fun q : Nat => s.heap.size ≤ q) s s.heap := va_Zof (args := #[Value.ref b]) (hts _ tS_SIOOBE_FORMATTER) (hts _ tI_pre) hqS hA0
  have hl := lv_entry ([.ref b]) (n := 4) (Nat.le_of_ble_eq_true rfl)
  rw [lg_entry_eq]
  generalize (lg_sl ([.ref b]) ++ List.replicate (4 - (lg_sl ([.ref b])).length) Slot.unset).toArray = ls at hl ⊢
  have hl : lv_has ls 4 [(0, .ref b)] := hl
  have hS : va_S (fun q : Nat => s.heap.size ≤ q) s.heap s.heap [] := va_S.rf
  have hP : va_P (dC, dI) vwCl ([] ++ []) s.heap := fun k q h => by simp at h
  have hD : va_D (fun q : Nat => s.heap.size ≤ q) ([] ++ []) := ⟨fun i j p q h => by simp at h, fun k q h => by simp at h⟩
  refine va_new (ci := 7) (fs := [.null, .null, .null, .null, .null, .null, .null, .null, .null, .int 0, .int 0]) (C := RX7) (T := TX7) (N := 11) hx hb htg inG7 tyX7 tyX7_ok hown (htg _ clL_7) (htg _ ia_RX7) (htg _ ini_RX7_n) hK hP hD hS (fun _ h => h) rfl (by decide) (by decide) (by decide) dL_law_0 (fun gx H hP hD hS => ?_)
  refine lv_dup hx hb dL_law_3 rfl ?_
  suffices hG : G p l e room_1 s m #[Value.ref b] below meth c 4 (fun q : Nat => s.heap.size ≤ q) (dC, dI) [] (lw_Z below #[Value.ref b] s) 1 11 4 [(0, .ref b)] [.ref gx, .ref gx] ([] ++ [(gx, .inr (7, [.null, .null, .null, .null, .null, .null, .null, .null, .null, .int 0, .int 0]))]) from hG H _ ls hP hD hS hl
  refine g_run (X := []) (l1 := []) (st := [.ref gx]) (mc := 43) (ms := 635) (c2 := 44) (s2 := 646) (fin := fin_X7_init cA gx) (a := (Value.ref gx :: []).toArray) (fun H locs ls hz hP hD hS => ?_) rfl rfl (fun lf hf => ?_)
  · exact va_runI (As := []) (rest := [.ref gx]) ⟨hx, hb, hml, hown, htg⟩ (kX7_init l _ _ cA (([] : va_W) ++ ([] : va_W)) gx) (cwI 0 htg (gw_cons mi_X7_init.1) rfl rfl rfl (htg _ mi_X7_init.2.1) (htg _ mlL_9) (htg _ mi_X7_init.2.2.2.2.2) rfl mi_X7_init.2.2.1 ⟨by decide, by decide⟩) ⟨pc_blind, fun U hU hW => ⟨rfl, fun q hq => Nat.le_trans hS.1 (by rw [hU] at hq; exact hq), by rw [hU, List.append_assoc]; exact hP, by rw [List.append_assoc]; exact hD, va_K.moved hW.alike hK, EN2 hEN hW⟩⟩ rfl rfl hz rfl (lv_room (Nat.le_of_ble_eq_true rfl)) dL_law_4 ⟨by decide, by decide⟩
  obtain ⟨x0, x1, x2, x3, x4, x5, x6, x7, x8, x9, x10, x11, x12, x13, x14, x15, x16, x17, x18, x19, x20, x21, x22, x23, x24, x25, x26, x27, x28, x29, x30, x31, x32, x33, x34, x35, x36, x37, x38, x39, x40, x41, x42, rfl⟩ := hf
  intro H locs ls hP hD hS hl
  refine lv_astore_n (lv' := [(1, .ref gx), (0, .ref b)]) hx hb dL_law_7 rfl hl (by decide) rfl (fun ls hl => ?_)
  have hP : va_P (dC, dI) vwCl ([] ++ [(gx, .inr (7, [.ref x0, .ref x2, .ref x7, .ref x13, .ref x19, .ref x20, .ref x23, .ref x34, .ref x35, .int 0, .int 0])), (x0, .inr (5, [.ref x1, .int 0])), (x1, .inl (cA 1, 160, .inl (fun _ => 0))), (x2, .inr (4, [.ref x3, .ref x4, .ref x5, .ref x6, .int 0, .int 0, .int 10, .int 0])), (x3, .inl (cA 0, 12, .inl (fun _ => 0))), (x4, .inl (cA 0, 25, .inl (fun _ => 0))), (x5, .inl (cA 0, 5, .inl (fun _ => 0))), (x6, .inl (cA 0, 5, .inl (fun _ => 0))), (x7, .inr (1, [.ref x8, .ref x0, .int 0, .int 0, .int 0, .int 0, .int 0, .int 0, .int 0, .int 0, .int 0, .int 0])), (x8, .inr (4, [.ref x9, .ref x10, .ref x11, .ref x12, .int 0, .int 0, .int 10, .int 0])), (x9, .inl (cA 0, 12, .inl (fun _ => 0))), (x10, .inl (cA 0, 25, .inl (fun _ => 0))), (x11, .inl (cA 0, 5, .inl (fun _ => 0))), (x12, .inl (cA 0, 5, .inl (fun _ => 0))), (x13, .inr (6, [.ref x2, .ref x14, .ref x15, .ref x16, .ref x17, .ref x18, .int 0, .int 0, .int 0, .int 0, .int 0, .int 0, .int 0, .int 0, .int 0, .int 0, .int 0])), (x14, .inl (cA 0, 5, .inl (fun _ => 0))), (x15, .inl (cA 0, 5, .inl (fun _ => 0))), (x16, .inl (cA 0, 5, .inl (fun _ => 0))), (x17, .inl (cA 0, 5, .inl (fun _ => 0))), (x18, .inl (cA 0, 5, .inl (fun _ => 0))), (x19, .inr (0, [.int 0, .int 0, .int 0, .int 0, .int 0])), (x20, .inr (2, [.ref x21, .ref x22, .int 0])), (x21, .inl (cA 0, 6, .inl (fun _ => 0))), (x22, .inl (cA 0, 6, .inl (fun _ => 0))), (x23, .inl (cA 3, 2, .inr (.inr (.inr (.inr (va_up (va_up (fun _ => none) 0 (some x24)) 1 (some x29))))))), (x24, .inr (4, [.ref x25, .ref x26, .ref x27, .ref x28, .int 0, .int 0, .int 10, .int 0])), (x25, .inl (cA 0, 12, .inl (fun _ => 0))), (x26, .inl (cA 0, 25, .inl (fun _ => 0))), (x27, .inl (cA 0, 5, .inl (fun _ => 0))), (x28, .inl (cA 0, 5, .inl (fun _ => 0))), (x29, .inr (4, [.ref x30, .ref x31, .ref x32, .ref x33, .int 0, .int 0, .int 10, .int 0])), (x30, .inl (cA 0, 12, .inl (fun _ => 0))), (x31, .inl (cA 0, 25, .inl (fun _ => 0))), (x32, .inl (cA 0, 5, .inl (fun _ => 0))), (x33, .inl (cA 0, 5, .inl (fun _ => 0))), (x34, .inl (cA 2, 2, .inl (fun _ => 0))), (x35, .inr (3, [.ref x36, .ref x41, .ref x42])), (x36, .inl (cA 4, 4, .inr (.inr (.inr (.inr (fun i => if i < 4 then some (if i = 0 then x37 else if i = 1 then x38 else if i = 2 then x39 else x40) else none)))))), (x37, .inl (cA 0, 40, .inl (fun _ => 0))), (x38, .inl (cA 0, 40, .inl (fun _ => 0))), (x39, .inl (cA 0, 40, .inl (fun _ => 0))), (x40, .inl (cA 0, 40, .inl (fun _ => 0))), (x41, .inl (cA 0, 4, .inl (fun _ => 0))), (x42, .inl (cA 0, 4, .inl (fl [-1, -1, -1, -1])))]) H := hP
  have hD : va_D (fun q : Nat => s.heap.size ≤ q) ([] ++ [(gx, .inr (7, [.ref x0, .ref x2, .ref x7, .ref x13, .ref x19, .ref x20, .ref x23, .ref x34, .ref x35, .int 0, .int 0])), (x0, .inr (5, [.ref x1, .int 0])), (x1, .inl (cA 1, 160, .inl (fun _ => 0))), (x2, .inr (4, [.ref x3, .ref x4, .ref x5, .ref x6, .int 0, .int 0, .int 10, .int 0])), (x3, .inl (cA 0, 12, .inl (fun _ => 0))), (x4, .inl (cA 0, 25, .inl (fun _ => 0))), (x5, .inl (cA 0, 5, .inl (fun _ => 0))), (x6, .inl (cA 0, 5, .inl (fun _ => 0))), (x7, .inr (1, [.ref x8, .ref x0, .int 0, .int 0, .int 0, .int 0, .int 0, .int 0, .int 0, .int 0, .int 0, .int 0])), (x8, .inr (4, [.ref x9, .ref x10, .ref x11, .ref x12, .int 0, .int 0, .int 10, .int 0])), (x9, .inl (cA 0, 12, .inl (fun _ => 0))), (x10, .inl (cA 0, 25, .inl (fun _ => 0))), (x11, .inl (cA 0, 5, .inl (fun _ => 0))), (x12, .inl (cA 0, 5, .inl (fun _ => 0))), (x13, .inr (6, [.ref x2, .ref x14, .ref x15, .ref x16, .ref x17, .ref x18, .int 0, .int 0, .int 0, .int 0, .int 0, .int 0, .int 0, .int 0, .int 0, .int 0, .int 0])), (x14, .inl (cA 0, 5, .inl (fun _ => 0))), (x15, .inl (cA 0, 5, .inl (fun _ => 0))), (x16, .inl (cA 0, 5, .inl (fun _ => 0))), (x17, .inl (cA 0, 5, .inl (fun _ => 0))), (x18, .inl (cA 0, 5, .inl (fun _ => 0))), (x19, .inr (0, [.int 0, .int 0, .int 0, .int 0, .int 0])), (x20, .inr (2, [.ref x21, .ref x22, .int 0])), (x21, .inl (cA 0, 6, .inl (fun _ => 0))), (x22, .inl (cA 0, 6, .inl (fun _ => 0))), (x23, .inl (cA 3, 2, .inr (.inr (.inr (.inr (va_up (va_up (fun _ => none) 0 (some x24)) 1 (some x29))))))), (x24, .inr (4, [.ref x25, .ref x26, .ref x27, .ref x28, .int 0, .int 0, .int 10, .int 0])), (x25, .inl (cA 0, 12, .inl (fun _ => 0))), (x26, .inl (cA 0, 25, .inl (fun _ => 0))), (x27, .inl (cA 0, 5, .inl (fun _ => 0))), (x28, .inl (cA 0, 5, .inl (fun _ => 0))), (x29, .inr (4, [.ref x30, .ref x31, .ref x32, .ref x33, .int 0, .int 0, .int 10, .int 0])), (x30, .inl (cA 0, 12, .inl (fun _ => 0))), (x31, .inl (cA 0, 25, .inl (fun _ => 0))), (x32, .inl (cA 0, 5, .inl (fun _ => 0))), (x33, .inl (cA 0, 5, .inl (fun _ => 0))), (x34, .inl (cA 2, 2, .inl (fun _ => 0))), (x35, .inr (3, [.ref x36, .ref x41, .ref x42])), (x36, .inl (cA 4, 4, .inr (.inr (.inr (.inr (fun i => if i < 4 then some (if i = 0 then x37 else if i = 1 then x38 else if i = 2 then x39 else x40) else none)))))), (x37, .inl (cA 0, 40, .inl (fun _ => 0))), (x38, .inl (cA 0, 40, .inl (fun _ => 0))), (x39, .inl (cA 0, 40, .inl (fun _ => 0))), (x40, .inl (cA 0, 40, .inl (fun _ => 0))), (x41, .inl (cA 0, 4, .inl (fun _ => 0))), (x42, .inl (cA 0, 4, .inl (fl [-1, -1, -1, -1])))]) := hD
  refine va_new (ci := 8) (fs := [.null, .null, .null, .int 0, .null, .int 0, .null, .null, .null, .null, .int 0, .int 0, .int 0, .null, .null, .int 0, .int 0, .null, .int 0, .int 0, .int 0, .int 0, .int 0, .int 0, .int 0, .int 0, .null, .null, .null, .int 0, .int 0, .int 0, .int 0, .int 0, .int 0, .int 0, .int 0, .int 0, .null, .int 0, .null, .null, .null, .null, .int 0]) (C := RX8) (T := TX8) (N := 45) hx hb htg inG8 tyX8 tyX8_ok hown (htg _ clL_10) (htg _ ia_RX8) (htg _ ini_RX8_n) hK hP hD hS (fun _ h => h) rfl (by decide) (by decide) (by decide) dL_law_8 (fun gm H hP hD hS => ?_)
  refine lv_dup hx hb dL_law_11 rfl ?_
  suffices hG : G p l e room_1 s m #[Value.ref b] below meth c 4 (fun q : Nat => s.heap.size ≤ q) (dC, dI) [] (lw_Z below #[Value.ref b] s) 45 691 12 [(1, .ref gx), (0, .ref b)] [.ref gm, .ref gm] ([(gx, .inr (7, [.ref x0, .ref x2, .ref x7, .ref x13, .ref x19, .ref x20, .ref x23, .ref x34, .ref x35, .int 0, .int 0])), (x0, .inr (5, [.ref x1, .int 0])), (x1, .inl (cA 1, 160, .inl (fun _ => 0))), (x2, .inr (4, [.ref x3, .ref x4, .ref x5, .ref x6, .int 0, .int 0, .int 10, .int 0])), (x3, .inl (cA 0, 12, .inl (fun _ => 0))), (x4, .inl (cA 0, 25, .inl (fun _ => 0))), (x5, .inl (cA 0, 5, .inl (fun _ => 0))), (x6, .inl (cA 0, 5, .inl (fun _ => 0))), (x7, .inr (1, [.ref x8, .ref x0, .int 0, .int 0, .int 0, .int 0, .int 0, .int 0, .int 0, .int 0, .int 0, .int 0])), (x8, .inr (4, [.ref x9, .ref x10, .ref x11, .ref x12, .int 0, .int 0, .int 10, .int 0])), (x9, .inl (cA 0, 12, .inl (fun _ => 0))), (x10, .inl (cA 0, 25, .inl (fun _ => 0))), (x11, .inl (cA 0, 5, .inl (fun _ => 0))), (x12, .inl (cA 0, 5, .inl (fun _ => 0))), (x13, .inr (6, [.ref x2, .ref x14, .ref x15, .ref x16, .ref x17, .ref x18, .int 0, .int 0, .int 0, .int 0, .int 0, .int 0, .int 0, .int 0, .int 0, .int 0, .int 0])), (x14, .inl (cA 0, 5, .inl (fun _ => 0))), (x15, .inl (cA 0, 5, .inl (fun _ => 0))), (x16, .inl (cA 0, 5, .inl (fun _ => 0))), (x17, .inl (cA 0, 5, .inl (fun _ => 0))), (x18, .inl (cA 0, 5, .inl (fun _ => 0))), (x19, .inr (0, [.int 0, .int 0, .int 0, .int 0, .int 0])), (x20, .inr (2, [.ref x21, .ref x22, .int 0])), (x21, .inl (cA 0, 6, .inl (fun _ => 0))), (x22, .inl (cA 0, 6, .inl (fun _ => 0))), (x23, .inl (cA 3, 2, .inr (.inr (.inr (.inr (va_up (va_up (fun _ => none) 0 (some x24)) 1 (some x29))))))), (x24, .inr (4, [.ref x25, .ref x26, .ref x27, .ref x28, .int 0, .int 0, .int 10, .int 0])), (x25, .inl (cA 0, 12, .inl (fun _ => 0))), (x26, .inl (cA 0, 25, .inl (fun _ => 0))), (x27, .inl (cA 0, 5, .inl (fun _ => 0))), (x28, .inl (cA 0, 5, .inl (fun _ => 0))), (x29, .inr (4, [.ref x30, .ref x31, .ref x32, .ref x33, .int 0, .int 0, .int 10, .int 0])), (x30, .inl (cA 0, 12, .inl (fun _ => 0))), (x31, .inl (cA 0, 25, .inl (fun _ => 0))), (x32, .inl (cA 0, 5, .inl (fun _ => 0))), (x33, .inl (cA 0, 5, .inl (fun _ => 0))), (x34, .inl (cA 2, 2, .inl (fun _ => 0))), (x35, .inr (3, [.ref x36, .ref x41, .ref x42])), (x36, .inl (cA 4, 4, .inr (.inr (.inr (.inr (fun i => if i < 4 then some (if i = 0 then x37 else if i = 1 then x38 else if i = 2 then x39 else x40) else none)))))), (x37, .inl (cA 0, 40, .inl (fun _ => 0))), (x38, .inl (cA 0, 40, .inl (fun _ => 0))), (x39, .inl (cA 0, 40, .inl (fun _ => 0))), (x40, .inl (cA 0, 40, .inl (fun _ => 0))), (x41, .inl (cA 0, 4, .inl (fun _ => 0))), (x42, .inl (cA 0, 4, .inl (fl [-1, -1, -1, -1])))] ++ [(gm, .inr (8, [.null, .null, .null, .int 0, .null, .int 0, .null, .null, .null, .null, .int 0, .int 0, .int 0, .null, .null, .int 0, .int 0, .null, .int 0, .int 0, .int 0, .int 0, .int 0, .int 0, .int 0, .int 0, .null, .null, .null, .int 0, .int 0, .int 0, .int 0, .int 0, .int 0, .int 0, .int 0, .int 0, .null, .int 0, .null, .null, .null, .null, .int 0]))]) from hG H _ ls hP hD hS hl
  refine g_run (X := []) (l1 := [(gx, .inr (7, [.ref x0, .ref x2, .ref x7, .ref x13, .ref x19, .ref x20, .ref x23, .ref x34, .ref x35, .int 0, .int 0])), (x0, .inr (5, [.ref x1, .int 0])), (x1, .inl (cA 1, 160, .inl (fun _ => 0))), (x2, .inr (4, [.ref x3, .ref x4, .ref x5, .ref x6, .int 0, .int 0, .int 10, .int 0])), (x3, .inl (cA 0, 12, .inl (fun _ => 0))), (x4, .inl (cA 0, 25, .inl (fun _ => 0))), (x5, .inl (cA 0, 5, .inl (fun _ => 0))), (x6, .inl (cA 0, 5, .inl (fun _ => 0))), (x7, .inr (1, [.ref x8, .ref x0, .int 0, .int 0, .int 0, .int 0, .int 0, .int 0, .int 0, .int 0, .int 0, .int 0])), (x8, .inr (4, [.ref x9, .ref x10, .ref x11, .ref x12, .int 0, .int 0, .int 10, .int 0])), (x9, .inl (cA 0, 12, .inl (fun _ => 0))), (x10, .inl (cA 0, 25, .inl (fun _ => 0))), (x11, .inl (cA 0, 5, .inl (fun _ => 0))), (x12, .inl (cA 0, 5, .inl (fun _ => 0))), (x13, .inr (6, [.ref x2, .ref x14, .ref x15, .ref x16, .ref x17, .ref x18, .int 0, .int 0, .int 0, .int 0, .int 0, .int 0, .int 0, .int 0, .int 0, .int 0, .int 0])), (x14, .inl (cA 0, 5, .inl (fun _ => 0))), (x15, .inl (cA 0, 5, .inl (fun _ => 0))), (x16, .inl (cA 0, 5, .inl (fun _ => 0))), (x17, .inl (cA 0, 5, .inl (fun _ => 0))), (x18, .inl (cA 0, 5, .inl (fun _ => 0))), (x19, .inr (0, [.int 0, .int 0, .int 0, .int 0, .int 0])), (x20, .inr (2, [.ref x21, .ref x22, .int 0])), (x21, .inl (cA 0, 6, .inl (fun _ => 0))), (x22, .inl (cA 0, 6, .inl (fun _ => 0))), (x23, .inl (cA 3, 2, .inr (.inr (.inr (.inr (va_up (va_up (fun _ => none) 0 (some x24)) 1 (some x29))))))), (x24, .inr (4, [.ref x25, .ref x26, .ref x27, .ref x28, .int 0, .int 0, .int 10, .int 0])), (x25, .inl (cA 0, 12, .inl (fun _ => 0))), (x26, .inl (cA 0, 25, .inl (fun _ => 0))), (x27, .inl (cA 0, 5, .inl (fun _ => 0))), (x28, .inl (cA 0, 5, .inl (fun _ => 0))), (x29, .inr (4, [.ref x30, .ref x31, .ref x32, .ref x33, .int 0, .int 0, .int 10, .int 0])), (x30, .inl (cA 0, 12, .inl (fun _ => 0))), (x31, .inl (cA 0, 25, .inl (fun _ => 0))), (x32, .inl (cA 0, 5, .inl (fun _ => 0))), (x33, .inl (cA 0, 5, .inl (fun _ => 0))), (x34, .inl (cA 2, 2, .inl (fun _ => 0))), (x35, .inr (3, [.ref x36, .ref x41, .ref x42])), (x36, .inl (cA 4, 4, .inr (.inr (.inr (.inr (fun i => if i < 4 then some (if i = 0 then x37 else if i = 1 then x38 else if i = 2 then x39 else x40) else none)))))), (x37, .inl (cA 0, 40, .inl (fun _ => 0))), (x38, .inl (cA 0, 40, .inl (fun _ => 0))), (x39, .inl (cA 0, 40, .inl (fun _ => 0))), (x40, .inl (cA 0, 40, .inl (fun _ => 0))), (x41, .inl (cA 0, 4, .inl (fun _ => 0))), (x42, .inl (cA 0, 4, .inl (fl [-1, -1, -1, -1])))]) (st := [.ref gm]) (mc := 19) (ms := 656) (c2 := 64) (s2 := 1347) (fin := fin_X8_init cA gm) (a := (Value.ref gm :: []).toArray) (fun H locs ls hz hP hD hS => ?_) rfl rfl (fun lf hf => ?_)
  · exact va_runI (As := []) (rest := [.ref gm]) ⟨hx, hb, hml, hown, htg⟩ (kX8_init l _ _ cA (([] : va_W) ++ ([(gx, .inr (7, [.ref x0, .ref x2, .ref x7, .ref x13, .ref x19, .ref x20, .ref x23, .ref x34, .ref x35, .int 0, .int 0])), (x0, .inr (5, [.ref x1, .int 0])), (x1, .inl (cA 1, 160, .inl (fun _ => 0))), (x2, .inr (4, [.ref x3, .ref x4, .ref x5, .ref x6, .int 0, .int 0, .int 10, .int 0])), (x3, .inl (cA 0, 12, .inl (fun _ => 0))), (x4, .inl (cA 0, 25, .inl (fun _ => 0))), (x5, .inl (cA 0, 5, .inl (fun _ => 0))), (x6, .inl (cA 0, 5, .inl (fun _ => 0))), (x7, .inr (1, [.ref x8, .ref x0, .int 0, .int 0, .int 0, .int 0, .int 0, .int 0, .int 0, .int 0, .int 0, .int 0])), (x8, .inr (4, [.ref x9, .ref x10, .ref x11, .ref x12, .int 0, .int 0, .int 10, .int 0])), (x9, .inl (cA 0, 12, .inl (fun _ => 0))), (x10, .inl (cA 0, 25, .inl (fun _ => 0))), (x11, .inl (cA 0, 5, .inl (fun _ => 0))), (x12, .inl (cA 0, 5, .inl (fun _ => 0))), (x13, .inr (6, [.ref x2, .ref x14, .ref x15, .ref x16, .ref x17, .ref x18, .int 0, .int 0, .int 0, .int 0, .int 0, .int 0, .int 0, .int 0, .int 0, .int 0, .int 0])), (x14, .inl (cA 0, 5, .inl (fun _ => 0))), (x15, .inl (cA 0, 5, .inl (fun _ => 0))), (x16, .inl (cA 0, 5, .inl (fun _ => 0))), (x17, .inl (cA 0, 5, .inl (fun _ => 0))), (x18, .inl (cA 0, 5, .inl (fun _ => 0))), (x19, .inr (0, [.int 0, .int 0, .int 0, .int 0, .int 0])), (x20, .inr (2, [.ref x21, .ref x22, .int 0])), (x21, .inl (cA 0, 6, .inl (fun _ => 0))), (x22, .inl (cA 0, 6, .inl (fun _ => 0))), (x23, .inl (cA 3, 2, .inr (.inr (.inr (.inr (va_up (va_up (fun _ => none) 0 (some x24)) 1 (some x29))))))), (x24, .inr (4, [.ref x25, .ref x26, .ref x27, .ref x28, .int 0, .int 0, .int 10, .int 0])), (x25, .inl (cA 0, 12, .inl (fun _ => 0))), (x26, .inl (cA 0, 25, .inl (fun _ => 0))), (x27, .inl (cA 0, 5, .inl (fun _ => 0))), (x28, .inl (cA 0, 5, .inl (fun _ => 0))), (x29, .inr (4, [.ref x30, .ref x31, .ref x32, .ref x33, .int 0, .int 0, .int 10, .int 0])), (x30, .inl (cA 0, 12, .inl (fun _ => 0))), (x31, .inl (cA 0, 25, .inl (fun _ => 0))), (x32, .inl (cA 0, 5, .inl (fun _ => 0))), (x33, .inl (cA 0, 5, .inl (fun _ => 0))), (x34, .inl (cA 2, 2, .inl (fun _ => 0))), (x35, .inr (3, [.ref x36, .ref x41, .ref x42])), (x36, .inl (cA 4, 4, .inr (.inr (.inr (.inr (fun i => if i < 4 then some (if i = 0 then x37 else if i = 1 then x38 else if i = 2 then x39 else x40) else none)))))), (x37, .inl (cA 0, 40, .inl (fun _ => 0))), (x38, .inl (cA 0, 40, .inl (fun _ => 0))), (x39, .inl (cA 0, 40, .inl (fun _ => 0))), (x40, .inl (cA 0, 40, .inl (fun _ => 0))), (x41, .inl (cA 0, 4, .inl (fun _ => 0))), (x42, .inl (cA 0, 4, .inl (fl [-1, -1, -1, -1])))] : va_W)) gm) (cwI 0 htg (gw_cons mi_X8_init.1) rfl rfl rfl (htg _ mi_X8_init.2.1) (htg _ mlL_12) (htg _ mi_X8_init.2.2.2.2.2) rfl mi_X8_init.2.2.1 ⟨by decide, by decide⟩) ⟨pc_blind, fun U hU hW => ⟨rfl, fun q hq => Nat.le_trans hS.1 (by rw [hU] at hq; exact hq), by rw [hU, List.append_assoc]; exact hP, by rw [List.append_assoc]; exact hD, va_K.moved hW.alike hK, EN2 hEN hW⟩⟩ rfl rfl hz rfl (lv_room (Nat.le_of_ble_eq_true rfl)) dL_law_12 ⟨by decide, by decide⟩
  obtain ⟨m0, m1, m2, m3, m4, m5, m6, m7, m8, m9, m10, m11, m12, m13, m14, m15, m16, m17, m18, rfl⟩ := hf
  intro H locs ls hP hD hS hl
  have hP : va_P (dC, dI) vwCl [(gx, .inr (7, [.ref x0, .ref x2, .ref x7, .ref x13, .ref x19, .ref x20, .ref x23, .ref x34, .ref x35, .int 0, .int 0])), (x0, .inr (5, [.ref x1, .int 0])), (x1, .inl (cA 1, 160, .inl (fun _ => 0))), (x2, .inr (4, [.ref x3, .ref x4, .ref x5, .ref x6, .int 0, .int 0, .int 10, .int 0])), (x3, .inl (cA 0, 12, .inl (fun _ => 0))), (x4, .inl (cA 0, 25, .inl (fun _ => 0))), (x5, .inl (cA 0, 5, .inl (fun _ => 0))), (x6, .inl (cA 0, 5, .inl (fun _ => 0))), (x7, .inr (1, [.ref x8, .ref x0, .int 0, .int 0, .int 0, .int 0, .int 0, .int 0, .int 0, .int 0, .int 0, .int 0])), (x8, .inr (4, [.ref x9, .ref x10, .ref x11, .ref x12, .int 0, .int 0, .int 10, .int 0])), (x9, .inl (cA 0, 12, .inl (fun _ => 0))), (x10, .inl (cA 0, 25, .inl (fun _ => 0))), (x11, .inl (cA 0, 5, .inl (fun _ => 0))), (x12, .inl (cA 0, 5, .inl (fun _ => 0))), (x13, .inr (6, [.ref x2, .ref x14, .ref x15, .ref x16, .ref x17, .ref x18, .int 0, .int 0, .int 0, .int 0, .int 0, .int 0, .int 0, .int 0, .int 0, .int 0, .int 0])), (x14, .inl (cA 0, 5, .inl (fun _ => 0))), (x15, .inl (cA 0, 5, .inl (fun _ => 0))), (x16, .inl (cA 0, 5, .inl (fun _ => 0))), (x17, .inl (cA 0, 5, .inl (fun _ => 0))), (x18, .inl (cA 0, 5, .inl (fun _ => 0))), (x19, .inr (0, [.int 0, .int 0, .int 0, .int 0, .int 0])), (x20, .inr (2, [.ref x21, .ref x22, .int 0])), (x21, .inl (cA 0, 6, .inl (fun _ => 0))), (x22, .inl (cA 0, 6, .inl (fun _ => 0))), (x23, .inl (cA 3, 2, .inr (.inr (.inr (.inr (va_up (va_up (fun _ => none) 0 (some x24)) 1 (some x29))))))), (x24, .inr (4, [.ref x25, .ref x26, .ref x27, .ref x28, .int 0, .int 0, .int 10, .int 0])), (x25, .inl (cA 0, 12, .inl (fun _ => 0))), (x26, .inl (cA 0, 25, .inl (fun _ => 0))), (x27, .inl (cA 0, 5, .inl (fun _ => 0))), (x28, .inl (cA 0, 5, .inl (fun _ => 0))), (x29, .inr (4, [.ref x30, .ref x31, .ref x32, .ref x33, .int 0, .int 0, .int 10, .int 0])), (x30, .inl (cA 0, 12, .inl (fun _ => 0))), (x31, .inl (cA 0, 25, .inl (fun _ => 0))), (x32, .inl (cA 0, 5, .inl (fun _ => 0))), (x33, .inl (cA 0, 5, .inl (fun _ => 0))), (x34, .inl (cA 2, 2, .inl (fun _ => 0))), (x35, .inr (3, [.ref x36, .ref x41, .ref x42])), (x36, .inl (cA 4, 4, .inr (.inr (.inr (.inr (fun i => if i < 4 then some (if i = 0 then x37 else if i = 1 then x38 else if i = 2 then x39 else x40) else none)))))), (x37, .inl (cA 0, 40, .inl (fun _ => 0))), (x38, .inl (cA 0, 40, .inl (fun _ => 0))), (x39, .inl (cA 0, 40, .inl (fun _ => 0))), (x40, .inl (cA 0, 40, .inl (fun _ => 0))), (x41, .inl (cA 0, 4, .inl (fun _ => 0))), (x42, .inl (cA 0, 4, .inl (fl [-1, -1, -1, -1]))), (gm, .inr (8, [.ref m0, .ref m1, .ref m2, .int 0, .ref m3, .int 0, .ref m4, .ref m5, .ref m6, .ref m7, .int 0, .int 0, .int 0, .ref m8, .ref m9, .int 0, .int 0, .ref m10, .int 0, .int 0, .int 0, .int 0, .int 0, .int 0, .int 0, .int 0, .ref m11, .ref m12, .ref m13, .int 0, .int 0, .int 0, .int 0, .int 0, .int 0, .int 0, .int 0, .int 0, .ref m14, .int 0, .ref m15, .ref m16, .ref m17, .ref m18, .int 0])), (m0, .inl (cA 0, 160, .inl (fun _ => 0))), (m1, .inl (cA 0, 6, .inl (fun _ => 0))), (m2, .inl (cA 0, 6, .inl (fun _ => 0))), (m3, .inl (cA 0, 5, .inl (fun _ => 0))), (m4, .inl (cA 0, 32, .inl (fun _ => 0))), (m5, .inl (cA 0, 6, .inl (fun _ => 0))), (m6, .inl (cA 0, 6, .inl (fun _ => 0))), (m7, .inl (cA 0, 5, .inl (fun _ => 0))), (m8, .inl (cA 0, 10, .inl (fun _ => 0))), (m9, .inl (cA 0, 2, .inl (fun _ => 0))), (m10, .inl (cA 0, 160, .inl (fun _ => 0))), (m11, .inl (cA 0, 14, .inl (fl [0, 4, 6, 10, 15, 19, 24, 28, 33, 38, 42, 45, 49, 57]))), (m12, .inl (cA 0, 57, .inl (fl [114, 111, 97, 100, 117, 112, 100, 111, 119, 110, 111, 114, 100, 101, 114, 112, 117, 115, 104, 115, 116, 97, 114, 116, 112, 97, 99, 107, 114, 111, 117, 110, 100, 112, 108, 97, 105, 110, 101, 103, 103, 115, 105, 99, 101, 115, 111, 100, 97, 112, 97, 114, 97, 102, 102, 105, 110]))), (m13, .inl (cA 0, 5, .inl (fun _ => 0))), (m14, .inl (cA 0, 12, .inl (fun _ => 0))), (m15, .inl (cA 2, 2, .inl (fun _ => 0))), (m16, .inl (cA 0, 4, .inl (fl [-4, -4, -4, -4]))), (m17, .inl (cA 0, 4, .inl (fun _ => 0))), (m18, .inl (cA 0, 160, .inl (fun _ => 0)))] H := hP
  have hD : va_D (fun q : Nat => s.heap.size ≤ q) [(gx, .inr (7, [.ref x0, .ref x2, .ref x7, .ref x13, .ref x19, .ref x20, .ref x23, .ref x34, .ref x35, .int 0, .int 0])), (x0, .inr (5, [.ref x1, .int 0])), (x1, .inl (cA 1, 160, .inl (fun _ => 0))), (x2, .inr (4, [.ref x3, .ref x4, .ref x5, .ref x6, .int 0, .int 0, .int 10, .int 0])), (x3, .inl (cA 0, 12, .inl (fun _ => 0))), (x4, .inl (cA 0, 25, .inl (fun _ => 0))), (x5, .inl (cA 0, 5, .inl (fun _ => 0))), (x6, .inl (cA 0, 5, .inl (fun _ => 0))), (x7, .inr (1, [.ref x8, .ref x0, .int 0, .int 0, .int 0, .int 0, .int 0, .int 0, .int 0, .int 0, .int 0, .int 0])), (x8, .inr (4, [.ref x9, .ref x10, .ref x11, .ref x12, .int 0, .int 0, .int 10, .int 0])), (x9, .inl (cA 0, 12, .inl (fun _ => 0))), (x10, .inl (cA 0, 25, .inl (fun _ => 0))), (x11, .inl (cA 0, 5, .inl (fun _ => 0))), (x12, .inl (cA 0, 5, .inl (fun _ => 0))), (x13, .inr (6, [.ref x2, .ref x14, .ref x15, .ref x16, .ref x17, .ref x18, .int 0, .int 0, .int 0, .int 0, .int 0, .int 0, .int 0, .int 0, .int 0, .int 0, .int 0])), (x14, .inl (cA 0, 5, .inl (fun _ => 0))), (x15, .inl (cA 0, 5, .inl (fun _ => 0))), (x16, .inl (cA 0, 5, .inl (fun _ => 0))), (x17, .inl (cA 0, 5, .inl (fun _ => 0))), (x18, .inl (cA 0, 5, .inl (fun _ => 0))), (x19, .inr (0, [.int 0, .int 0, .int 0, .int 0, .int 0])), (x20, .inr (2, [.ref x21, .ref x22, .int 0])), (x21, .inl (cA 0, 6, .inl (fun _ => 0))), (x22, .inl (cA 0, 6, .inl (fun _ => 0))), (x23, .inl (cA 3, 2, .inr (.inr (.inr (.inr (va_up (va_up (fun _ => none) 0 (some x24)) 1 (some x29))))))), (x24, .inr (4, [.ref x25, .ref x26, .ref x27, .ref x28, .int 0, .int 0, .int 10, .int 0])), (x25, .inl (cA 0, 12, .inl (fun _ => 0))), (x26, .inl (cA 0, 25, .inl (fun _ => 0))), (x27, .inl (cA 0, 5, .inl (fun _ => 0))), (x28, .inl (cA 0, 5, .inl (fun _ => 0))), (x29, .inr (4, [.ref x30, .ref x31, .ref x32, .ref x33, .int 0, .int 0, .int 10, .int 0])), (x30, .inl (cA 0, 12, .inl (fun _ => 0))), (x31, .inl (cA 0, 25, .inl (fun _ => 0))), (x32, .inl (cA 0, 5, .inl (fun _ => 0))), (x33, .inl (cA 0, 5, .inl (fun _ => 0))), (x34, .inl (cA 2, 2, .inl (fun _ => 0))), (x35, .inr (3, [.ref x36, .ref x41, .ref x42])), (x36, .inl (cA 4, 4, .inr (.inr (.inr (.inr (fun i => if i < 4 then some (if i = 0 then x37 else if i = 1 then x38 else if i = 2 then x39 else x40) else none)))))), (x37, .inl (cA 0, 40, .inl (fun _ => 0))), (x38, .inl (cA 0, 40, .inl (fun _ => 0))), (x39, .inl (cA 0, 40, .inl (fun _ => 0))), (x40, .inl (cA 0, 40, .inl (fun _ => 0))), (x41, .inl (cA 0, 4, .inl (fun _ => 0))), (x42, .inl (cA 0, 4, .inl (fl [-1, -1, -1, -1]))), (gm, .inr (8, [.ref m0, .ref m1, .ref m2, .int 0, .ref m3, .int 0, .ref m4, .ref m5, .ref m6, .ref m7, .int 0, .int 0, .int 0, .ref m8, .ref m9, .int 0, .int 0, .ref m10, .int 0, .int 0, .int 0, .int 0, .int 0, .int 0, .int 0, .int 0, .ref m11, .ref m12, .ref m13, .int 0, .int 0, .int 0, .int 0, .int 0, .int 0, .int 0, .int 0, .int 0, .ref m14, .int 0, .ref m15, .ref m16, .ref m17, .ref m18, .int 0])), (m0, .inl (cA 0, 160, .inl (fun _ => 0))), (m1, .inl (cA 0, 6, .inl (fun _ => 0))), (m2, .inl (cA 0, 6, .inl (fun _ => 0))), (m3, .inl (cA 0, 5, .inl (fun _ => 0))), (m4, .inl (cA 0, 32, .inl (fun _ => 0))), (m5, .inl (cA 0, 6, .inl (fun _ => 0))), (m6, .inl (cA 0, 6, .inl (fun _ => 0))), (m7, .inl (cA 0, 5, .inl (fun _ => 0))), (m8, .inl (cA 0, 10, .inl (fun _ => 0))), (m9, .inl (cA 0, 2, .inl (fun _ => 0))), (m10, .inl (cA 0, 160, .inl (fun _ => 0))), (m11, .inl (cA 0, 14, .inl (fl [0, 4, 6, 10, 15, 19, 24, 28, 33, 38, 42, 45, 49, 57]))), (m12, .inl (cA 0, 57, .inl (fl [114, 111, 97, 100, 117, 112, 100, 111, 119, 110, 111, 114, 100, 101, 114, 112, 117, 115, 104, 115, 116, 97, 114, 116, 112, 97, 99, 107, 114, 111, 117, 110, 100, 112, 108, 97, 105, 110, 101, 103, 103, 115, 105, 99, 101, 115, 111, 100, 97, 112, 97, 114, 97, 102, 102, 105, 110]))), (m13, .inl (cA 0, 5, .inl (fun _ => 0))), (m14, .inl (cA 0, 12, .inl (fun _ => 0))), (m15, .inl (cA 2, 2, .inl (fun _ => 0))), (m16, .inl (cA 0, 4, .inl (fl [-4, -4, -4, -4]))), (m17, .inl (cA 0, 4, .inl (fun _ => 0))), (m18, .inl (cA 0, 160, .inl (fun _ => 0)))] := hD
  refine lv_astore_n (lv' := [(2, .ref gm), (1, .ref gx), (0, .ref b)]) hx hb dL_law_15 rfl hl (by decide) rfl (fun ls hl => ?_)
  refine lv_iconst (v := 0) hx hb dL_law_16 (by decide) ?_
  refine lv_istore_n (lv' := [(3, .int 0), (2, .ref gm), (1, .ref gx), (0, .ref b)]) hx hb dL_law_17 rfl hl (by decide) rfl (fun ls hl => ?_)
  have hmap : ([(gx, .inr (7, [.ref x0, .ref x2, .ref x7, .ref x13, .ref x19, .ref x20, .ref x23, .ref x34, .ref x35, .int 0, .int 0])), (x0, .inr (5, [.ref x1, .int 0])), (x1, .inl (cA 1, 160, .inl (fun _ => 0))), (x2, .inr (4, [.ref x3, .ref x4, .ref x5, .ref x6, .int 0, .int 0, .int 10, .int 0])), (x3, .inl (cA 0, 12, .inl (fun _ => 0))), (x4, .inl (cA 0, 25, .inl (fun _ => 0))), (x5, .inl (cA 0, 5, .inl (fun _ => 0))), (x6, .inl (cA 0, 5, .inl (fun _ => 0))), (x7, .inr (1, [.ref x8, .ref x0, .int 0, .int 0, .int 0, .int 0, .int 0, .int 0, .int 0, .int 0, .int 0, .int 0])), (x8, .inr (4, [.ref x9, .ref x10, .ref x11, .ref x12, .int 0, .int 0, .int 10, .int 0])), (x9, .inl (cA 0, 12, .inl (fun _ => 0))), (x10, .inl (cA 0, 25, .inl (fun _ => 0))), (x11, .inl (cA 0, 5, .inl (fun _ => 0))), (x12, .inl (cA 0, 5, .inl (fun _ => 0))), (x13, .inr (6, [.ref x2, .ref x14, .ref x15, .ref x16, .ref x17, .ref x18, .int 0, .int 0, .int 0, .int 0, .int 0, .int 0, .int 0, .int 0, .int 0, .int 0, .int 0])), (x14, .inl (cA 0, 5, .inl (fun _ => 0))), (x15, .inl (cA 0, 5, .inl (fun _ => 0))), (x16, .inl (cA 0, 5, .inl (fun _ => 0))), (x17, .inl (cA 0, 5, .inl (fun _ => 0))), (x18, .inl (cA 0, 5, .inl (fun _ => 0))), (x19, .inr (0, [.int 0, .int 0, .int 0, .int 0, .int 0])), (x20, .inr (2, [.ref x21, .ref x22, .int 0])), (x21, .inl (cA 0, 6, .inl (fun _ => 0))), (x22, .inl (cA 0, 6, .inl (fun _ => 0))), (x23, .inl (cA 3, 2, .inr (.inr (.inr (.inr (va_up (va_up (fun _ => none) 0 (some x24)) 1 (some x29))))))), (x24, .inr (4, [.ref x25, .ref x26, .ref x27, .ref x28, .int 0, .int 0, .int 10, .int 0])), (x25, .inl (cA 0, 12, .inl (fun _ => 0))), (x26, .inl (cA 0, 25, .inl (fun _ => 0))), (x27, .inl (cA 0, 5, .inl (fun _ => 0))), (x28, .inl (cA 0, 5, .inl (fun _ => 0))), (x29, .inr (4, [.ref x30, .ref x31, .ref x32, .ref x33, .int 0, .int 0, .int 10, .int 0])), (x30, .inl (cA 0, 12, .inl (fun _ => 0))), (x31, .inl (cA 0, 25, .inl (fun _ => 0))), (x32, .inl (cA 0, 5, .inl (fun _ => 0))), (x33, .inl (cA 0, 5, .inl (fun _ => 0))), (x34, .inl (cA 2, 2, .inl (fun _ => 0))), (x35, .inr (3, [.ref x36, .ref x41, .ref x42])), (x36, .inl (cA 4, 4, .inr (.inr (.inr (.inr (fun i => if i < 4 then some (if i = 0 then x37 else if i = 1 then x38 else if i = 2 then x39 else x40) else none)))))), (x37, .inl (cA 0, 40, .inl (fun _ => 0))), (x38, .inl (cA 0, 40, .inl (fun _ => 0))), (x39, .inl (cA 0, 40, .inl (fun _ => 0))), (x40, .inl (cA 0, 40, .inl (fun _ => 0))), (x41, .inl (cA 0, 4, .inl (fun _ => 0))), (x42, .inl (cA 0, 4, .inl (fl [-1, -1, -1, -1]))), (gm, .inr (8, [.ref m0, .ref m1, .ref m2, .int 0, .ref m3, .int 0, .ref m4, .ref m5, .ref m6, .ref m7, .int 0, .int 0, .int 0, .ref m8, .ref m9, .int 0, .int 0, .ref m10, .int 0, .int 0, .int 0, .int 0, .int 0, .int 0, .int 0, .int 0, .ref m11, .ref m12, .ref m13, .int 0, .int 0, .int 0, .int 0, .int 0, .int 0, .int 0, .int 0, .int 0, .ref m14, .int 0, .ref m15, .ref m16, .ref m17, .ref m18, .int 0])), (m0, .inl (cA 0, 160, .inl (fun _ => 0))), (m1, .inl (cA 0, 6, .inl (fun _ => 0))), (m2, .inl (cA 0, 6, .inl (fun _ => 0))), (m3, .inl (cA 0, 5, .inl (fun _ => 0))), (m4, .inl (cA 0, 32, .inl (fun _ => 0))), (m5, .inl (cA 0, 6, .inl (fun _ => 0))), (m6, .inl (cA 0, 6, .inl (fun _ => 0))), (m7, .inl (cA 0, 5, .inl (fun _ => 0))), (m8, .inl (cA 0, 10, .inl (fun _ => 0))), (m9, .inl (cA 0, 2, .inl (fun _ => 0))), (m10, .inl (cA 0, 160, .inl (fun _ => 0))), (m11, .inl (cA 0, 14, .inl (fl [0, 4, 6, 10, 15, 19, 24, 28, 33, 38, 42, 45, 49, 57]))), (m12, .inl (cA 0, 57, .inl (fl [114, 111, 97, 100, 117, 112, 100, 111, 119, 110, 111, 114, 100, 101, 114, 112, 117, 115, 104, 115, 116, 97, 114, 116, 112, 97, 99, 107, 114, 111, 117, 110, 100, 112, 108, 97, 105, 110, 101, 103, 103, 115, 105, 99, 101, 115, 111, 100, 97, 112, 97, 114, 97, 102, 102, 105, 110]))), (m13, .inl (cA 0, 5, .inl (fun _ => 0))), (m14, .inl (cA 0, 12, .inl (fun _ => 0))), (m15, .inl (cA 2, 2, .inl (fun _ => 0))), (m16, .inl (cA 0, 4, .inl (fl [-4, -4, -4, -4]))), (m17, .inl (cA 0, 4, .inl (fun _ => 0))), (m18, .inl (cA 0, 160, .inl (fun _ => 0)))] : va_W).map (fun q => q.1) = [gx, x0, x1, x2, x3, x4, x5, x6, x7, x8, x9, x10, x11, x12, x13, x14, x15, x16, x17, x18, x19, x20, x21, x22, x23, x24, x25, x26, x27, x28, x29, x30, x31, x32, x33, x34, x35, x36, x37, x38, x39, x40, x41, x42, gm, m0, m1, m2, m3, m4, m5, m6, m7, m8, m9, m10, m11, m12, m13, m14, m15, m16, m17, m18] := rfl
  have hinj := as_inj hmap hD
  have hin := as_in hmap hD
  have hlt := as_lt hmap hP
  have hlen : ([gx, x0, x1, x2, x3, x4, x5, x6, x7, x8, x9, x10, x11, x12, x13, x14, x15, x16, x17, x18, x19, x20, x21, x22, x23, x24, x25, x26, x27, x28, x29, x30, x31, x32, x33, x34, x35, x36, x37, x38, x39, x40, x41, x42, gm, m0, m1, m2, m3, m4, m5, m6, m7, m8, m9, m10, m11, m12, m13, m14, m15, m16, m17, m18] : List Nat).length = 64 := rfl
  have hPX : va_P (dC, dI) vwCl (wd (mkX [gx, x0, x1, x2, x3, x4, x5, x6, x7, x8, x9, x10, x11, x12, x13, x14, x15, x16, x17, x18, x19, x20, x21, x22, x23, x24, x25, x26, x27, x28, x29, x30, x31, x32, x33, x34, x35, x36, x37, x38, x39, x40, x41, x42, gm, m0, m1, m2, m3, m4, m5, m6, m7, m8, m9, m10, m11, m12, m13, m14, m15, m16, m17, m18] adK adV qS) cA dsX mX0) H := by
    rw [toX]
    rw [ref2, ref4] at hP
    exact hP.sub [0, 1, 2, 3, 4, 5, 6, 7, 25, 26, 27, 28, 29, 30, 31, 32, 33, 34, 9, 10, 11, 12, 13, 8, 14, 15, 16, 17, 18, 19, 20, 21, 22, 23, 24, 35, 36, 37, 38, 39, 40, 41, 42, 43] rfl
  have hPM : va_P (dC, dI) vwCl (wd (mkM [gx, x0, x1, x2, x3, x4, x5, x6, x7, x8, x9, x10, x11, x12, x13, x14, x15, x16, x17, x18, x19, x20, x21, x22, x23, x24, x25, x26, x27, x28, x29, x30, x31, x32, x33, x34, x35, x36, x37, x38, x39, x40, x41, x42, gm, m0, m1, m2, m3, m4, m5, m6, m7, m8, m9, m10, m11, m12, m13, m14, m15, m16, m17, m18]) cA dsM mM0) H := by
    rw [toM]
    exact hP.sub [44, 45, 46, 47, 48, 49, 50, 51, 52, 53, 54, 55, 56, 57, 58, 59, 60, 61, 62, 63] rfl
  have e0x : mkX [gx, x0, x1, x2, x3, x4, x5, x6, x7, x8, x9, x10, x11, x12, x13, x14, x15, x16, x17, x18, x19, x20, x21, x22, x23, x24, x25, x26, x27, x28, x29, x30, x31, x32, x33, x34, x35, x36, x37, x38, x39, x40, x41, x42, gm, m0, m1, m2, m3, m4, m5, m6, m7, m8, m9, m10, m11, m12, m13, m14, m15, m16, m17, m18] adK adV qS 0 = gx := rfl
  have e0m : mkM [gx, x0, x1, x2, x3, x4, x5, x6, x7, x8, x9, x10, x11, x12, x13, x14, x15, x16, x17, x18, x19, x20, x21, x22, x23, x24, x25, x26, x27, x28, x29, x30, x31, x32, x33, x34, x35, x36, x37, x38, x39, x40, x41, x42, gm, m0, m1, m2, m3, m4, m5, m6, m7, m8, m9, m10, m11, m12, m13, m14, m15, m16, m17, m18] 0 = gm := rfl
  generalize has : ([gx, x0, x1, x2, x3, x4, x5, x6, x7, x8, x9, x10, x11, x12, x13, x14, x15, x16, x17, x18, x19, x20, x21, x22, x23, x24, x25, x26, x27, x28, x29, x30, x31, x32, x33, x34, x35, x36, x37, x38, x39, x40, x41, x42, gm, m0, m1, m2, m3, m4, m5, m6, m7, m8, m9, m10, m11, m12, m13, m14, m15, m16, m17, m18] : List Nat) = as at *
  have hgX : ∀ k, k < 44 → mkX as adK adV qS k = as.getD (pX.getD k 0) 0 := fun k hk => by simp [mkX, show k < 1000 by omega]
  have hXk : ∀ k, mkX as adK adV qS (1000 + k) = if k < 1000 then adK k else if 1000 + k < 3000 then adV (1000 + k - 2000) else qS := fun k => by
    unfold mkX
    rw [if_neg (by omega)]
    by_cases h : k < 1000
    · rw [if_pos (by omega), if_pos h, show 1000 + k - 1000 = k by omega]
    · rw [if_neg (by omega), if_neg h]
  have hXv : ∀ k, k < 1000 → mkX as adK adV qS (2000 + k) = adV k := fun k hk => by
    unfold mkX
    rw [if_neg (by omega), if_neg (by omega), if_pos (by omega), show 2000 + k - 2000 = k by omega]
  have hXs : mkX as adK adV qS 3000 = qS := by
    unfold mkX
    rw [if_neg (by omega), if_neg (by omega), if_neg (by omega)]
  have hXi : ∀ i j : Nat, i < 44 → j < 44 → mkX as adK adV qS i = mkX as adK adV qS j → i = j := fun i j hi hj h => by
    rw [hgX i hi, hgX j hj] at h
    have h1 := pX_lt i hi
    have h2 := pX_lt j hj
    exact pX_inj i hi j hj (hinj _ _ (by rw [hlen]; omega) (by rw [hlen]; omega) h)
  have hMi : ∀ i j : Nat, i < 20 → j < 20 → mkM as i = mkM as j → i = j := fun i j hi hj h => by
    have := hinj (44 + i) (44 + j) (by rw [hlen]; omega) (by rw [hlen]; omega) h
    omega
  have hXM : ∀ i j : Nat, i < 44 → j < 20 → mkX as adK adV qS i ≠ mkM as j := fun i j hi hj h => by
    rw [hgX i hi] at h
    have h1 := pX_lt i hi
    have := hinj _ (44 + j) (by rw [hlen]; omega) (by rw [hlen]; omega) h
    omega
  have hXn : ∀ k, k < 44 → s.heap.size ≤ mkX as adK adV qS k ∧ mkX as adK adV qS k < H.size := fun k hk => by
    have h1 := pX_lt k hk
    rw [hgX k hk]
    exact ⟨hin _ (by rw [hlen]; omega), hlt _ (by rw [hlen]; omega)⟩
  have hMn : ∀ k, k < 20 → s.heap.size ≤ mkM as k ∧ mkM as k < H.size := fun k hk => ⟨hin _ (by rw [hlen]; omega), hlt _ (by rw [hlen]; omega)⟩
  have hsz : s.heap.size ≤ H.size := hS.1
  have hnar : ∀ q, lwA H.size (mkX as adK adV qS) 44 q → s.heap.size ≤ q := fun q hq => by
    rcases hq with ⟨k, hk, rfl⟩ | hq
    · exact (hXn k hk).1
    · omega
  have hEX : EX (lwA H.size (mkX as adK adV qS) 44) (mkX as adK adV qS) s := by
    refine ⟨⟨va_Nw.of rfl (hts _ tN_RX1_186), va_Nw.of rfl (hts _ tN_RX1_163), va_Nw.of rfl (hts _ tN_RX1_167)⟩, fun k hk => ?_, ?_, hZ1.narrow hnar, ?_⟩
    · rw [hXk, if_pos (by omega)]
      exact vk_R.of (hts _ (sR k hk)) (hSe k hk)
    · have h9 := hSt.narrow hnar
      refine ⟨fun i hi => ?_, fun i j hi hj h => ?_⟩
      · show va_O _ (mkX as adK adV qS (1000 + i)) _ _ _ ∧ va_OF _ _ _ _ (mkX as adK adV qS (1000 + i)) _ _ _ ∧ va_OF _ _ _ (.ref (mkX as adK adV qS (2000 + i))) (mkX as adK adV qS (1000 + i)) _ _ _ ∧ va_T _ (mkX as adK adV qS (2000 + i)) _ _ _ _ _
        rw [hXk, if_pos (by omega), hXv i (by omega)]
        exact h9.1 i hi
      · have h : mkX as adK adV qS (1000 + i) = mkX as adK adV qS (1000 + j) := h
        rw [hXk, hXk, if_pos (by omega), if_pos (by omega)] at h
        exact h9.2 i j hi hj h
    · rw [hXs]
      exact hZ2.narrow hnar
  have CLx : CL p s m meth c b L xs (dC, dI) (mkX as adK adV qS) (mkM as) cA H.size := by
    refine ⟨C0, hL, hK, hEX, ⟨fun μ => wd_D (ds := dsX) (n := 44) rfl hXi μ, EX1 _ _, EX2 _ _⟩, ⟨fun μ => wd_D (ds := dsM) (n := 20) rfl hMi μ, EM1, EM2 _⟩, fun k hk => ⟨(hXn k hk).1, fun h => ?_⟩, fun k hk => ⟨(hMn k hk).1, fun h => ?_⟩, hsz⟩
    · rcases h with ⟨j, hj, h⟩ | h
      · exact hXM k j hk hj h
      · have := (hXn k hk).2
        omega
    · rcases h with ⟨j, hj, h⟩ | h
      · exact hXM j k hj hk h.symm
      · have := (hMn k hk).2
        omega
  refine law_loop CLx hA (L + 6) 0 mX0 mM0 (by omega) (by omega) h0 H _ ls (Nat.le_refl _) hPX hPM hS ?_
  rw [e0x, e0m]
  exact lv_sub hl [3, 2, 1, 0] rfl
