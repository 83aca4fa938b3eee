/-! ===== the text: what has been told ===== -/
def sbs : Nat → List (List Nat)
  | 0 => [[]]
  | k + 1 => (sbs k).flatMap (fun A => ((List.range 5).filter (fun o => !A.contains o)).map (fun o => A ++ [o]))
theorem sb_ok : ∀ k, k < 6 → ∀ A ∈ sbs k, (abm (rw_ A) k < 32 ∧ popc (abm (rw_ A) k) = k ∧ ∀ i, i < k → rw_ A i < 5) := by decide +kernel
theorem sb_a1 : ∀ k, k < 6 → ∀ A ∈ sbs k, ∀ v, v < 5 → ((abm (rw_ A) k).testBit v = true ∨ (k < 5 ∧ A ++ [v] ∈ sbs (k + 1))) := by decide +kernel
theorem sb_a2 : ∀ k, k < 6 → ∀ A ∈ sbs k, ∀ v, v < 5 → (abm (rw_ (A ++ [v])) (k + 1) = abm (rw_ A) k ||| 2 ^ v ∧ rw_ (A ++ [v]) k = v) := by decide +kernel
theorem sb_a3 : ∀ k, k < 6 → ∀ A ∈ sbs k, ∀ v, v < 5 → ∀ i, i < k → rw_ (A ++ [v]) i = rw_ A i := by decide +kernel
theorem sb_app {k v : Nat} {A : List Nat} (hk : k < 6) (hA : A ∈ sbs k) (hv : v < 5) (hb : (abm (rw_ A) k).testBit v = false) : k < 5 ∧ A ++ [v] ∈ sbs (k + 1) ∧ abm (rw_ (A ++ [v])) (k + 1) = abm (rw_ A) k ||| 2 ^ v ∧ (∀ i, i < k → rw_ (A ++ [v]) i = rw_ A i) ∧ rw_ (A ++ [v]) k = v := by
  have h1 := (sb_a1 k hk A hA v hv).resolve_left (by rw [hb]; decide)
  have h2 := sb_a2 k hk A hA v hv
  exact ⟨h1.1, h1.2, h2.1, sb_a3 k hk A hA v hv, h2.2⟩
def hiB (U : Nat) : Nat := if U < 1 then 0 else if U < 2 then 1 else if U < 4 then 2 else if U < 8 then 3 else if U < 16 then 4 else 5
theorem hi_or : ∀ U, U < 32 → ∀ v, v < 5 → (hiB U < 6 ∧ hiB (U ||| 2 ^ v) = if v + 1 ≤ hiB U then hiB U else v + 1) := by decide +kernel
theorem pI_le : ∀ v, v < 5 → ∀ h, h < 6 → ((nI v ≤ pI h) ↔ v + 1 ≤ h) := by decide +kernel
def dHs (μ κ : Mem) (h : Nat) : Prop := h ≤ 6 ∧ μ 18 4 = nI h ∧ κ 0 10 = nI h ∧ ∀ j, j < h → ∃ x y, 1 ≤ x ∧ x ≤ 9 ∧ y ≤ 2 ∧ μ 19 (2 * j) = nI x ∧ κ 6 j = nI x ∧ μ 19 (2 * j + 1) = nI y ∧ κ 7 j = nI y
def dOr (μ κ : Mem) (m hh : Nat) : Prop := m ≤ 5 ∧ hh ≤ 6 ∧ μ 18 5 = nI m ∧ κ 0 11 = nI m ∧ κ 0 15 = nI hh ∧ (hh = 0 ∨ ∃ o, o < m ∧ μ 20 (5 * o + 1) = nI hh) ∧ ∀ o, o < m → ∃ k d w p u, k < 5 ∧ 1 ≤ d ∧ d ≤ hh ∧ 1 ≤ w ∧ w ≤ 9 ∧ p ≤ 9 ∧ u ≤ 99 ∧ μ 20 (5 * o) = nI k ∧ μ 20 (5 * o + 1) = nI d ∧ μ 20 (5 * o + 2) = nI w ∧ μ 20 (5 * o + 3) = nI p ∧ μ 20 (5 * o + 4) = nI u ∧ κ 5 o = nI k ∧ κ 8 o = nI d ∧ κ 5 (5 + o) = nI w ∧ κ 5 (10 + o) = nI p ∧ κ 5 (15 + o) = nI u
def dPS (μ κ : Mem) : Prop := (∃ k, k ≤ 60 ∧ μ 18 6 = nI k ∧ κ 5 30 + 10 = nI k) ∧ (∃ k, k ≤ 60 ∧ μ 18 7 = nI k ∧ κ 5 31 = nI k)
def dTl (μ κ : Mem) (L T : Nat) : Prop := L < 16 ∧ T < 256 ∧ μ 23 9 = nI L ∧ κ 0 12 = nI T ∧ ∀ j, j < 4 → T.testBit (4 + j) = L.testBit j
def dRw (μ κ : Mem) (r k : Nat) (A : List Nat) : Prop := k ≤ 5 ∧ A ∈ sbs k ∧ (∀ i, i < k → μ (21 + r) i = nI (rw_ A i) ∧ κ 9 (5 * r + i) = nI (rw_ A i)) ∧ κ 10 r = nI k ∧ μ 23 (10 + r) = nI (abm (rw_ A) k)
def dHi (κ : Mem) (U : Nat) : Prop := U < 32 ∧ κ 0 16 = pI (hiB U)
theorem dHs_f {μ κ ν ξ : Mem} {h : Nat} (H : dHs μ κ h) (a : ν 18 4 = μ 18 4) (b : ν 19 = μ 19) (d : ξ 0 10 = κ 0 10) (e : ξ 6 = κ 6) (f : ξ 7 = κ 7) : dHs ν ξ h := by
  unfold dHs; rw [a, b, d, e, f]; exact H
theorem dOr_f {μ κ ν ξ : Mem} {m hh : Nat} (H : dOr μ κ m hh) (a : ν 18 5 = μ 18 5) (b : ν 20 = μ 20) (d : ξ 0 11 = κ 0 11) (e : ξ 0 15 = κ 0 15) (f : ∀ j, j < 20 → ξ 5 j = κ 5 j) (g : ξ 8 = κ 8) : dOr ν ξ m hh := by
  have hm := H.1
  unfold dOr
  rw [a, b, d, e, g]
  refine ⟨H.1, H.2.1, H.2.2.1, H.2.2.2.1, H.2.2.2.2.1, H.2.2.2.2.2.1, fun o ho => ?_⟩
  rw [f o (by omega), f (5 + o) (by omega), f (10 + o) (by omega), f (15 + o) (by omega)]
  exact H.2.2.2.2.2.2 o ho
theorem dPS_f {μ κ ν ξ : Mem} (H : dPS μ κ) (a : ν 18 6 = μ 18 6) (b : ν 18 7 = μ 18 7) (d : ξ 5 30 = κ 5 30) (e : ξ 5 31 = κ 5 31) : dPS ν ξ := by
  unfold dPS; rw [a, b, d, e]; exact H
theorem dTl_f {μ κ ν ξ : Mem} {L T : Nat} (H : dTl μ κ L T) (a : ν 23 9 = μ 23 9) (b : ξ 0 12 = κ 0 12) : dTl ν ξ L T := by
  unfold dTl; rw [a, b]; exact H
theorem dRw_f {μ κ ν ξ : Mem} {r k : Nat} {A : List Nat} (H : dRw μ κ r k A) (a : ν (21 + r) = μ (21 + r)) (b : ν 23 (10 + r) = μ 23 (10 + r)) (d : ∀ i, i < 5 → ξ 9 (5 * r + i) = κ 9 (5 * r + i)) (e : ξ 10 r = κ 10 r) : dRw ν ξ r k A := by
  have hk := H.1
  unfold dRw; rw [a, b, e]
  exact ⟨H.1, H.2.1, fun i hi => by rw [d i (by omega)]; exact H.2.2.1 i hi, H.2.2.2⟩
theorem dHi_f {κ ξ : Mem} {U : Nat} (H : dHi κ U) (a : ξ 0 16 = κ 0 16) : dHi ξ U := by
  unfold dHi; rw [a]; exact H
def DTp (μ κ : Mem) (nh m hh L T k0 k1 : Nat) (A B : List Nat) : Prop := (dHs μ κ nh) ∧ (dOr μ κ m hh) ∧ (dPS μ κ) ∧ (dTl μ κ L T) ∧ (dRw μ κ 0 k0 A) ∧ (dRw μ κ 1 k1 B) ∧ (dHi κ (abm (rw_ A) k0 ||| abm (rw_ B) k1)) ∧ (L.testBit 2 = false → k0 = 0) ∧ (L.testBit 3 = false → k1 = 0)
theorem DTp.hs {μ κ : Mem} {nh m hh L T k0 k1 : Nat} {A B : List Nat} (h : DTp μ κ nh m hh L T k0 k1 A B) : dHs μ κ nh := h.1
theorem DTp.od {μ κ : Mem} {nh m hh L T k0 k1 : Nat} {A B : List Nat} (h : DTp μ κ nh m hh L T k0 k1 A B) : dOr μ κ m hh := h.2.1
theorem DTp.ps {μ κ : Mem} {nh m hh L T k0 k1 : Nat} {A B : List Nat} (h : DTp μ κ nh m hh L T k0 k1 A B) : dPS μ κ := h.2.2.1
theorem DTp.tl {μ κ : Mem} {nh m hh L T k0 k1 : Nat} {A B : List Nat} (h : DTp μ κ nh m hh L T k0 k1 A B) : dTl μ κ L T := h.2.2.2.1
theorem DTp.r0 {μ κ : Mem} {nh m hh L T k0 k1 : Nat} {A B : List Nat} (h : DTp μ κ nh m hh L T k0 k1 A B) : dRw μ κ 0 k0 A := h.2.2.2.2.1
theorem DTp.r1 {μ κ : Mem} {nh m hh L T k0 k1 : Nat} {A B : List Nat} (h : DTp μ κ nh m hh L T k0 k1 A B) : dRw μ κ 1 k1 B := h.2.2.2.2.2.1
theorem DTp.hi {μ κ : Mem} {nh m hh L T k0 k1 : Nat} {A B : List Nat} (h : DTp μ κ nh m hh L T k0 k1 A B) : dHi κ (abm (rw_ A) k0 ||| abm (rw_ B) k1) := h.2.2.2.2.2.2.1
theorem DTp.z0 {μ κ : Mem} {nh m hh L T k0 k1 : Nat} {A B : List Nat} (h : DTp μ κ nh m hh L T k0 k1 A B) : L.testBit 2 = false → k0 = 0 := h.2.2.2.2.2.2.2.1
theorem DTp.z1 {μ κ : Mem} {nh m hh L T k0 k1 : Nat} {A B : List Nat} (h : DTp μ κ nh m hh L T k0 k1 A B) : L.testBit 3 = false → k1 = 0 := h.2.2.2.2.2.2.2.2
def DT (μ κ : Mem) : Prop := ∃ h m hh L T k0 k1 A B, DTp μ κ h m hh L T k0 k1 A B
theorem DTp.f {μ κ ν ξ : Mem} {h m hh L T k0 k1 : Nat} {A B : List Nat} (H : DTp μ κ h m hh L T k0 k1 A B) (g : cF μ ν) (q : rF κ ξ) : DTp ν ξ h m hh L T k0 k1 A B := by
  have e18 := g.1 18 (by decide)
  refine ⟨dHs_f H.hs (by rw [e18]) (g.1 19 (by decide)) (q.2 10 (by decide)) (q.1 6 (by decide)) (q.1 7 (by decide)), dOr_f H.od (by rw [e18]) (g.1 20 (by decide)) (q.2 11 (by decide)) (q.2 15 (by decide)) (fun j _ => by rw [q.1 5 (by decide)]) (q.1 8 (by decide)), dPS_f H.ps (by rw [e18]) (by rw [e18]) (by rw [q.1 5 (by decide)]) (by rw [q.1 5 (by decide)]), dTl_f H.tl (g.2 9 (by decide)) (q.2 12 (by decide)), dRw_f H.r0 (g.1 21 (by decide)) (g.2 10 (by decide)) (fun i _ => by rw [q.1 9 (by decide)]) (by rw [q.1 10 (by decide)]), dRw_f H.r1 (g.1 22 (by decide)) (g.2 11 (by decide)) (fun i _ => by rw [q.1 9 (by decide)]) (by rw [q.1 10 (by decide)]), dHi_f H.hi (q.2 16 (by decide)), H.z0, H.z1⟩
def fsS (ν : Mem) : Prop := (∃ m, m ≤ 5 ∧ ν 18 5 = nI m) ∧ (∃ a, a < 32 ∧ ν 23 10 = nI a) ∧ (∃ b, b < 32 ∧ ν 23 11 = nI b)
theorem DTp.s {μ κ : Mem} {h m hh L T k0 k1 : Nat} {A B : List Nat} (H : DTp μ κ h m hh L T k0 k1 A B) : fsS μ :=
  ⟨⟨m, H.od.1, H.od.2.2.1⟩, ⟨_, (sb_ok k0 (by have := H.r0.1; omega) A H.r0.2.1).1, H.r0.2.2.2.2⟩, ⟨_, (sb_ok k1 (by have := H.r1.1; omega) B H.r1.2.1).1, H.r1.2.2.2.2⟩⟩
theorem fsS_f {μ ν : Mem} (H : fsS μ) (a : ν 18 5 = μ 18 5) (b : ν 23 10 = μ 23 10) (d : ν 23 11 = μ 23 11) : fsS ν := by
  unfold fsS; rw [a, b, d]; exact H
theorem fsS_c {μ ν : Mem} (H : fsS μ) (g : cF μ ν) : fsS ν := fsS_f H (by rw [g.1 18 (by decide)]) (g.2 10 (by decide)) (g.2 11 (by decide))
def lX (μ ν : Mem) : Prop := (∀ b, b < 18 ∨ 23 < b → ν b = μ b) ∧ ν 23 2 = μ 23 2
def lM (κ ξ : Mem) : Prop := (∀ b, b ≠ 0 → (b < 5 ∨ 10 < b) → ξ b = κ b) ∧ (∀ j, j < 10 ∨ (16 < j ∧ j < 20) ∨ 25 < j → ξ 0 j = κ 0 j)
theorem lX.t {μ ν ζ : Mem} (h : lX μ ν) (g : lX ν ζ) : lX μ ζ := ⟨fun b hb => (g.1 b hb).trans (h.1 b hb), g.2.trans h.2⟩
theorem lM.t {μ ν ζ : Mem} (h : lM μ ν) (g : lM ν ζ) : lM μ ζ := ⟨fun b h1 h2 => (g.1 b h1 h2).trans (h.1 b h1 h2), fun j hj => (g.2 j hj).trans (h.2 j hj)⟩
theorem lX.r (μ : Mem) : lX μ μ := ⟨fun _ _ => rfl, rfl⟩
theorem lM.r (μ : Mem) : lM μ μ := ⟨fun _ _ _ => rfl, fun _ _ => rfl⟩
theorem cF.l {μ ν : Mem} (h : cF μ ν) : lX μ ν := ⟨fun b hb => h.1 b (by omega), h.2 2 (by decide)⟩
theorem rF.l {μ ν : Mem} (h : rF μ ν) : lM μ ν := ⟨fun b h1 _ => h.1 b h1, fun j hj => h.2 j (by omega)⟩
theorem lX.w (μ : Mem) {k : Nat} (j : Nat) (v : Int32) (h1 : 18 ≤ k) (h2 : k ≤ 22) : lX μ (wr μ k j v) := ⟨fun b hb => wr_f _ _ _ _ (by omega), wr_o (by omega)⟩
theorem lX.v (μ : Mem) {j : Nat} (v : Int32) (h : j ≠ 2) : lX μ (wr μ 23 j v) := ⟨fun b hb => wr_f _ _ _ _ (by omega), wr_o (by omega)⟩
theorem lM.w (μ : Mem) {k : Nat} (j : Nat) (v : Int32) (h1 : 5 ≤ k) (h2 : k ≤ 10) : lM μ (wr μ k j v) := ⟨fun b h3 hb => wr_f _ _ _ _ (by omega), fun i _ => wr_o (by omega)⟩
theorem lM.v (μ : Mem) {j : Nat} (v : Int32) (h1 : 10 ≤ j) (h2 : j ≤ 16) : lM μ (wr μ 0 j v) := ⟨fun b h3 hb => wr_f _ _ _ _ h3, fun i hi => wr_o (by omega)⟩
theorem tpX_l {μ ν : Mem} {t : Nat} {c : Nat → Nat} (h : tpX μ t c) (g : lX μ ν) : tpX ν t c := ⟨h.1, by rw [g.1 1 (by decide)]; exact h.2.1, fun i hi => by rw [g.1 2 (by decide)]; exact h.2.2 i hi⟩
theorem tpM_l {κ ξ : Mem} {t : Nat} {c : Nat → Nat} (h : tpM κ t c) (g : lM κ ξ) : tpM ξ t c := ⟨h.1, by rw [g.2 18 (by decide)]; exact h.2.1, fun i hi => by rw [g.1 11 (by decide) (by decide)]; exact h.2.2 i hi⟩
def LR (t p : Nat) (ν ξ : Mem) : Prop := (DT ν ξ ∧ TKs ν ξ t (p + 1)) ∨ (FLT ν ξ ∧ fsS ν)
theorem line_end {ν ξ : Mem} {t p : Nat} {c : Nat → Nat} (hx : tpX ν t c) (hm : tpM ξ t c) (h : SM ν ξ t p) (hd : ν 23 3 = 0 → DT ν ξ) (hs : fsS ν) : ∃ ν' ξ', fX1_readLine_J203 ν = some ν' ∧ semi ξ = some ξ' ∧ lX ν ν' ∧ lM ξ ξ' ∧ LR t p ν' ξ' := by
  obtain ⟨ν', ξ', a1, a2, a3, a4, a5, a6⟩ := semi_step hx hm h
  refine ⟨ν', ξ', a1, a2, a3.l, a4.l, ?_⟩
  rcases a5 with h1 | h1
  · obtain ⟨_, _, _, _, _, _, _, _, _, H⟩ := hd (a6 h1.n.1)
    exact Or.inl ⟨⟨_, _, _, _, _, _, _, _, _, H.f a3 a4⟩, h1⟩
  · exact Or.inr ⟨h1, fsS_c hs a3⟩
theorem ite_bd {α : Type} {p : Prop} [Decidable p] {x y : α} : (if bI (decide p) = (0 : Int32) then x else y) = if p then y else x := by
  by_cases h : p
  · rw [decide_eq_true h, if_neg bI_t, if_pos h]
  · rw [decide_eq_false h, if_pos bI_f, if_neg h]
theorem x_line {μ : Mem} {N : Nat} (hN : ∀ sk, sk < 13 → fX1_isNamed sk μ = some (bI (decide (sg sk = N)), μ)) : fX1_readLine μ = if sg 0 = N then (bv (fX1_readHouse (0 : Int32) μ) fun m37 => fX1_readLine_J203 m37) else if sg 1 = N then (bv (fX1_readHouse (1 : Int32) μ) fun m36 => fX1_readLine_J203 m36) else if sg 2 = N then (bv (fX1_readHouse (2 : Int32) μ) fun m35 => fX1_readLine_J203 m35) else if sg 3 = N then (bv (fX1_readOrder μ) fun m34 => fX1_readLine_J203 m34) else if sg 9 = N then (bv (fX1_takeOnce (1 : Int32) μ) fun m30 => bi (fX1_takeNumber (0 : Int32) (60 : Int32) m30) fun v32 m31 => lb (wr m31 18 6 v32) fun m33 => fX1_readLine_J203 m33) else if sg 10 = N then (bv (fX1_takeOnce (2 : Int32) μ) fun m26 => bi (fX1_takeNumber (0 : Int32) (60 : Int32) m26) fun v28 m27 => lb (wr m27 18 7 v28) fun m29 => fX1_readLine_J203 m29) else if sg 11 = N then (bv (fX1_takeOnce (4 : Int32) μ) fun m22 => bi (fX1_takeRow 21 m22) fun v24 m23 => lb (wr m23 23 10 v24) fun m25 => fX1_readLine_J203 m25) else if sg 12 = N then (bv (fX1_takeOnce (8 : Int32) μ) fun m18 => bi (fX1_takeRow 22 m18) fun v20 m19 => lb (wr m19 23 11 v20) fun m21 => fX1_readLine_J203 m21) else (bv (fX1_fail (2 : Int32) (μ 23 6) μ) fun m17 => fX1_readLine_J203 m17) := by
  unfold fX1_readLine
  rw [hN 0 (by decide), bi_e, ite_bd, hN 1 (by decide), bi_e, ite_bd, hN 2 (by decide), bi_e, ite_bd, hN 3 (by decide), bi_e, ite_bd, hN 9 (by decide), bi_e, ite_bd, hN 10 (by decide), bi_e, ite_bd, hN 11 (by decide), bi_e, ite_bd, hN 12 (by decide), bi_e, ite_bd]
/-! the reference's line -/
theorem tl_or : ∀ N, N < 8 → ∀ a, a < 16 → ∀ b, b < 16 → (nI (16 * a + b) ||| ((1 : Int32) <<< (nI N &&& 31)) = nI ((16 * a + b) ||| 2 ^ N) ∧ (16 * a + b) ||| 2 ^ N < 256 ∧ ((((nI (16 * a + b) >>> (nI N &&& 31)) &&& (1 : Int32)) = 1) ↔ (16 * a + b).testBit N = true)) := by decide +kernel
theorem tl_o {N T : Nat} (hN : N < 8) (hT : T < 256) : nI T ||| ((1 : Int32) <<< (nI N &&& 31)) = nI (T ||| 2 ^ N) ∧ T ||| 2 ^ N < 256 ∧ ((((nI T >>> (nI N &&& 31)) &&& (1 : Int32)) = 1) ↔ T.testBit N = true) := by
  have h := tl_or N hN (T / 16) (by omega) (T % 16) (Nat.mod_lt _ (by decide))
  rw [Nat.div_add_mod] at h
  exact h
theorem tl_p : ∀ N, N < 8 → ∀ j, j < 4 → (2 ^ N).testBit (4 + j) = decide (N = 4 + j) := by decide +kernel
theorem tl_q : ∀ N, N < 4 → ∀ j, j < 4 → (2 ^ N).testBit j = decide (N = j) := by decide +kernel
theorem tl_x : ∀ L, L < 16 → ∀ j, j < 4 → (nI L ||| nI (2 ^ j) = nI (L ||| 2 ^ j) ∧ L ||| 2 ^ j < 16 ∧ ((nI L &&& nI (2 ^ j) = 0) ↔ L.testBit j = false)) := by decide +kernel
theorem m_l7 {N : Nat} (hN : N ≤ 7) (κ : Mem) : fX8_in (nI N).toInt64 (0 : Int64) (7 : Int64) κ = some (1, κ) := by
  rw [m_inl (a' := 0) (b' := 7) (by decide) (by decide), if_pos ⟨by rw [show (0 : Int32) = nI 0 from rfl, le_nI (by omega) (by omega)]; omega, by rw [show (7 : Int32) = nI 7 from rfl, le_nI (by omega) (by omega)]; omega⟩]
/-- a name that begins no line -/
theorem m_lineN {κ : Mem} {N : Nat} (hN : N ≤ 13) (h8 : 8 ≤ N) (hn : fX8_nameHere κ = some (if N < 13 then nI N else -4, κ)) : fX8_readLine κ = fX8_fails 2 κ := by
  unfold fX8_readLine
  rw [hn, bi_e]
  have e : ¬ ((0 : Int32) ≤ (if N < 13 then nI N else -4) ∧ (if N < 13 then nI N else -4) ≤ 7) := by
    by_cases h : N < 13
    · rw [if_pos h, show (7 : Int32) = nI 7 from rfl, le_nI (by omega) (by omega)]
      omega
    · rw [if_neg h]; decide
  rw [m_inl (a' := 0) (b' := 7) (by decide) (by decide), if_neg e, bi_e, if_pos rfl, bv_s]
theorem m_J77F {κ : Mem} {N q T : Nat} (hN : N < 8) (hT : T < 256) (h1 : 1 ≤ q) (h2 : q ≤ 6) (h20 : κ 0 20 = nI q) (h12 : κ 0 12 = nI T) : fX8_readLine_J77 (nI N) κ = some (wr κ 0 12 (nI (T ||| 2 ^ N))) := by
  have e20 : wr κ 0 12 (nI (T ||| 2 ^ N)) 0 20 = nI q := by rw [wr_o (by omega)]; exact h20
  unfold fX8_readLine_J77
  rw [h12, (tl_o hN hT).1, lb_e, m_stepF h1 h2 e20, bv_e, e20, if_neg (by rw [show (0 : Int32) = nI 0 from rfl, le_nI (by omega) (by omega)]; omega)]
theorem m_J77Y {κ : Mem} {N T : Nat} (hN : N < 8) (hT : T < 256) (h12 : κ 0 12 = nI T) : fX8_readLine_J77 (nI N) κ = bv (fX8_step (wr κ 0 12 (nI (T ||| 2 ^ N)))) fun m2 => if (m2 0 20) ≤ (0 : Int32) then (bv (fX8_readMore (nI N) m2) fun m3 => semi m3) else (some m2) := by
  unfold fX8_readLine_J77 semi
  rw [h12, (tl_o hN hT).1, lb_e]
/-- the line goes on, or its name has a fault (5, 4) -/
theorem m_lineY {κ : Mem} {N h m T : Nat} (hN : N ≤ 7) (hn : fX8_nameHere κ = some (if N < 13 then nI N else -4, κ)) (hh : h ≤ 6) (hm : m ≤ 5) (hT : T < 256) (m20 : κ 0 20 = 0) (m10 : κ 0 10 = nI h) (m11 : κ 0 11 = nI m) (m12 : κ 0 12 = nI T) : ((¬ (N ≤ 2 ∧ h = 6) ∧ ¬ (N = 3 ∧ m = 5) ∧ ¬ (4 ≤ N ∧ T.testBit N = true)) → fX8_readLine κ = bv (fX8_step (wr κ 0 12 (nI (T ||| 2 ^ N)))) fun m2 => if (m2 0 20) ≤ (0 : Int32) then (bv (fX8_readMore (nI N) m2) fun m3 => semi m3) else (some m2)) ∧ (((N ≤ 2 ∧ h = 6) ∨ (N = 3 ∧ m = 5)) → fX8_readLine κ = some (wr (wr (wr κ 0 20 5) 0 21 (κ 0 23)) 0 12 (nI (T ||| 2 ^ N)))) ∧ ((4 ≤ N ∧ T.testBit N = true) → fX8_readLine κ = some (wr (wr (wr κ 0 20 4) 0 21 (κ 0 23)) 0 12 (nI (T ||| 2 ^ N)))) := by
  have e5 : fX8_readLine_J50 (nI N) κ = fX8_readLine_J55 (nI N) (wr (wr κ 0 20 5) 0 21 (κ 0 23)) := by
    unfold fX8_readLine_J50
    rw [m_fail m20, bv_e]
  have f5 : N < 4 → fX8_readLine_J55 (nI N) (wr (wr κ 0 20 5) 0 21 (κ 0 23)) = some (wr (wr (wr κ 0 20 5) 0 21 (κ 0 23)) 0 12 (nI (T ||| 2 ^ N))) := by
    intro h4
    unfold fX8_readLine_J55
    rw [if_pos (by rw [show (4 : Int32) = nI 4 from rfl, lt_nI (by omega) (by omega)]; omega)]
    exact m_J77F (q := 5) (by omega) hT (by decide) (by decide) (by rw [wr_o (by omega), wr_s]; rfl) (by rw [wr_o (by omega), wr_o (by omega)]; exact m12)
  have y55 : ¬ (4 ≤ N ∧ T.testBit N = true) → fX8_readLine_J55 (nI N) κ = fX8_readLine_J77 (nI N) κ := by
    intro hc
    unfold fX8_readLine_J55
    by_cases h4 : N < 4
    · rw [if_pos (by rw [show (4 : Int32) = nI 4 from rfl, lt_nI (by omega) (by omega)]; omega)]
    · rw [if_neg (by rw [show (4 : Int32) = nI 4 from rfl, lt_nI (by omega) (by omega)]; omega), m12, if_neg (fun q => hc ⟨by omega, ((tl_o (by omega) hT).2.2).1 q⟩)]
  have base : fX8_readLine κ = if N ≤ 2 ∧ h = 6 then fX8_readLine_J50 (nI N) κ else if N = 3 ∧ m = 5 then fX8_readLine_J50 (nI N) κ else fX8_readLine_J55 (nI N) κ := by
    unfold fX8_readLine
    rw [hn, if_pos (by omega), bi_e, m_l7 hN, bi_e, if_neg one_ne, m10]
    unfold fX8_readLine_J37
    rw [m11]
    by_cases h2 : N ≤ 2
    · rw [if_neg (show ¬ (2 : Int32) < nI N by rw [show (2 : Int32) = nI 2 from rfl, lt_nI (by omega) (by omega)]; omega), if_neg (show ¬ nI N = (3 : Int32) by rw [show (3 : Int32) = nI 3 from rfl, eq_nI (by omega) (by omega)]; omega)]
      rw [if_neg (show ¬ (N = 3 ∧ m = 5) by omega)]
      by_cases h6 : h = 6
      · rw [if_pos (show N ≤ 2 ∧ h = 6 from ⟨h2, h6⟩), if_pos (show nI h = (6 : Int32) by rw [h6]; rfl)]
      · rw [if_neg (show ¬ (N ≤ 2 ∧ h = 6) from fun q => h6 q.2), if_neg (show ¬ nI h = (6 : Int32) by rw [show (6 : Int32) = nI 6 from rfl, eq_nI (by omega) (by omega)]; omega)]
    · rw [if_pos (show (2 : Int32) < nI N by rw [show (2 : Int32) = nI 2 from rfl, lt_nI (by omega) (by omega)]; omega), if_neg (show ¬ (N ≤ 2 ∧ h = 6) from fun q => h2 q.1)]
      by_cases h3 : N = 3
      · rw [if_pos (show nI N = (3 : Int32) by rw [h3]; rfl)]
        by_cases h5 : m = 5
        · rw [if_pos (show N = 3 ∧ m = 5 from ⟨h3, h5⟩), if_pos (show nI m = (5 : Int32) by rw [h5]; rfl)]
        · rw [if_neg (show ¬ (N = 3 ∧ m = 5) from fun q => h5 q.2), if_neg (show ¬ nI m = (5 : Int32) by rw [show (5 : Int32) = nI 5 from rfl, eq_nI (by omega) (by omega)]; omega)]
      · rw [if_neg (show ¬ nI N = (3 : Int32) by rw [show (3 : Int32) = nI 3 from rfl, eq_nI (by omega) (by omega)]; omega), if_neg (show ¬ (N = 3 ∧ m = 5) from fun q => h3 q.1)]
  refine ⟨fun ⟨c1, c2, c3⟩ => ?_, fun c => ?_, fun c => ?_⟩
  · rw [base, if_neg c1, if_neg c2, y55 c3, m_J77Y (by omega) hT m12]
  · rw [base, e5, f5 (by omega)]
    by_cases c1 : N ≤ 2 ∧ h = 6
    · rw [if_pos c1]
    · rw [if_neg c1, if_pos (c.resolve_left c1)]
  · rw [base, if_neg (by omega), if_neg (by omega)]
    unfold fX8_readLine_J55
    rw [if_neg (by rw [show (4 : Int32) = nI 4 from rfl, lt_nI (by omega) (by omega)]; omega), m12, if_pos (((tl_o (by omega) hT).2.2).2 c.2), m_fail m20, bv_e]
    exact m_J77F (q := 4) (by omega) hT (by decide) (by decide) (by rw [wr_o (by omega), wr_s]; rfl) (by rw [wr_o (by omega), wr_o (by omega)]; exact m12)
theorem dTl_N {μ κ : Mem} {L T N : Nat} (H : dTl μ κ L T) (hN : N < 4) : dTl μ (wr κ 0 12 (nI (T ||| 2 ^ N))) L (T ||| 2 ^ N) := by
  refine ⟨H.1, (tl_o (by omega) H.2.1).2.1, H.2.2.1, wr_s _ _ _ _, fun j hj => ?_⟩
  rw [Nat.testBit_or, tl_p N (by omega) j hj, decide_eq_false (by omega), Bool.or_false]
  exact H.2.2.2.2 j hj
theorem dTl_L {μ κ : Mem} {L T N : Nat} (H : dTl μ κ L T) (h4 : 4 ≤ N) (h8 : N < 8) : dTl (wr μ 23 9 (nI (L ||| 2 ^ (N - 4)))) (wr κ 0 12 (nI (T ||| 2 ^ N))) (L ||| 2 ^ (N - 4)) (T ||| 2 ^ N) := by
  refine ⟨(tl_x L H.1 (N - 4) (by omega)).2.1, (tl_o (by omega) H.2.1).2.1, wr_s _ _ _ _, wr_s _ _ _ _, fun j hj => ?_⟩
  rw [Nat.testBit_or, Nat.testBit_or, tl_p N (by omega) j hj, tl_q (N - 4) (by omega) j hj, H.2.2.2.2 j hj]
  by_cases e : N = 4 + j
  · rw [decide_eq_true e, decide_eq_true (by omega)]
  · rw [decide_eq_false e, decide_eq_false (by omega)]
