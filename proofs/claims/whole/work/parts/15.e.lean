/-! push, start: lines that stand once -/
theorem once_F {μ κ : Mem} {t tk pl nx v L j : Nat} (hT : TK μ κ t tk pl nx v) (hj : j < 4) (hL : L < 16) (h9 : μ 23 9 = nI L) (hb : L.testBit j = true) : fX1_takeOnce (nI (2 ^ j)) μ = some (wr (wr μ 23 3 4) 23 4 (μ 23 6)) := by
  unfold fX1_takeOnce
  rw [h9, if_neg (fun q => by have := ((tl_x L hL j hj).2.2).1 q; rw [hb] at this; exact absurd this (by decide)), x_fail hT.x3, bv_e]
theorem once_Y {μ : Mem} {L j : Nat} (hj : j < 4) (hL : L < 16) (h9 : μ 23 9 = nI L) (hb : L.testBit j = false) : fX1_takeOnce (nI (2 ^ j)) μ = fX1_readToken (wr μ 23 9 (nI (L ||| 2 ^ j))) := by
  unfold fX1_takeOnce
  rw [h9, if_pos (((tl_x L hL j hj).2.2).2 hb), (tl_x L hL j hj).1, lb_e, bv_s]
theorem DTp.o {μ κ : Mem} {h m hh L T k0 k1 N : Nat} {A B : List Nat} (H : DTp μ κ h m hh L T k0 k1 A B) (h4 : 4 ≤ N) (h8 : N < 8) : DTp (wr μ 23 9 (nI (L ||| 2 ^ (N - 4)))) (wr κ 0 12 (nI (T ||| 2 ^ N))) h m hh (L ||| 2 ^ (N - 4)) (T ||| 2 ^ N) k0 k1 A B := by
  have ex : ∀ b, b ≠ 23 → wr μ 23 9 (nI (L ||| 2 ^ (N - 4))) b = μ b := fun b hb => wr_f _ _ _ _ hb
  have em : ∀ b, b ≠ 0 → wr κ 0 12 (nI (T ||| 2 ^ N)) b = κ b := fun b hb => wr_f _ _ _ _ hb
  have ez : ∀ j, (L ||| 2 ^ (N - 4)).testBit j = false → L.testBit j = false := fun j hj => by
    rw [Nat.testBit_or, Bool.or_eq_false_iff] at hj
    exact hj.1
  exact ⟨dHs_f H.hs (by rw [ex 18 (by decide)]) (ex 19 (by decide)) (wr_o (by omega)) (em 6 (by decide)) (em 7 (by decide)), dOr_f H.od (by rw [ex 18 (by decide)]) (ex 20 (by decide)) (wr_o (by omega)) (wr_o (by omega)) (fun j _ => by rw [em 5 (by decide)]) (em 8 (by decide)), dPS_f H.ps (by rw [ex 18 (by decide)]) (by rw [ex 18 (by decide)]) (by rw [em 5 (by decide)]) (by rw [em 5 (by decide)]), dTl_L H.tl h4 h8, dRw_f H.r0 (ex 21 (by decide)) (wr_o (by omega)) (fun i _ => by rw [em 9 (by decide)]) (by rw [em 10 (by decide)]), dRw_f H.r1 (ex 22 (by decide)) (wr_o (by omega)) (fun i _ => by rw [em 9 (by decide)]) (by rw [em 10 (by decide)]), dHi_f H.hi (wr_o (by omega)), fun q => H.z0 (ez 2 q), fun q => H.z1 (ez 3 q)⟩
/-- takeOnce() and the reference's step, where it is the first time -/
theorem once_step {μ κ : Mem} {t p tk pl nx v N h m hh L T k0 k1 : Nat} {c : Nat → Nat} {A B : List Nat} (hx : tpX μ t c) (hm : tpM κ t c) (hD : DTp μ κ h m hh L T k0 k1 A B) (hT : TK μ κ t tk pl nx v) (hp : p ≤ pl) (h4 : 4 ≤ N) (h8 : N < 8) (hL : L.testBit (N - 4) = false) : ∃ m1 κ2, fX1_takeOnce (nI (2 ^ (N - 4))) μ = some m1 ∧ fX8_step (wr κ 0 12 (nI (T ||| 2 ^ N))) = some κ2 ∧ lX μ m1 ∧ lM κ κ2 ∧ SM m1 κ2 t p ∧ DTp m1 κ2 h m hh (L ||| 2 ^ (N - 4)) (T ||| 2 ^ N) k0 k1 A B ∧ (∀ b, b ≠ 23 → m1 b = μ b) ∧ (∀ b, b ≠ 0 → κ2 b = κ b) := by
  have hT1 : TK (wr μ 23 9 (nI (L ||| 2 ^ (N - 4)))) (wr κ 0 12 (nI (T ||| 2 ^ N))) t tk pl nx v := hT.g (fun j _ _ => wr_o (by omega)) (fun j _ _ => wr_o (by omega))
  have lx : lX μ (wr μ 23 9 (nI (L ||| 2 ^ (N - 4)))) := lX.v μ _ (by decide)
  have lm : lM κ (wr κ 0 12 (nI (T ||| 2 ^ N))) := lM.v κ _ (by decide) (by decide)
  obtain ⟨m1, κ2, a1, a2, a3, a4, a5⟩ := tok_next (tpX_l hx lx) (tpM_l hm lm) hT1
  refine ⟨m1, κ2, by rw [once_Y (by omega) hD.tl.1 hD.tl.2.2.1 hL, a1], a2, lx.t a3.l, lm.t a4.l, ?_, (hD.o h4 h8).f a3 a4, fun b hb => by rw [a3.1 b hb, wr_f _ _ _ _ hb], fun b hb => by rw [a4.1 b hb, wr_f _ _ _ _ hb]⟩
  rcases a5 with ⟨tk', pl', nx', v', b1, b2⟩ | hF
  · exact Or.inl ⟨tk', pl', nx', v', by have := hT.l1; omega, b2⟩
  · exact Or.inr hF
theorem ln_psF {μ κ : Mem} {t p tk pl nx v L j i : Nat} (w : Int32) (hs : fsS μ) (hT : TK μ κ t tk pl nx v) (hj : j < 4) (hL : L < 16) (h9 : μ 23 9 = nI L) (hb : L.testBit j = true) (hi : i = 6 ∨ i = 7) : ∃ ν, (bv (fX1_takeOnce (nI (2 ^ j)) μ) fun m30 => bi (fX1_takeNumber (0 : Int32) (60 : Int32) m30) fun v32 m31 => lb (wr m31 18 i v32) fun m33 => fX1_readLine_J203 m33) = some ν ∧ lX μ ν ∧ LR t p ν (wr (wr (wr κ 0 20 4) 0 21 (κ 0 23)) 0 12 w) := by
  have hF : FLT (wr (wr μ 23 3 4) 23 4 (μ 23 6)) (wr (wr (wr κ 0 20 4) 0 21 (κ 0 23)) 0 12 w) := flt_12 4 (by decide) (by decide) (by rw [hT.x6, hT.m23]) w
  have n23 : ∀ j, wr (wr (wr μ 23 3 4) 23 4 (μ 23 6)) 18 i 0 23 j = wr (wr μ 23 3 4) 23 4 (μ 23 6) 23 j := fun j => by rw [wr_f _ _ _ _ (by decide)]
  rw [once_F hT hj hL h9 hb, bv_e, x_numF hF.n.1, bi_e, lb_e, x_semF (by rw [n23]; exact hF.n.1)]
  exact ⟨_, rfl, (cF.fl _ _ _).l.t (lX.w _ _ _ (by decide) (by decide)), Or.inr ⟨hF.g (fun j _ _ => n23 j) (fun _ _ _ => rfl), fsS_f (fsS_fl hs 4 (μ 23 6)) (wr_o (by omega)) (n23 10) (n23 11)⟩⟩
theorem ln_ps {μ κ : Mem} {t p tk pl nx v N h m hh L T k0 k1 : Nat} {c : Nat → Nat} {A B : List Nat} (i w : Nat) (g : Int32 → Int32) (hi : i = 6 ∨ i = 7) (hw : w = 30 ∨ w = 31) (hx : tpX μ t c) (hm : tpM κ t c) (hD : DTp μ κ h m hh L T k0 k1 A B) (hT : TK μ κ t tk pl nx v) (hp : p ≤ pl) (h4 : 4 ≤ N) (h8 : N < 8) (hL : L.testBit (N - 4) = false) (hrm : ∀ κ2 z κ3, fX8_number (0 : Int32) (60 : Int32) κ2 = some (z, κ3) → fX8_readMore (nI N) κ2 = some (wr κ3 5 w (g z))) (hps : ∀ (ν ξ : Mem) x, x ≤ 60 → ν 18 i = nI x → ξ 5 w = g (nI x) → (∀ j, j ≠ i → ν 18 j = μ 18 j) → (∀ j, j ≠ w → ξ 5 j = κ 5 j) → dPS ν ξ) : ∃ ν ξ, (bv (fX1_takeOnce (nI (2 ^ (N - 4))) μ) fun m30 => bi (fX1_takeNumber (0 : Int32) (60 : Int32) m30) fun v32 m31 => lb (wr m31 18 i v32) fun m33 => fX1_readLine_J203 m33) = some ν ∧ (bv (fX8_step (wr κ 0 12 (nI (T ||| 2 ^ N)))) fun m2 => if (m2 0 20) ≤ (0 : Int32) then (bv (fX8_readMore (nI N) m2) fun m3 => semi m3) else (some m2)) = some ξ ∧ lX μ ν ∧ lM κ ξ ∧ LR t p ν ξ := by
  obtain ⟨m1, κ2, a1, a2, a3, a4, a5, a6, a7, a8⟩ := once_step hx hm hD hT hp h4 h8 hL
  obtain ⟨y, z, m3, κ3, c1, c2, c3, c4, c5, c6⟩ := num_step (lo := 0) (hi := 60) (tpX_l hx a3) (tpM_l hm a4) (by decide) (by decide) a5
  have c1 : fX1_takeNumber (0 : Int32) (60 : Int32) m1 = _ := c1
  have c2 : fX8_number (0 : Int32) (60 : Int32) κ2 = _ := c2
  have n23 : ∀ j, wr m3 18 i y 23 j = m3 23 j := fun j => by rw [wr_f _ _ _ _ (by decide)]
  have H3 := a6.f c3 c4
  have hs3 : fsS (wr m3 18 i y) := fsS_f H3.s (wr_o (by omega)) (n23 10) (n23 11)
  rw [a1, a2, bv_e, bv_e, c1, bi_e, lb_e]
  rcases a5 with hT2 | hF
  · have k20 : κ2 0 20 = 0 := hT2.n.2
    have lx : lX μ (wr m3 18 i y) := (a3.t c3.l).t (lX.w _ _ _ (by decide) (by decide))
    have lm : lM κ (wr κ3 5 w (g z)) := (a4.t c4.l).t (lM.w _ _ _ (by decide) (by decide))
    obtain ⟨ν, ξ, d1, d2, d3, d4, d5⟩ := line_end (ν := wr m3 18 i y) (ξ := wr κ3 5 w (g z)) (tpX_l hx lx) (tpM_l hm lm) (c5.g (fun j _ _ => n23 j) (fun j _ _ => by rw [wr_f _ _ _ _ (by decide)])) (fun h0 => by
      rw [n23] at h0
      obtain ⟨-, x, x1, x2, rfl, rfl⟩ := c6 h0
      have ex : ∀ b, b ≠ 18 → wr m3 18 i (nI x) b = m3 b := fun b hb => wr_f _ _ _ _ hb
      have em : ∀ b, b ≠ 5 → wr κ3 5 w (g (nI x)) b = κ3 b := fun b hb => wr_f _ _ _ _ hb
      refine ⟨h, m, hh, L ||| 2 ^ (N - 4), T ||| 2 ^ N, k0, k1, A, B, dHs_f H3.hs (wr_o (by omega)) (ex 19 (by decide)) (by rw [em 0 (by decide)]) (em 6 (by decide)) (em 7 (by decide)), dOr_f H3.od (wr_o (by omega)) (ex 20 (by decide)) (by rw [em 0 (by decide)]) (by rw [em 0 (by decide)]) (fun j _ => wr_o (by omega)) (em 8 (by decide)), hps _ _ x (by omega) (wr_s _ _ _ _) (wr_s _ _ _ _) (fun j hj => ?_) (fun j hj => ?_), dTl_f H3.tl (by rw [ex 23 (by decide)]) (by rw [em 0 (by decide)]), dRw_f H3.r0 (ex 21 (by decide)) (n23 10) (fun i _ => by rw [em 9 (by decide)]) (by rw [em 10 (by decide)]), dRw_f H3.r1 (ex 22 (by decide)) (n23 11) (fun i _ => by rw [em 9 (by decide)]) (by rw [em 10 (by decide)]), dHi_f H3.hi (by rw [em 0 (by decide)]), H3.z0, H3.z1⟩
      · rw [wr_o (fun q => hj q.2), c3.1 18 (by decide), a7 18 (by decide)]
      · rw [wr_o (fun q => hj q.2), c4.1 5 (by decide), a8 5 (by decide)]) hs3
    rw [k20, if_pos (Int32.le_refl _), hrm κ2 z κ3 c2, bv_e, d1, d2]
    exact ⟨ν, ξ, rfl, rfl, lx.t d3, lm.t d4, d5⟩
  · have hn := hF.n
    rw [x_numF hn.1] at c1
    cases c1
    rw [if_neg hn.2.2.1, x_semF (by rw [n23]; exact hn.1)]
    exact ⟨_, _, rfl, rfl, a3.t (lX.w _ _ _ (by decide) (by decide)), a4, Or.inr ⟨hF.g (fun j _ _ => n23 j) (fun _ _ _ => rfl), hs3⟩⟩
/-! rows -/
theorem x_rowF {μ : Mem} (a : Nat) (h : ¬ μ 23 3 = 0) : fX1_takeRow a μ = some (0, μ) := by
  obtain ⟨f, hf⟩ := FU_s 100 (by decide)
  unfold fX1_takeRow
  rw [lb_e, lb_e, hf, fX1_takeRow_L4, if_neg h, ite_self]
  rfl
theorem x_row4F {μ : Mem} (a fu : Nat) (x y : Int32) (h : ¬ μ 23 3 = 0) : fX1_takeRow_L4 a (fu + 1) x y μ = some (x, μ) := by
  rw [fX1_takeRow_L4, if_neg h, ite_self]
  rfl
theorem m_row2F {κ : Mem} (fu : Nat) (x y : Int32) (h : ¬ κ 0 20 = 0) : fX8_readRow_L2 (fu + 1) x y κ = some κ := by
  rw [fX8_readRow_L2, if_neg h]
  rfl
def rwF (rr : Nat) (κ ξ : Mem) : Prop := (∀ b, b ≠ 0 → b ≠ 9 → b ≠ 10 → ξ b = κ b) ∧ (∀ j, j ≠ 16 → (j < 20 ∨ 25 < j) → ξ 0 j = κ 0 j) ∧ (∀ i, i < 5 → ξ 9 (5 * (1 - rr) + i) = κ 9 (5 * (1 - rr) + i)) ∧ ξ 10 (1 - rr) = κ 10 (1 - rr)
theorem rwF.t {rr : Nat} {μ ν ζ : Mem} (h : rwF rr μ ν) (g : rwF rr ν ζ) : rwF rr μ ζ := ⟨fun b h1 h2 h3 => (g.1 b h1 h2 h3).trans (h.1 b h1 h2 h3), fun j h1 h2 => (g.2.1 j h1 h2).trans (h.2.1 j h1 h2), fun i hi => (g.2.2.1 i hi).trans (h.2.2.1 i hi), g.2.2.2.trans h.2.2.2⟩
theorem rF.rw {rr : Nat} {κ ξ : Mem} (h : rF κ ξ) : rwF rr κ ξ := ⟨fun b h1 _ _ => h.1 b h1, fun j _ hj => h.2 j hj, fun i _ => by rw [h.1 9 (by decide)], by rw [h.1 10 (by decide)]⟩
theorem m_app {κ : Mem} {rr k fu : Nat} (hr : rr < 2) (hk : k < 5) (h10 : κ 10 rr = nI k) (y3 v2 z1 : Int32) : fX8_readRow_J79 (fun x1 x2 μ => fX8_readRow_L2 fu x1 x2 μ) (nI rr) y3 v2 z1 κ = fX8_readRow_L2 fu (nI rr) y3 (wr (wr (wr κ 0 16 z1) 9 (5 * rr + k) v2) 10 rr (nI (k + 1))) := by
  have e1 : wr κ 0 16 z1 10 rr = nI k := by rw [wr_f _ _ _ _ (by decide)]; exact h10
  have e2 : wr (wr κ 0 16 z1) 9 (5 * rr + k) v2 10 rr = nI k := by rw [wr_f _ _ _ _ (by decide)]; exact e1
  have j99 : fX8_readRow_J99 (fun x1 x2 μ => fX8_readRow_L2 fu x1 x2 μ) (nI rr) y3 v2 (wr κ 0 16 z1) = fX8_readRow_L2 fu (nI rr) y3 (wr (wr (wr κ 0 16 z1) 9 (5 * rr + k) v2) 10 rr (nI (k + 1))) := by
    unfold fX8_readRow_J99 fX8_readRow_J125
    rw [gr_n hr (by decide), cl_n (by omega), e1, show (5 : Int32) * nI rr = nI (5 * rr) by rw [show (5 : Int32) = nI 5 from rfl, pk_mul], nI_add, gr_n (by omega) (by decide), cl_n (by omega), lb_e, gr_n hr (by decide), gr_n hr (by decide), e2, nI_s1, lb_e]
  unfold fX8_readRow_J79
  rw [lb_e, gr_n hr (by decide), cl_n (by omega), e1, if_neg (show ¬ (5 : Int32) ≤ nI k by rw [show (5 : Int32) = nI 5 from rfl, le_nI (by omega) (by omega)]; omega), j99, ite_self]
theorem app_F {κ : Mem} {rr k : Nat} (hr : rr < 2) (hk : k < 5) (v2 z1 w : Int32) : rwF rr κ (wr (wr (wr κ 0 16 z1) 9 (5 * rr + k) v2) 10 rr w) := by
  refine ⟨fun b h1 h2 h3 => by rw [wr_f _ _ _ _ h3, wr_f _ _ _ _ h2, wr_f _ _ _ _ h1], fun j h1 _ => by rw [wr_f _ _ _ _ (by decide), wr_f _ _ _ _ (by decide), wr_o (fun q => h1 q.2)], fun i hi => ?_, ?_⟩
  · rw [wr_f _ _ _ _ (by decide), wr_o (by omega), wr_f _ _ _ _ (by decide)]
  · rw [wr_o (by omega), wr_f _ _ _ _ (by decide), wr_f _ _ _ _ (by decide)]
theorem m_rowKF {κ : Mem} {rr k fu : Nat} (hr : rr < 2) (hk : k ≤ 5) (h20 : ¬ κ 0 20 = 0) (h10 : κ 10 rr = nI k) (y3 v2 z1 : Int32) : ∃ ξ, fX8_readRow_J79 (fun x1 x2 μ => fX8_readRow_L2 (fu + 1) x1 x2 μ) (nI rr) y3 v2 z1 κ = some ξ ∧ rwF rr κ ξ ∧ (∀ j, 20 ≤ j → j ≤ 25 → ξ 0 j = κ 0 j) := by
  by_cases e : k < 5
  · rw [m_app hr e h10]
    refine ⟨_, m_row2F fu _ _ ?_, app_F hr e _ _ _, fun j _ _ => ?_⟩
    · rw [wr_f _ _ _ _ (by decide), wr_f _ _ _ _ (by decide), wr_o (by omega)]; exact h20
    · rw [wr_f _ _ _ _ (by decide), wr_f _ _ _ _ (by decide), wr_o (by omega)]
  · have e5 : k = 5 := by omega
    subst e5
    have e20 : ¬ wr κ 0 16 z1 0 20 = 0 := by rw [wr_o (by omega)]; exact h20
    refine ⟨wr κ 0 16 z1, ?_, ⟨fun b h1 _ _ => wr_f _ _ _ _ h1, fun j h1 _ => wr_o (fun q => h1 q.2), fun i _ => by rw [wr_f _ _ _ _ (by decide)], by rw [wr_f _ _ _ _ (by decide)]⟩, fun j _ _ => wr_o (by omega)⟩
    unfold fX8_readRow_J79
    rw [lb_e, if_neg e20, gr_n hr (by decide), cl_n (by omega), wr_f _ _ _ _ (show 10 ≠ 0 by decide), h10, if_pos (by decide)]
    unfold fX8_readRow_J125
    exact m_row2F fu _ _ e20
/-- a row so far: A, in both -/
def rwA (μ κ : Mem) (rr k : Nat) (A : List Nat) (U : Nat) : Prop := k ≤ 5 ∧ A ∈ sbs k ∧ (∀ i, i < k → μ (21 + rr) i = nI (rw_ A i) ∧ κ 9 (5 * rr + i) = nI (rw_ A i)) ∧ κ 10 rr = nI k ∧ κ 0 16 = pI (hiB (U ||| abm (rw_ A) k))
theorem rwA_f {μ κ ν ξ : Mem} {rr k U : Nat} {A : List Nat} (H : rwA μ κ rr k A U) (g : cF μ ν) (q : rF κ ξ) (hr : rr < 2) : rwA ν ξ rr k A U := by
  unfold rwA; rw [g.1 (21 + rr) (by omega), q.1 9 (by decide), q.1 10 (by decide), q.2 16 (by decide)]; exact H
def rwR (rr t p U : Nat) (μ κ : Mem) (y : Nat) (ν ξ : Mem) : Prop := y < 32 ∧ (∀ b, b ≠ 21 + rr → b ≠ 23 → ν b = μ b) ∧ (∀ j, j < 3 ∨ 8 < j → ν 23 j = μ 23 j) ∧ rwF rr κ ξ ∧ SM ν ξ t p ∧ (ν 23 3 = 0 → ∃ k A, rwA ν ξ rr k A U ∧ y = abm (rw_ A) k)
theorem row_L {t p rr U : Nat} {c : Nat → Nat} (hr : rr < 2) (hU : U < 32) : ∀ (r k f1 f2 : Nat) (μ κ : Mem) (A : List Nat), k + r = 6 → r + 1 < f1 → r + 1 < f2 → tpX μ t c → tpM κ t c → SM μ κ t p → rwA μ κ rr k A U → ∃ y ν ξ, fX1_takeRow_L4 (21 + rr) f1 (nI (abm (rw_ A) k)) (nI k) μ = some (nI y, ν) ∧ fX8_readRow_L2 f2 (nI rr) (nI (abm (rw_ A) k)) κ = some ξ ∧ rwR rr t p U μ κ y ν ξ := by
  intro r
  induction r with
  | zero =>
    intro k f1 f2 μ κ A h1 _ _ _ _ _ hA
    have := hA.1
    omega
  | succ r ih =>
    intro k f1 f2 μ κ A h1 hf1 hf2 hx hm hS hA
    obtain ⟨hk, hAs, hrow, h10, h16⟩ := hA
    obtain ⟨f1, rfl⟩ : ∃ f, f1 = f + 1 + 1 := ⟨f1 - 2, by omega⟩
    obtain ⟨f2, rfl⟩ : ∃ f, f2 = f + 1 + 1 := ⟨f2 - 2, by omega⟩
    obtain ⟨g1, g2, g3⟩ := sb_ok k (by omega) A hAs
    have hlt : ¬ (5 : Int32) < nI k := by rw [show (5 : Int32) = nI 5 from rfl, lt_nI (by omega) (by omega)]; omega
    have same : rwR rr t p U μ κ (abm (rw_ A) k) μ κ := ⟨g1, fun _ _ _ => rfl, fun _ _ => rfl, (rF.r κ).rw, hS, fun _ => ⟨k, A, ⟨hk, hAs, hrow, h10, h16⟩, rfl⟩⟩
    rcases hS with ⟨tk, pl, nx, v, hp, hT⟩ | hF
    · have l3 := hT.l3
      by_cases h2 : tk = 2
      · obtain ⟨v1, v2, v3⟩ := hT.e2 h2
        have x5 : μ 23 5 = 2 := by rw [hT.x5, h2]; rfl
        have m24 : κ 0 24 = 2 := by rw [hT.m24, h2]; rfl
        have cl : ∀ q, fX1_takeRow_L4 (21 + rr) (f1 + 1) (nI (abm (rw_ A) k)) q (wr (wr μ 23 3 3) 23 4 (μ 23 6)) = some (nI (abm (rw_ A) k), wr (wr μ 23 3 3) 23 4 (μ 23 6)) := fun q => x_row4F _ _ _ _ (by rw [wr_o (by omega), wr_s]; decide)
        have cl4 : ∀ q, fX1_takeRow_L4 (21 + rr) (f1 + 1) (nI (abm (rw_ A) k)) q (wr (wr μ 23 3 4) 23 4 (μ 23 6)) = some (nI (abm (rw_ A) k), wr (wr μ 23 3 4) 23 4 (μ 23 6)) := fun q => x_row4F _ _ _ _ (by rw [wr_o (by omega), wr_s]; decide)
        rw [fX1_takeRow_L4, if_neg hlt, if_pos hT.x3, if_pos x5, fX8_readRow_L2, if_pos hT.m20, if_pos m24, m_i4, bi_e, if_10, v3]
        have fin : ∀ (ν0 ξ0 : Mem), FLT ν0 ξ0 → cF μ ν0 → rwF rr κ ξ0 → rwR rr t p U μ κ (abm (rw_ A) k) ν0 ξ0 := fun ν0 ξ0 hF g q => ⟨g1, fun b _ hb => g.1 b hb, g.2, q, Or.inr hF, fun e => absurd e hF.n.1⟩
        by_cases h4 : v ≤ 4
        · have hin : (0 : Int32) ≤ nI v ∧ nI v ≤ 4 := ⟨by rw [show (0 : Int32) = nI 0 from rfl, le_nI (by omega) (by omega)]; omega, by rw [show (4 : Int32) = nI 4 from rfl, le_nI (by omega) (by omega)]; omega⟩
          have hck : fX1_checkNumber (0 : Int32) (4 : Int32) μ = some μ := by
            unfold fX1_checkNumber fX1_checkNumber_J24 fX1_checkNumber_J52
            rw [if_pos hT.x3, if_pos x5, if_pos hT.x3, x_within, bi_e, if_10, v2, if_pos hin]
          rw [hck, bv_e, if_pos hT.x3, v2, if_pos hin]
          cases hb : (abm (rw_ A) k).testBit v with
          | true =>
            have hF : FLT (wr (wr μ 23 3 4) 23 4 (μ 23 6)) (wr (wr κ 0 20 4) 0 21 (κ 0 23)) := flt_mk 4 (by decide) (by decide) (by rw [hT.x6, hT.m23])
            have hn := hF.n
            rw [if_pos ((bt_t _ g1 v (by omega)).2 hb), if_pos ((bt_t _ g1 v (by omega)).2 hb), x_fail hT.x3, bv_e, m_fail hT.m20, bv_e]
            unfold fX1_takeRow_J58 fX1_takeRow_J90 fX8_readRow_J49
            rw [if_neg hn.1, lb_e]
            dsimp only
            rw [cl4, m_numF hn.2.1 hn.2.2.2, bi_e, lb_e]
            have k10 : wr (wr κ 0 20 4) 0 21 (κ 0 23) 10 rr = nI k := by rw [wr_f _ _ _ _ (by decide), wr_f _ _ _ _ (by decide)]; exact h10
            have done : ∀ z1, ∃ ξ, fX8_readRow_J79 (fun x1 x2 μ => fX8_readRow_L2 (f2 + 1) x1 x2 μ) (nI rr) (nI (abm (rw_ A) k) ||| (1 : Int32) <<< ((0 : Int32) &&& 31)) 0 z1 (wr (wr κ 0 20 4) 0 21 (κ 0 23)) = some ξ ∧ rwR rr t p U μ κ (abm (rw_ A) k) (wr (wr μ 23 3 4) 23 4 (μ 23 6)) ξ := by
              intro z1
              obtain ⟨ξ, q1, q2, q3⟩ := m_rowKF (fu := f2) hr hk hn.2.1 k10 (nI (abm (rw_ A) k) ||| (1 : Int32) <<< ((0 : Int32) &&& 31)) 0 z1
              exact ⟨ξ, q1, fin _ _ (hF.g (fun _ _ _ => rfl) q3) (cF.fl _ _ _) ((rF.fl _ _ _).rw.t q2)⟩
            split
            · obtain ⟨ξ, q1, q2⟩ := done (wr (wr κ 0 20 4) 0 21 (κ 0 23) 0 16)
              exact ⟨_, _, ξ, rfl, q1, q2⟩
            · obtain ⟨ξ, q1, q2⟩ := done 0
              exact ⟨_, _, ξ, rfl, q1, q2⟩
          | false =>
            have hnb : ¬ (((nI (abm (rw_ A) k) >>> (nI v &&& 31)) &&& (1 : Int32)) = 1) := fun q => by
              have := (bt_t _ g1 v (by omega)).1 q
              rw [hb] at this
              exact absurd this (by decide)
            obtain ⟨s1, s2, s3, s4, s5⟩ := sb_app (by omega) hAs (show v < 5 by omega) hb
            have hor := bt_or _ g1 v (by omega)
            obtain ⟨M, hM⟩ : ∃ M, M = wr μ (21 + rr) k (nI v) := ⟨_, rfl⟩
            have Mb : ∀ b, b ≠ 21 + rr → M b = μ b := fun b hb => by rw [hM, wr_f _ _ _ _ hb]
            have M23 : M 23 = μ 23 := Mb 23 (by omega)
            have hxM : tpX M t c := ⟨hx.1, by rw [Mb 1 (by omega)]; exact hx.2.1, fun i hi => by rw [Mb 2 (by omega)]; exact hx.2.2 i hi⟩
            obtain ⟨m3, κ3, a1, a2, a3, a4, a5⟩ := tok_next hxM hm (hT.g (ν := M) (ξ := κ) (fun j _ _ => by rw [M23]) (fun _ _ _ => rfl))
            have hnum : fX8_number (0 : Int32) (4 : Int32) κ = some (nI v, κ3) := by
              unfold fX8_number fX8_number_J20 fX8_number_J47 fX8_number_J62
              rw [if_pos hT.m20, if_pos m24, if_pos hT.m20, m_inw, bi_e, if_10, v3, if_pos hin, if_pos hT.m20, a2, bv_e]
            have k10 : κ3 10 rr = nI k := by rw [a4.1 10 (by decide)]; exact h10
            have k16 : κ3 0 16 = pI (hiB (U ||| abm (rw_ A) k)) := by rw [a4.2 16 (by decide)]; exact h16
            have hUA := (bt_orm U hU _ g1).2
            have hh := hi_or _ hUA v (by omega)
            obtain ⟨z1, hz⟩ : ∃ z1, z1 = pI (hiB (U ||| abm (rw_ (A ++ [v])) (k + 1))) := ⟨_, rfl⟩
            have eU : U ||| abm (rw_ (A ++ [v])) (k + 1) = (U ||| abm (rw_ A) k) ||| 2 ^ v := by rw [s3, or_or U hU _ g1 v (by omega)]
            have hmax : (if nI v ≤ κ3 0 16 then fX8_readRow_J79 (fun x1 x2 μ => fX8_readRow_L2 (f2 + 1) x1 x2 μ) (nI rr) (nI (abm (rw_ A) k ||| 2 ^ v)) (nI v) (κ3 0 16) κ3 else fX8_readRow_J79 (fun x1 x2 μ => fX8_readRow_L2 (f2 + 1) x1 x2 μ) (nI rr) (nI (abm (rw_ A) k ||| 2 ^ v)) (nI v) (nI v) κ3) = fX8_readRow_J79 (fun x1 x2 μ => fX8_readRow_L2 (f2 + 1) x1 x2 μ) (nI rr) (nI (abm (rw_ A) k ||| 2 ^ v)) (nI v) z1 κ3 := by
              rw [hz, eU, hh.2, k16]
              by_cases e : v + 1 ≤ hiB (U ||| abm (rw_ A) k)
              · rw [if_pos e, if_pos ((pI_le v (by omega) _ hh.1).2 e)]
              · rw [if_neg e, if_neg (fun q => e ((pI_le v (by omega) _ hh.1).1 q)), pI]
            obtain ⟨K, hK⟩ : ∃ K, K = wr (wr (wr κ3 0 16 z1) 9 (5 * rr + k) (nI v)) 10 rr (nI (k + 1)) := ⟨_, rfl⟩
            have K0 : ∀ j, j ≠ 16 → K 0 j = κ3 0 j := fun j hj => by rw [hK, wr_f _ _ _ _ (by decide), wr_f _ _ _ _ (by decide), wr_o (fun q => hj q.2)]
            have Kb : ∀ b, b ≠ 0 → b ≠ 9 → b ≠ 10 → K b = κ3 b := fun b h1 h2 h3 => by rw [hK, wr_f _ _ _ _ h3, wr_f _ _ _ _ h2, wr_f _ _ _ _ h1]
            have hmK : tpM K t c := ⟨hm.1, by rw [K0 18 (by decide), a4.2 18 (by decide)]; exact hm.2.1, fun i hi => by rw [Kb 11 (by decide) (by decide) (by decide), a4.1 11 (by decide)]; exact hm.2.2 i hi⟩
            have hSK : SM m3 K t p := by
              rcases a5 with ⟨tk', pl', nx', v', b1, b2⟩ | hF
              · exact Or.inl ⟨tk', pl', nx', v', by have := hT.l1; omega, b2.g (fun _ _ _ => rfl) (fun j _ _ => K0 j (by omega))⟩
              · exact Or.inr (hF.g (fun _ _ _ => rfl) (fun j _ _ => K0 j (by omega)))
            have hAK : rwA m3 K rr (k + 1) (A ++ [v]) U := by
              refine ⟨by omega, s2, fun i hi => ?_, by rw [hK, wr_s], by rw [hK, wr_f _ _ _ _ (by decide), wr_f _ _ _ _ (by decide), wr_s]; exact hz⟩
              rw [a3.1 (21 + rr) (by omega), hM, hK, wr_f _ _ _ _ (show 9 ≠ 10 by decide)]
              by_cases e : i = k
              · rw [e, s5, wr_s, wr_s]
                exact ⟨rfl, rfl⟩
              · rw [s4 i (by omega), wr_o (fun q => e q.2), wr_o (fun q => e (by omega)), wr_f _ _ _ _ (by decide), a4.1 9 (by decide)]
                exact hrow i (by omega)
            obtain ⟨y, ν, ξ, q1, q2, q3, q4, q5, q6, q7, q8⟩ := ih (k + 1) (f1 + 1) (f2 + 1) m3 K (A ++ [v]) (by omega) (by omega) (by omega) (tpX_f hxM a3) hmK hSK hAK
            refine ⟨y, ν, ξ, ?_, ?_, q3, fun b h1 h2 => by rw [q4 b h1 h2, a3.1 b h2, Mb b h1], fun j hj => by rw [q5 j hj, a3.2 j hj, M23], ?_, q7, q8⟩
            · rw [if_neg hnb]
              unfold fX1_takeRow_J58 fX1_takeRow_J90
              rw [if_pos hT.x3, if_neg (show ¬ (5 : Int32) ≤ nI k by rw [show (5 : Int32) = nI 5 from rfl, le_nI (by omega) (by omega)]; omega), gr_n s1 (by decide), cl_n (by omega), v2, ← hM, lb_e, M23, v2, hor.1, lb_e, a1, bv_e, lb_e, nI_s1]
              rw [s3] at q1
              exact q1
            · rw [if_neg hnb]
              unfold fX8_readRow_J49
              rw [hnum, bi_e, hor.1, lb_e, hmax, m_app hr s1 k10, ← hK]
              rw [s3] at q2
              exact q2
            · refine (rF.rw a4).t (rwF.t ?_ q6)
              rw [hK]
              exact app_F hr s1 _ _ _
        · have hin : ¬ ((0 : Int32) ≤ nI v ∧ nI v ≤ 4) := fun q => h4 (by have := q.2; rw [show (4 : Int32) = nI 4 from rfl, le_nI (by omega) (by omega)] at this; exact this)
          have hF : FLT (wr (wr μ 23 3 3) 23 4 (μ 23 6)) (wr (wr κ 0 20 3) 0 21 (κ 0 23)) := flt_mk 3 (by decide) (by decide) (by rw [hT.x6, hT.m23])
          have hn := hF.n
          have hck : fX1_checkNumber (0 : Int32) (4 : Int32) μ = some (wr (wr μ 23 3 3) 23 4 (μ 23 6)) := by
            unfold fX1_checkNumber fX1_checkNumber_J24 fX1_checkNumber_J52
            rw [if_pos hT.x3, if_pos x5, if_pos hT.x3, x_within, bi_e, if_10, v2, if_neg hin, x_fail hT.x3, bv_e]
          have hnum : fX8_number (0 : Int32) (4 : Int32) κ = some (0, wr (wr κ 0 20 3) 0 21 (κ 0 23)) := by
            unfold fX8_number fX8_number_J20 fX8_number_J47 fX8_number_J62
            rw [if_pos hT.m20, if_pos m24, if_pos hT.m20, m_inw, bi_e, if_10, v3, if_neg hin, m_fail hT.m20, bv_e, if_neg hn.2.1, hn.2.2.2, bv_e]
          rw [hck, bv_e, if_neg hn.1, if_neg hin]
          unfold fX1_takeRow_J58 fX1_takeRow_J90 fX8_readRow_J49
          rw [if_neg hn.1, lb_e]
          dsimp only
          rw [cl, hnum, bi_e, lb_e]
          have k10 : wr (wr κ 0 20 3) 0 21 (κ 0 23) 10 rr = nI k := by rw [wr_f _ _ _ _ (by decide), wr_f _ _ _ _ (by decide)]; exact h10
          have done : ∀ z1, ∃ ξ, fX8_readRow_J79 (fun x1 x2 μ => fX8_readRow_L2 (f2 + 1) x1 x2 μ) (nI rr) (nI (abm (rw_ A) k) ||| (1 : Int32) <<< ((0 : Int32) &&& 31)) 0 z1 (wr (wr κ 0 20 3) 0 21 (κ 0 23)) = some ξ ∧ rwR rr t p U μ κ (abm (rw_ A) k) (wr (wr μ 23 3 3) 23 4 (μ 23 6)) ξ := by
            intro z1
            obtain ⟨ξ, q1, q2, q3⟩ := m_rowKF (fu := f2) hr hk hn.2.1 k10 (nI (abm (rw_ A) k) ||| (1 : Int32) <<< ((0 : Int32) &&& 31)) 0 z1
            exact ⟨ξ, q1, fin _ _ (hF.g (fun _ _ _ => rfl) q3) (cF.fl _ _ _) ((rF.fl _ _ _).rw.t q2)⟩
          split
          · obtain ⟨ξ, q1, q2⟩ := done (wr (wr κ 0 20 3) 0 21 (κ 0 23) 0 16)
            exact ⟨_, _, ξ, rfl, q1, q2⟩
          · obtain ⟨ξ, q1, q2⟩ := done 0
            exact ⟨_, _, ξ, rfl, q1, q2⟩
      · have x5 : ¬ μ 23 5 = 2 := by rw [hT.x5, show (2 : Int32) = nI 2 from rfl, eq_nI (by omega) (by omega)]; exact h2
        have m24 : ¬ κ 0 24 = 2 := by rw [hT.m24, show (2 : Int32) = nI 2 from rfl, eq_nI (by omega) (by omega)]; exact h2
        refine ⟨_, μ, κ, ?_, ?_, same⟩
        · rw [fX1_takeRow_L4, if_neg hlt, if_pos hT.x3, if_neg x5]; rfl
        · rw [fX8_readRow_L2, if_pos hT.m20, if_neg m24]; rfl
    · exact ⟨_, μ, κ, x_row4F _ _ _ _ hF.n.1, m_row2F _ _ _ hF.n.2.1, same⟩
