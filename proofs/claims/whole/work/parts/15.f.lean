/-! a row's line -/
theorem orc : ∀ a, a < 32 → ∀ b, b < 32 → a ||| b = b ||| a := by decide +kernel
theorem ln_rowF {μ κ : Mem} {t p tk pl nx v L j a i : Nat} (w : Int32) (hs : fsS μ) (hT : TK μ κ t tk pl nx v) (hj : j < 4) (hL : L < 16) (h9 : μ 23 9 = nI L) (hb : L.testBit j = true) (hi : i = 10 ∨ i = 11) : ∃ ν, (bv (fX1_takeOnce (nI (2 ^ j)) μ) fun m22 => bi (fX1_takeRow a m22) fun v24 m23 => lb (wr m23 23 i v24) fun m25 => fX1_readLine_J203 m25) = some ν ∧ lX μ ν ∧ LR t p ν (wr (wr (wr κ 0 20 4) 0 21 (κ 0 23)) 0 12 w) := by
  have hF : FLT (wr (wr μ 23 3 4) 23 4 (μ 23 6)) (wr (wr (wr κ 0 20 4) 0 21 (κ 0 23)) 0 12 w) := flt_12 4 (by decide) (by decide) (by rw [hT.x6, hT.m23]) w
  have n23 : ∀ j, j ≠ i → wr (wr (wr μ 23 3 4) 23 4 (μ 23 6)) 23 i 0 23 j = wr (wr μ 23 3 4) 23 4 (μ 23 6) 23 j := fun j hj => wr_o (fun q => hj q.2)
  rw [once_F hT hj hL h9 hb, bv_e, x_rowF a hF.n.1, bi_e, lb_e, x_semF (by rw [n23 3 (by omega)]; exact hF.n.1)]
  have hs2 := fsS_fl hs 4 (μ 23 6)
  refine ⟨_, rfl, (cF.fl _ _ _).l.t (lX.v _ _ (by omega)), Or.inr ⟨hF.g (fun j _ _ => n23 j (by omega)) (fun _ _ _ => rfl), ?_, ?_, ?_⟩⟩
  · rw [wr_f _ _ _ _ (show 18 ≠ 23 by decide)]; exact hs2.1
  · by_cases e : i = 10
    · rw [e, wr_s]; exact ⟨0, by decide, rfl⟩
    · rw [n23 10 (by omega)]; exact hs2.2.1
  · by_cases e : i = 11
    · rw [e, wr_s]; exact ⟨0, by decide, rfl⟩
    · rw [n23 11 (by omega)]; exact hs2.2.2
theorem ln_row {μ κ : Mem} {t p tk pl nx v rr h m hh L T k0 k1 : Nat} {c : Nat → Nat} {A B : List Nat} (hr : rr < 2) (hx : tpX μ t c) (hm : tpM κ t c) (hD : DTp μ κ h m hh L T k0 k1 A B) (hT : TK μ κ t tk pl nx v) (hp : p ≤ pl) (hL : L.testBit (2 + rr) = false) : ∃ ν ξ, (bv (fX1_takeOnce (nI (2 ^ (2 + rr))) μ) fun m22 => bi (fX1_takeRow (21 + rr) m22) fun v24 m23 => lb (wr m23 23 (10 + rr) v24) fun m25 => fX1_readLine_J203 m25) = some ν ∧ (bv (fX8_step (wr κ 0 12 (nI (T ||| 2 ^ (6 + rr))))) fun m2 => if (m2 0 20) ≤ (0 : Int32) then (bv (fX8_readMore (nI (6 + rr)) m2) fun m3 => semi m3) else (some m2)) = some ξ ∧ lX μ ν ∧ lM κ ξ ∧ LR t p ν ξ := by
  obtain ⟨f, hf⟩ := FU_s 100 (by decide)
  obtain ⟨m1, κ2, a1, a2, a3, a4, a5, a6, a7, a8⟩ := once_step (N := 6 + rr) hx hm hD hT hp (by omega) (by omega) (by rw [show 6 + rr - 4 = 2 + rr by omega]; exact hL)
  rw [show 6 + rr - 4 = 2 + rr by omega] at a1 a6
  rw [a1, a2, bv_e, bv_e]
  rcases a5 with hT2 | hF
  · have k20 : κ2 0 20 = 0 := hT2.n.2
    obtain ⟨U, hU, eU⟩ : ∃ U, U < 32 ∧ rwA m1 κ2 rr 0 [] U ∧ ((rr = 0 ∧ U = abm (rw_ B) k1) ∨ (rr = 1 ∧ U = abm (rw_ A) k0)) := by
      have g0 := (sb_ok k0 (by have := a6.r0.1; omega) A a6.r0.2.1).1
      have g1 := (sb_ok k1 (by have := a6.r1.1; omega) B a6.r1.2.1).1
      have hhi := a6.hi.2
      rcases (show rr = 0 ∨ rr = 1 by omega) with rfl | rfl
      · have e0 := hD.z0 hL
        subst e0
        refine ⟨abm (rw_ B) k1, g1, ⟨by decide, by decide, fun i hi => absurd hi (by omega), a6.r0.2.2.2.1, ?_⟩, Or.inl ⟨rfl, rfl⟩⟩
        rw [hhi, orc _ g0 _ g1]; rfl
      · have e0 := hD.z1 hL
        subst e0
        refine ⟨abm (rw_ A) k0, g0, ⟨by decide, by decide, fun i hi => absurd hi (by omega), a6.r1.2.2.2.1, ?_⟩, Or.inr ⟨rfl, rfl⟩⟩
        rw [hhi]; rfl
    obtain ⟨y, m3, κ3, c1, c2, c3, c4, c5, c6, c7, c8⟩ := row_L (p := p) hr hU 6 0 FU FU m1 κ2 [] (by omega) (by omega) (by omega) (tpX_l hx a3) (tpM_l hm a4) (Or.inl hT2) eU.1
    have c1 : fX1_takeRow_L4 (21 + rr) FU 0 0 m1 = _ := c1
    have c2 : fX8_readRow_L2 FU (nI rr) 0 κ2 = _ := c2
    have n23 : ∀ j, j ≠ 10 + rr → wr m3 23 (10 + rr) (nI y) 23 j = m3 23 j := fun j hj => wr_o (fun q => hj q.2)
    have nb : ∀ b, b ≠ 23 → wr m3 23 (10 + rr) (nI y) b = m3 b := fun b hb => wr_f _ _ _ _ hb
    have n18 : wr m3 23 (10 + rr) (nI y) 18 = m1 18 := by rw [nb 18 (by decide), c4 18 (by omega) (by decide)]
    have lx : lX μ (wr m3 23 (10 + rr) (nI y)) := (a3.t ⟨fun b hb => c4 b (by omega) (by omega), c5 2 (by decide)⟩).t (lX.v _ _ (by omega))
    have lm : lM κ κ3 := a4.t ⟨fun b h1 h2 => c6.1 b h1 (by omega) (by omega), fun j hj => c6.2.1 j (by omega) (by omega)⟩
    have s1 := a6.s
    have hs3 : fsS (wr m3 23 (10 + rr) (nI y)) := by
      refine ⟨by rw [n18]; exact s1.1, ?_, ?_⟩
      · by_cases e : rr = 0
        · subst e; rw [wr_s]; exact ⟨y, c3, rfl⟩
        · rw [n23 10 (by omega), c5 10 (by decide)]; exact s1.2.1
      · by_cases e : rr = 1
        · subst e; rw [wr_s]; exact ⟨y, c3, rfl⟩
        · rw [n23 11 (by omega), c5 11 (by decide)]; exact s1.2.2
    obtain ⟨ν, ξ, d1, d2, d3, d4, d5⟩ := line_end (ν := wr m3 23 (10 + rr) (nI y)) (ξ := κ3) (tpX_l hx lx) (tpM_l hm lm) (c7.g (fun j _ _ => n23 j (by omega)) (fun _ _ _ => rfl)) (fun h0 => by
      rw [n23 3 (by omega)] at h0
      obtain ⟨k, A', ⟨r1, r2, r3, r4, r5⟩, rfl⟩ := c8 h0
      have g' := (sb_ok k (by omega) A' r2).1
      have hnew : dRw (wr m3 23 (10 + rr) (nI (abm (rw_ A') k))) κ3 rr k A' := ⟨r1, r2, fun i hi => by rw [nb (21 + rr) (by omega)]; exact r3 i hi, r4, wr_s _ _ _ _⟩
      have Hs := dHs_f (ν := wr m3 23 (10 + rr) (nI (abm (rw_ A') k))) (ξ := κ3) a6.hs (by rw [n18]) (by rw [nb 19 (by decide), c4 19 (by omega) (by decide)]) (c6.2.1 10 (by decide) (by decide)) (c6.1 6 (by decide) (by decide) (by decide)) (c6.1 7 (by decide) (by decide) (by decide))
      have Ho := dOr_f (ν := wr m3 23 (10 + rr) (nI (abm (rw_ A') k))) (ξ := κ3) a6.od (by rw [n18]) (by rw [nb 20 (by decide), c4 20 (by omega) (by decide)]) (c6.2.1 11 (by decide) (by decide)) (c6.2.1 15 (by decide) (by decide)) (fun j _ => by rw [c6.1 5 (by decide) (by decide) (by decide)]) (c6.1 8 (by decide) (by decide) (by decide))
      have Hp := dPS_f (ν := wr m3 23 (10 + rr) (nI (abm (rw_ A') k))) (ξ := κ3) a6.ps (by rw [n18]) (by rw [n18]) (by rw [c6.1 5 (by decide) (by decide) (by decide)]) (by rw [c6.1 5 (by decide) (by decide) (by decide)])
      have Ht := dTl_f (ν := wr m3 23 (10 + rr) (nI (abm (rw_ A') k))) (ξ := κ3) a6.tl (by rw [n23 9 (by omega), c5 9 (by decide)]) (c6.2.1 12 (by decide) (by decide))
      rcases eU.2 with ⟨e0, e1⟩ | ⟨e0, e1⟩
      · subst e0
        refine ⟨h, m, hh, _, _, k, k1, A', B, Hs, Ho, Hp, Ht, hnew, dRw_f a6.r1 (by rw [nb 22 (by decide), c4 22 (by decide) (by decide)]) (by rw [n23 11 (by decide), c5 11 (by decide)]) (fun i hi => c6.2.2.1 i hi) c6.2.2.2, ⟨(bt_orm _ g' _ (by rw [← e1]; exact hU)).2, by rw [r5, e1, orc _ g' _ (by rw [← e1]; exact hU)]⟩, fun q => ?_, a6.z1⟩
        rw [Nat.testBit_or, tl_q 2 (by decide) 2 (by decide)] at q
        rw [decide_eq_true rfl, Bool.or_true] at q
        exact absurd q (by decide)
      · subst e0
        refine ⟨h, m, hh, _, _, k0, k, A, A', Hs, Ho, Hp, Ht, dRw_f a6.r0 (by rw [nb 21 (by decide), c4 21 (by decide) (by decide)]) (by rw [n23 10 (by decide), c5 10 (by decide)]) (fun i hi => c6.2.2.1 i hi) c6.2.2.2, hnew, ⟨(bt_orm _ (by rw [← e1]; exact hU) _ g').2, by rw [r5, e1]⟩, a6.z0, fun q => ?_⟩
        rw [Nat.testBit_or, tl_q 3 (by decide) 3 (by decide)] at q
        rw [decide_eq_true rfl, Bool.or_true] at q
        exact absurd q (by decide)) hs3
    have hrm : fX8_readMore (nI (6 + rr)) κ2 = some κ3 := by
      unfold fX8_readMore fX8_readMore_J111 fX8_readRow
      rw [if_pos (show (2 : Int32) < nI (6 + rr) by rw [show (2 : Int32) = nI 2 from rfl, lt_nI (by omega) (by omega)]; omega), if_neg (show ¬ nI (6 + rr) = (3 : Int32) by rw [show (3 : Int32) = nI 3 from rfl, eq_nI (by omega) (by omega)]; omega), if_neg (show ¬ nI (6 + rr) = (4 : Int32) by rw [show (4 : Int32) = nI 4 from rfl, eq_nI (by omega) (by omega)]; omega), if_neg (show ¬ nI (6 + rr) = (5 : Int32) by rw [show (5 : Int32) = nI 5 from rfl, eq_nI (by omega) (by omega)]; omega), show nI (6 + rr) - 6 = nI rr by rw [show (6 : Int32) = nI 6 from rfl, pk_sub (by omega), Nat.add_sub_cancel_left], lb_e, c2, bv_e]
    unfold fX1_takeRow
    rw [lb_e, lb_e, c1, bi_e, lb_e, k20, if_pos (Int32.le_refl _), hrm, bv_e, d1, d2]
    exact ⟨ν, ξ, rfl, rfl, lx.t d3, lm.t d4, d5⟩
  · have hn := hF.n
    have n23 : ∀ j, j ≠ 10 + rr → wr m1 23 (10 + rr) 0 23 j = m1 23 j := fun j hj => wr_o (fun q => hj q.2)
    have s1 := a6.s
    rw [x_rowF _ hn.1, bi_e, lb_e, if_neg hn.2.2.1, x_semF (by rw [n23 3 (by omega)]; exact hn.1)]
    refine ⟨_, _, rfl, rfl, a3.t (lX.v _ _ (by omega)), a4, Or.inr ⟨hF.g (fun j _ _ => n23 j (by omega)) (fun _ _ _ => rfl), ?_, ?_, ?_⟩⟩
    · rw [wr_f _ _ _ _ (show 18 ≠ 23 by decide)]; exact s1.1
    · by_cases e : rr = 0
      · subst e; rw [wr_s]; exact ⟨0, by decide, rfl⟩
      · rw [n23 10 (by omega)]; exact s1.2.1
    · by_cases e : rr = 1
      · subst e; rw [wr_s]; exact ⟨0, by decide, rfl⟩
      · rw [n23 11 (by omega)]; exact s1.2.2
/-! an order -/
def ordR (m2 : Mem) : Option Mem := bi (fX8_number (1 : Int32) (6 : Int32) m2) fun v4 m3 => gr (m2 0 11) 5 <| lb (wr m3 8 (m2 0 11).toNatClampNeg v4) fun m5 => gr (m5 0 11) 5 <| if (m5 8 (m5 0 11).toNatClampNeg) ≤ (m5 0 15) then (fX8_readOrder_J87 (m5 0 15) m5) else (gr (m5 0 11) 5 <| fX8_readOrder_J87 (m5 8 (m5 0 11).toNatClampNeg) m5)
theorem m_J24 {κ : Mem} {m : Nat} (h11 : κ 0 11 = nI m) (hm : m < 5) (x : Int32) : fX8_readOrder_J24 x κ = bv (fX8_step (wr κ 5 m x)) fun m2 => ordR m2 := by
  unfold fX8_readOrder_J24 ordR
  rw [h11, gr_n (by omega) (by decide), cl_n (by omega), lb_e]
theorem sg_k : sg 4 = 8 ∧ sg 5 = 9 ∧ sg 6 = 10 ∧ sg 7 = 11 ∧ sg 8 = 12 := by decide
theorem x_kind {μ : Mem} {N : Nat} (hN : ∀ sk, sk < 13 → fX1_isNamed sk μ = some (bI (decide (sg sk = N)), μ)) : fX1_kindNamed μ = some (if 8 ≤ N ∧ N ≤ 12 then nI (N - 8) else -1, μ) := by
  unfold fX1_kindNamed fX1_kindNamed_J58
  rw [hN 4 (by decide), bi_e, ite_bd, hN 5 (by decide), bi_e, ite_bd, hN 6 (by decide), bi_e, ite_bd, hN 7 (by decide), bi_e, ite_bd, hN 8 (by decide), bi_e, ite_bd, sg_k.1, sg_k.2.1, sg_k.2.2.1, sg_k.2.2.2.1, sg_k.2.2.2.2]
  by_cases h : 8 ≤ N ∧ N ≤ 12
  · rw [if_pos h]
    rcases (show N = 8 ∨ N = 9 ∨ N = 10 ∨ N = 11 ∨ N = 12 by omega) with rfl | rfl | rfl | rfl | rfl <;> rfl
  · rw [if_neg h, if_neg (by omega), if_neg (by omega), if_neg (by omega), if_neg (by omega), if_neg (by omega)]
theorem kn_neg : ∀ N, N < 8 → ¬ (0 : Int32) ≤ nI N - 8 := by decide +kernel
theorem kind_step {μ κ : Mem} {t p m : Nat} {c : Nat → Nat} (hx : tpX μ t c) (hm : tpM κ t c) (h12 : κ 12 = mM0 12) (h13 : κ 13 = mM0 13) (h : TKs μ κ t p) (h11 : κ 0 11 = nI m) (hm5 : m < 5) : ∃ y z ν ξ, fX1_takeKind μ = some (y, ν) ∧ fX8_readOrder κ = ordR ξ ∧ cF μ ν ∧ ((∀ b, b ≠ 0 → b ≠ 5 → ξ b = κ b) ∧ (∀ j, j ≠ m → ξ 5 j = κ 5 j) ∧ ξ 5 m = z ∧ (∀ j, j < 20 ∨ 25 < j → ξ 0 j = κ 0 j)) ∧ SM ν ξ t p ∧ (ν 23 3 = 0 → ∃ k, k < 5 ∧ y = nI k ∧ z = nI k) := by
  obtain ⟨tk, pl, nx, v, hp, hT⟩ := h
  obtain ⟨N, n1, n2, n3⟩ := names hx hm h12 h13 hT
  unfold fX1_takeKind fX8_readOrder
  rw [if_pos hT.x3, x_kind n2, bi_e, n3, bi_e, lb_e, if_pos hT.m20]
  by_cases h8 : 8 ≤ N ∧ N ≤ 12
  · have e8 : nI N - 8 = nI (N - 8) := by rw [show (8 : Int32) = nI 8 from rfl, pk_sub h8.1]
    have hnn : (0 : Int32) ≤ nI (N - 8) := by rw [show (0 : Int32) = nI 0 from rfl, le_nI (by omega) (by omega)]; omega
    have lm : lM κ (wr κ 5 m (nI (N - 8))) := lM.w κ _ _ (by decide) (by decide)
    obtain ⟨ν, ξ, a1, a2, a3, a4, a5⟩ := tok_next hx (tpM_l hm lm) (hT.g (ν := μ) (ξ := wr κ 5 m (nI (N - 8))) (fun _ _ _ => rfl) (fun j _ _ => by rw [wr_f _ _ _ _ (by decide)]))
    rw [if_pos h8, if_pos (show N < 13 by omega), e8, if_pos hnn, if_pos hnn, a1, bv_e, m_J24 h11 hm5, a2, bv_e]
    refine ⟨_, nI (N - 8), _, ξ, rfl, rfl, a3, ⟨fun b h1 h2 => by rw [a4.1 b h1, wr_f _ _ _ _ h2], fun j hj => by rw [a4.1 5 (by decide), wr_o (fun q => hj q.2)], by rw [a4.1 5 (by decide), wr_s], fun j hj => by rw [a4.2 j hj, wr_f _ _ _ _ (by decide)]⟩, ?_, fun _ => ⟨N - 8, by omega, rfl, rfl⟩⟩
    rcases a5 with ⟨tk', pl', nx', v', b1, b2⟩ | hF
    · exact Or.inl ⟨tk', pl', nx', v', by have := hT.l1; omega, b2⟩
    · exact Or.inr hF
  · have hneg : ¬ (0 : Int32) ≤ (if N < 13 then nI N else -4) - 8 := by
      by_cases h : N < 13
      · rw [if_pos h]; exact kn_neg N (by omega)
      · rw [if_neg h]; decide
    have hF : FLT (wr (wr μ 23 3 2) 23 4 (μ 23 6)) (wr (wr κ 0 20 2) 0 21 (κ 0 23)) := flt_mk 2 (by decide) (by decide) (by rw [hT.x6, hT.m23])
    have hF2 : ∀ z, FLT (wr (wr μ 23 3 2) 23 4 (μ 23 6)) (wr (wr (wr κ 0 20 2) 0 21 (κ 0 23)) 5 m z) := fun z => hF.g (fun _ _ _ => rfl) (fun j _ _ => by rw [wr_f _ _ _ _ (by decide)])
    rw [if_neg h8, if_neg (by decide), if_neg hneg, x_fail hT.x3, bv_e, m_fail hT.m20, bv_e, m_J24 (by rw [wr_o (by omega), wr_o (by omega)]; exact h11) hm5, (hF2 _).n.2.2.2, bv_e]
    refine ⟨_, _, _, _, rfl, rfl, cF.fl _ _ _, ⟨fun b h1 h2 => by rw [wr_f _ _ _ _ h2, wr_f _ _ _ _ h1, wr_f _ _ _ _ h1], fun j hj => by rw [wr_o (fun q => hj q.2), wr_f _ _ _ _ (by decide), wr_f _ _ _ _ (by decide)], wr_s _ _ _ _, fun j hj => by rw [wr_f _ _ _ _ (by decide), wr_o (by omega), wr_o (by omega)]⟩, Or.inr (hF2 _), fun e => absurd e hF.n.1⟩
theorem x_52 {μ ν : Mem} {m w lo hi fu : Nat} {y : Int32} (h1 : 1 ≤ w) (h4 : w ≤ 4) (hm : m < 5) (hl : fX7_leastOf (nI w) μ = some (nI lo, μ)) (hh : fX7_mostOf (nI w) μ = some (nI hi, μ)) (hn : fX1_takeNumber (nI lo) (nI hi) μ = some (y, ν)) : fX1_readOrder_L52 (fu + 1) (nI (5 * m)) (nI w) μ = fX1_readOrder_L52 fu (nI (5 * m)) (nI (w + 1)) (wr ν 20 (5 * m + w) y) := by
  rw [fX1_readOrder_L52, if_neg (show ¬ (4 : Int32) < nI w by rw [show (4 : Int32) = nI 4 from rfl, lt_nI (by omega) (by omega)]; omega), hl, bi_e, hh, bi_e, hn, bi_e, nI_add, gr_n (by omega) (by decide), cl_n (by omega), lb_e, lb_e, nI_s1]
theorem x_525 {μ : Mem} {m fu : Nat} (h5 : μ 18 5 = nI m) : fX1_readOrder_L52 (fu + 1) (nI (5 * m)) (nI 5) μ = some (wr μ 18 5 (nI (m + 1))) := by
  rw [fX1_readOrder_L52, if_pos (by decide), h5, nI_s1, lb_e]
theorem ln_orderF {μ κ : Mem} {t p tk pl nx v m : Nat} (w : Int32) (hs : fsS μ) (hT : TK μ κ t tk pl nx v) (h5 : μ 18 5 = nI m) (h6 : m = 5) : ∃ ν, (bv (fX1_readOrder μ) fun m => fX1_readLine_J203 m) = some ν ∧ lX μ ν ∧ LR t p ν (wr (wr (wr κ 0 20 5) 0 21 (κ 0 23)) 0 12 w) := by
  have hF : FLT (wr (wr μ 23 3 5) 23 4 (μ 23 6)) (wr (wr (wr κ 0 20 5) 0 21 (κ 0 23)) 0 12 w) := flt_12 5 (by decide) (by decide) (by rw [hT.x6, hT.m23]) w
  unfold fX1_readOrder
  rw [h5, h6, if_neg (by decide), x_fail hT.x3, bv_e, bv_e, x_semF hF.n.1]
  exact ⟨_, rfl, (cF.fl _ _ _).l, Or.inr ⟨hF, fsS_fl hs _ _⟩⟩
