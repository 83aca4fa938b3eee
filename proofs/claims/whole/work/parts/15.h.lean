/-! ===== the text: a line, all lines ===== -/
theorem sgl : sg 0 = 0 ∧ sg 1 = 1 ∧ sg 2 = 2 ∧ sg 3 = 3 ∧ sg 9 = 4 ∧ sg 10 = 5 ∧ sg 11 = 6 ∧ sg 12 = 7 := by decide
theorem line_step {μ κ : Mem} {t p : Nat} {c : Nat → Nat} (hx : tpX μ t c) (hm : tpM κ t c) (h12 : κ 12 = mM0 12) (h13 : κ 13 = mM0 13) (hD : DT μ κ) (hT : TKs μ κ t p) : ∃ ν ξ, fX1_readLine μ = some ν ∧ fX8_readLine κ = some ξ ∧ lX μ ν ∧ lM κ ξ ∧ LR t p ν ξ := by
  obtain ⟨h, m, hh, L, T, k0, k1, A, B, H⟩ := hD
  obtain ⟨tk, pl, nx, v, hp, hT⟩ := hT
  obtain ⟨N, n1, n2, n3⟩ := names hx hm h12 h13 hT
  obtain ⟨g0, g1, g2, g3, g4, g5, g6, g7⟩ := sgl
  rw [x_line n2, g0, g1, g2, g3, g4, g5, g6, g7]
  have hh6 := H.hs.1
  have hm5 := H.od.1
  have lf : ∀ x w, lM κ (wr (wr (wr κ 0 20 x) 0 21 (κ 0 23)) 0 12 w) := fun x w => (rF.fl _ _ _).l.t (lM.v _ _ (by decide) (by decide))
  by_cases h8 : 8 ≤ N
  · rw [m_lineN n1 h8 n3, if_neg (by omega), if_neg (by omega), if_neg (by omega), if_neg (by omega), if_neg (by omega), if_neg (by omega), if_neg (by omega), if_neg (by omega)]
    exact ln_bad H.s hT
  · obtain ⟨lY, l5, l4⟩ := m_lineY (by omega) n3 hh6 hm5 H.tl.2.1 hT.m20 H.hs.2.2.1 H.od.2.2.2.1 H.tl.2.2.2.1
    have tb := H.tl.2.2.2.2
    have hhouse : ∀ (s : Int32), s = nI N → N ≤ 2 → ∃ ν ξ, (bv (fX1_readHouse s μ) fun m37 => fX1_readLine_J203 m37) = some ν ∧ fX8_readLine κ = some ξ ∧ lX μ ν ∧ lM κ ξ ∧ LR t p ν ξ := by
      rintro s rfl h2
      by_cases h6 : h = 6
      · rw [l5 (Or.inl ⟨h2, h6⟩)]
        obtain ⟨ν, b1, b2, b3⟩ := ln_houseF (p := p) (nI N) (nI (T ||| 2 ^ N)) H.s hT H.hs.2.1 h6
        exact ⟨ν, _, b1, rfl, b2, lf _ _, b3⟩
      · rw [lY ⟨fun q => h6 q.2, by omega, by omega⟩]
        exact ln_house hx hm H hT hp h2 (by omega)
    by_cases e0 : N = 0
    · subst e0; rw [if_pos rfl]; exact hhouse 0 rfl (by decide)
    rw [if_neg (by omega)]
    by_cases e1 : N = 1
    · subst e1; rw [if_pos rfl]; exact hhouse 1 rfl (by decide)
    rw [if_neg (by omega)]
    by_cases e2 : N = 2
    · subst e2; rw [if_pos rfl]; exact hhouse 2 rfl (by decide)
    rw [if_neg (by omega)]
    by_cases e3 : N = 3
    · subst e3
      rw [if_pos rfl]
      by_cases h5 : m = 5
      · rw [l5 (Or.inr ⟨rfl, h5⟩)]
        obtain ⟨ν, b1, b2, b3⟩ := ln_orderF (p := p) (nI (T ||| 2 ^ 3)) H.s hT H.od.2.2.1 h5
        exact ⟨ν, _, b1, rfl, b2, lf _ _, b3⟩
      · rw [lY ⟨by omega, fun q => h5 q.2, by omega⟩]
        exact ln_order hx hm h12 h13 H hT hp (by omega)
    rw [if_neg (by omega)]
    have lYs : 4 ≤ N → T.testBit N = false → fX8_readLine κ = _ := fun q1 q2 => lY ⟨by omega, by omega, fun q => by rw [q2] at q; exact absurd q.2 (by decide)⟩
    by_cases e4 : N = 4
    · subst e4
      rw [if_pos rfl]
      have t4 := tb 0 (by decide)
      cases hb : L.testBit 0 with
      | true =>
        rw [l4 ⟨by decide, t4.trans hb⟩]
        obtain ⟨ν, b1, b2, b3⟩ := ln_psF (p := p) (i := 6) (nI (T ||| 2 ^ 4)) H.s hT (show 0 < 4 by decide) H.tl.1 H.tl.2.2.1 hb (Or.inl rfl)
        exact ⟨ν, _, b1, rfl, b2, lf _ _, b3⟩
      | false =>
        rw [lYs (by decide) (t4.trans hb)]
        refine ln_ps (N := 4) 6 30 (fun z => z - 10) (Or.inl rfl) (Or.inl rfl) hx hm H hT hp (by decide) (by decide) hb (fun κ2 z κ3 q => ?_) (fun ν ξ x q1 q2 q3 q4 q5 => ?_)
        · unfold fX8_readMore fX8_readMore_J111
          rw [if_pos (by decide), if_neg (show ¬ nI 4 = (3 : Int32) by decide), if_pos (show nI 4 = (4 : Int32) from rfl), q, bi_e]
          rfl
        · refine ⟨⟨x, q1, q2, by rw [q3, Int32.sub_add_cancel]⟩, ?_⟩
          rw [q4 7 (by decide), q5 31 (by decide)]
          exact H.ps.2
    rw [if_neg (by omega)]
    by_cases e5 : N = 5
    · subst e5
      rw [if_pos rfl]
      have t4 := tb 1 (by decide)
      cases hb : L.testBit 1 with
      | true =>
        rw [l4 ⟨by decide, t4.trans hb⟩]
        obtain ⟨ν, b1, b2, b3⟩ := ln_psF (p := p) (i := 7) (nI (T ||| 2 ^ 5)) H.s hT (show 1 < 4 by decide) H.tl.1 H.tl.2.2.1 hb (Or.inr rfl)
        exact ⟨ν, _, b1, rfl, b2, lf _ _, b3⟩
      | false =>
        rw [lYs (by decide) (t4.trans hb)]
        refine ln_ps (N := 5) 7 31 (fun z => z) (Or.inr rfl) (Or.inr rfl) hx hm H hT hp (by decide) (by decide) hb (fun κ2 z κ3 q => ?_) (fun ν ξ x q1 q2 q3 q4 q5 => ?_)
        · unfold fX8_readMore fX8_readMore_J111
          rw [if_pos (by decide), if_neg (show ¬ nI 5 = (3 : Int32) by decide), if_neg (show ¬ nI 5 = (4 : Int32) by decide), if_pos (show nI 5 = (5 : Int32) from rfl), q, bi_e]
          rfl
        · refine ⟨?_, ⟨x, q1, q2, q3⟩⟩
          rw [q4 6 (by decide), q5 30 (by decide)]
          exact H.ps.1
    rw [if_neg (by omega)]
    by_cases e6 : N = 6
    · subst e6
      rw [if_pos rfl]
      have t4 := tb 2 (by decide)
      cases hb : L.testBit 2 with
      | true =>
        rw [l4 ⟨by decide, t4.trans hb⟩]
        obtain ⟨ν, b1, b2, b3⟩ := ln_rowF (p := p) (a := 21) (i := 10) (nI (T ||| 2 ^ 6)) H.s hT (show 2 < 4 by decide) H.tl.1 H.tl.2.2.1 hb (Or.inl rfl)
        exact ⟨ν, _, b1, rfl, b2, lf _ _, b3⟩
      | false =>
        rw [lYs (by decide) (t4.trans hb)]
        exact ln_row (rr := 0) (by decide) hx hm H hT hp hb
    have e7 : N = 7 := by omega
    subst e7
    rw [if_neg (by decide), if_pos rfl]
    have t4 := tb 3 (by decide)
    cases hb : L.testBit 3 with
    | true =>
      rw [l4 ⟨by decide, t4.trans hb⟩]
      obtain ⟨ν, b1, b2, b3⟩ := ln_rowF (p := p) (a := 22) (i := 11) (nI (T ||| 2 ^ 7)) H.s hT (show 3 < 4 by decide) H.tl.1 H.tl.2.2.1 hb (Or.inr rfl)
      exact ⟨ν, _, b1, rfl, b2, lf _ _, b3⟩
    | false =>
      rw [lYs (by decide) (t4.trans hb)]
      exact ln_row (rr := 1) (by decide) hx hm H hT hp hb
theorem DTp.w2 {μ κ : Mem} {h m hh L T k0 k1 : Nat} {A B : List Nat} (H : DTp μ κ h m hh L T k0 k1 A B) (x : Int32) : DTp (wr μ 23 2 x) κ h m hh L T k0 k1 A B := by
  have ex : ∀ b, b ≠ 23 → wr μ 23 2 x b = μ b := fun b hb => wr_f _ _ _ _ hb
  have e18 := ex 18 (by decide)
  exact ⟨dHs_f H.hs (by rw [e18]) (ex 19 (by decide)) rfl rfl rfl, dOr_f H.od (by rw [e18]) (ex 20 (by decide)) rfl rfl (fun _ _ => rfl) rfl, dPS_f H.ps (by rw [e18]) (by rw [e18]) rfl rfl, dTl_f H.tl (wr_o (by omega)) rfl, dRw_f H.r0 (ex 21 (by decide)) (wr_o (by omega)) (fun _ _ => rfl) rfl, dRw_f H.r1 (ex 22 (by decide)) (wr_o (by omega)) (fun _ _ => rfl) rfl, H.hi, H.z0, H.z1⟩
def xF (μ ν : Mem) : Prop := ∀ b, b < 18 ∨ 23 < b → ν b = μ b
/-- where the lines end -/
def TE (t i : Nat) (ν ξ : Mem) : Prop := ν 23 2 = nI i ∧ ((DT ν ξ ∧ ν 23 3 = 0 ∧ ξ 0 20 = 0 ∧ ξ 0 23 = nI t) ∨ (FLT ν ξ ∧ fsS ν))
theorem text_L {t : Nat} {c : Nat → Nat} : ∀ (r p i f1 f2 : Nat) (μ κ : Mem), p + r = t + 1 → r + 1 < f1 → r + 1 < f2 → i ≤ p → tpX μ t c → tpM κ t c → κ 12 = mM0 12 → κ 13 = mM0 13 → μ 23 2 = nI i → DT μ κ → TKs μ κ t p → ∃ i' ν ξ, fX1_readTape_L48 f1 (nI i) μ = fX1_readTape_J89 ν ∧ fX8_text_L10 f2 (nI i) κ = fX8_text_J34 (nI i') ξ ∧ xF μ ν ∧ lM κ ξ ∧ TE t i' ν ξ := by
  intro r
  induction r with
  | zero =>
    intro p i f1 f2 μ κ h1 _ _ _ _ _ _ _ _ _ hT
    obtain ⟨tk, pl, nx, v, hp, hT⟩ := hT
    have := hT.l1
    have := hT.l2
    omega
  | succ r ih =>
    intro p i f1 f2 μ κ h1 hf1 hf2 hi hx hm h12 h13 h2 hD hT
    have h160 := hx.1
    obtain ⟨f1, rfl⟩ : ∃ f, f1 = f + 1 + 1 := ⟨f1 - 2, by omega⟩
    obtain ⟨f2, rfl⟩ : ∃ f, f2 = f + 1 + 1 := ⟨f2 - 2, by omega⟩
    obtain ⟨tk, pl, nx, v, hp, hT0⟩ := hT
    have hT : TKs μ κ t p := ⟨tk, pl, nx, v, hp, hT0⟩
    have l3 := hT0.l3
    have hlt : ¬ (160 : Int32) < nI i := by rw [show (160 : Int32) = nI 160 from rfl, lt_nI (by omega) (by omega)]; omega
    rw [fX1_readTape_L48, if_neg hlt, if_pos hT0.x3, fX8_text_L10, if_pos hT0.m20, hT0.x5, hT0.m24]
    by_cases e0 : tk = 0
    · have ez : nI tk = (0 : Int32) := by rw [e0]; rfl
      rw [if_pos ez, if_pos ez]
      exact ⟨i, μ, κ, rfl, rfl, fun _ _ => rfl, lM.r κ, h2, Or.inl ⟨hD, hT0.x3, hT0.m20, by rw [hT0.m23, hT0.e0 e0]⟩⟩
    · have ez : ¬ nI tk = (0 : Int32) := by rw [show (0 : Int32) = nI 0 from rfl, eq_nI (by omega) (by omega)]; exact e0
      obtain ⟨ν, ξ, a1, a2, a3, a4, a5⟩ := line_step hx hm h12 h13 hD hT
      have n2 : ν 23 2 = nI i := by rw [a3.2]; exact h2
      rw [if_neg ez, if_neg ez, a1, a2, bv_e, bv_e, n2, nI_s1, lb_e, lb_e, lb_e]
      have n23 : ∀ j, j ≠ 2 → wr ν 23 2 (nI (i + 1)) 23 j = ν 23 j := fun j hj => wr_o (fun q => hj q.2)
      have nb : ∀ b, b ≠ 23 → wr ν 23 2 (nI (i + 1)) b = ν b := fun b hb => wr_f _ _ _ _ hb
      rcases a5 with ⟨hD2, hT2⟩ | ⟨hF, hs⟩
      · obtain ⟨_, _, _, _, _, _, _, _, _, H2⟩ := hD2
        obtain ⟨tk', pl', nx', v', hp', hT'⟩ := hT2
        obtain ⟨i', ν', ξ', q1, q2, q3, q4, q5⟩ := ih (p + 1) (i + 1) (f1 + 1) (f2 + 1) (wr ν 23 2 (nI (i + 1))) ξ (by omega) (by omega) (by omega) (by omega) ⟨hx.1, by rw [nb 1 (by decide), a3.1 1 (by decide)]; exact hx.2.1, fun i hi => by rw [nb 2 (by decide), a3.1 2 (by decide)]; exact hx.2.2 i hi⟩ (tpM_l hm a4) (by rw [a4.1 12 (by decide) (by decide)]; exact h12) (by rw [a4.1 13 (by decide) (by decide)]; exact h13) (wr_s _ _ _ _) ⟨_, _, _, _, _, _, _, _, _, H2.w2 _⟩ ⟨tk', pl', nx', v', hp', hT'.g (fun j _ _ => n23 j (by omega)) (fun _ _ _ => rfl)⟩
        exact ⟨i', ν', ξ', q1, q2, fun b hb => by rw [q3 b hb, nb b (by omega), a3.1 b hb], a4.t q4, q5⟩
      · have hn := hF.n
        refine ⟨i + 1, wr ν 23 2 (nI (i + 1)), ξ, ?_, ?_, fun b hb => by rw [nb b (by omega), a3.1 b hb], a4, wr_s _ _ _ _, Or.inr ⟨hF.g (fun j _ _ => n23 j (by omega)) (fun _ _ _ => rfl), fsS_f hs (by rw [nb 18 (by decide)]) (n23 10 (by decide)) (n23 11 (by decide))⟩⟩
        · rw [fX1_readTape_L48, if_neg (show ¬ wr ν 23 2 (nI (i + 1)) 23 3 = 0 by rw [n23 3 (by decide)]; exact hn.1), ite_self]
        · rw [fX8_text_L10, if_neg hn.2.1]
/-! addOthers where there was a fault -/
theorem x_aoL {a m : Nat} (ha : a ≠ 18) (hm : m ≤ 5) (x2 : Int32) : ∀ (r o at_ fu : Nat) (μ : Mem), o + r = m → r < fu → at_ < 20 → μ 18 5 = nI m → ∃ ν, fX1_addOthers_L8 a fu x2 (nI at_) (nI o) μ = some ν ∧ (∀ b, b ≠ a → ν b = μ b)
  | 0, o, at_, fu + 1, μ, h1, _, h3, h5 => by
    have e : o = m := by omega
    subst e
    refine ⟨μ, ?_, fun _ _ => rfl⟩
    rw [fX1_addOthers_L8, h5, if_pos (Int32.le_refl _)]
    rfl
  | r + 1, o, at_, fu + 1, μ, h1, h2, h3, h5 => by
    rw [fX1_addOthers_L8, h5, if_neg (by rw [le_nI (by omega) (by omega)]; omega)]
    by_cases e5 : 5 ≤ at_
    · rw [if_pos (by rw [show (5 : Int32) = nI 5 from rfl, le_nI (by omega) (by omega)]; exact e5)]
      exact ⟨μ, rfl, fun _ _ => rfl⟩
    · rw [if_neg (by rw [show (5 : Int32) = nI 5 from rfl, le_nI (by omega) (by omega)]; exact e5)]
      unfold fX1_addOthers_J42
      rw [gr_n (by omega) (by decide), cl_n (by omega), lb_e, lb_e, lb_e, lb_e, nI_s1, nI_s1]
      obtain ⟨ν1, q1, q2⟩ := x_aoL ha hm x2 r (o + 1) (at_ + 1) fu (wr μ a at_ (nI o)) (by omega) (by omega) (by omega) (by rw [wr_f _ _ _ _ ha.symm]; exact h5)
      obtain ⟨ν2, q3, q4⟩ := x_aoL ha hm x2 r (o + 1) at_ fu μ (by omega) (by omega) h3 h5
      split
      · exact ⟨ν1, q1, fun b hb => by rw [q2 b hb, wr_f _ _ _ _ hb]⟩
      · exact ⟨ν2, q3, q4⟩
theorem x_aoF {a m w : Nat} {μ : Mem} (ha : a ≠ 18) (hm : m ≤ 5) (hw : w < 32) (h5 : μ 18 5 = nI m) : ∃ ν, fX1_addOthers a (nI w) μ = some ν ∧ (∀ b, b ≠ a → ν b = μ b) := by
  obtain ⟨f, hf⟩ := FU_s 100 (by decide)
  have hp := popc_le w
  unfold fX1_addOthers
  rw [bc_ok w hw, bi_e, lb_e]
  exact x_aoL ha hm _ m 0 (popc w) FU μ (by omega) (by omega) (by omega) h5
theorem x_J100F {μ : Mem} (hs : fsS μ) : ∃ ν, fX1_readTape_J100 μ = some ν ∧ (∀ b, b ≠ 21 → b ≠ 22 → ν b = μ b) := by
  obtain ⟨⟨m, hm, h5⟩, ⟨a, ha, ea⟩, ⟨b, hb, eb⟩⟩ := hs
  obtain ⟨m1, q1, q2⟩ := x_aoF (a := 21) (by decide) hm ha h5
  obtain ⟨m2, q3, q4⟩ := x_aoF (a := 22) (by decide) hm hb (show m1 18 5 = nI m by rw [q2 18 (by decide)]; exact h5)
  unfold fX1_readTape_J100
  rw [ea, q1, bv_e, q2 23 (by decide), eb, q3, bv_e]
  exact ⟨m2, rfl, fun b h1 h2 => by rw [q4 b h2, q2 b h1]⟩
/-- a text that is not taken -/
theorem Inv.tx {μ κ ν ξ : Mem} (h : Inv μ κ) (hx : ∀ b, b ≠ 0 → b ≠ 1 → (b < 18 ∨ 23 < b) → ν b = μ b) (x10 : ν 0 10 = μ 0 10) (x9 : ν 0 9 = ξ 0 19) (x11 : ν 1 1 = 0) (m18 : ξ 0 18 = 0) (hm : ∀ b, b ≠ 0 → (b < 5 ∨ 10 < b) → ξ b = κ b) (m0 : ∀ j, j < 10 ∨ 25 < j → ξ 0 j = κ 0 j) : Inv ν ξ := by
  obtain ⟨n, H, D, hs, P, R, ps, st, g⟩ := h.main
  refine ⟨⟨n, H, D, hs, P, R, ps, st, g.f (fun b h1 h2 => hx b (by omega) (by omega) (by omega)) (m0 3 (by decide)) (m0 5 (by decide)) (hm 2 (by decide) (by decide)) (hm 3 (by decide) (by decide)) (hm 4 (by decide) (by decide)) (fun j _ => by rw [hm 1 (by decide) (by decide)])⟩, fun k hk => (h.img k hk).f hk (fun b hb => hx b (by omega) (by omega) (by omega)) (m0 3 (by decide)) (m0 5 (by decide)) (hm 2 (by decide) (by decide)) (hm 3 (by decide) (by decide)) (hm 4 (by decide) (by decide)) (hm 16 (by decide) (by decide)) (fun j _ _ => by rw [hm 1 (by decide) (by decide)]), h.sen.f (hx 31 (by decide) (by decide) (by decide)) (hx 32 (by decide) (by decide) (by decide)) (hx 33 (by decide) (by decide) (by decide)) (m0 5 (by decide)) (m0 39 (by decide)) (hm 15 (by decide) (by decide)), ⟨0, by decide, x11, m18, fun i hi => absurd hi (by omega)⟩, fun k hk => (h.sht k hk).f (by rw [hx 43 (by decide) (by decide) (by decide)]) (by rw [hx 42 (by decide) (by decide) (by decide)]) (hx _ (by omega) (by omega) (by omega)) (by rw [hm 17 (by decide) (by decide)]) (by rw [hm 18 (by decide) (by decide)]) (fun i _ => by rw [hm 19 (by decide) (by decide)]), x9, ?_, by rw [hm 12 (by decide) (by decide)]; exact h.cut, by rw [hm 13 (by decide) (by decide)]; exact h.ltr⟩
  rw [x10, m0 44 (by decide)]
  exact h.trn
