/-! ===== text ===== -/
def txT (m1 : Mem) : Option (Int32 × Mem) := lb (wr m1 1 1 (0 : Int32)) fun m2 => lb (wr m2 0 9 (m2 23 3)) fun m3 => if (m3 0 9) = (0 : Int32) then (bv (fX4_become 3 18 m3) fun m4 => lb (wr m4 31 2 (0 : Int32)) fun m5 => lb (0 : Int32) fun (y6 : Int32) => fX7_text_L68 FU y6 m5) else (some (((-10 : Int32) - (m3 23 4)), m3))
theorem tx_F {μ κ ν ξ : Mem} (x : Int32) (h : Inv μ κ) (hx : xF μ ν) (hm : lM κ ξ) (hF : FLT ν ξ) (hs : fsS ν) : ∃ rr N X, (bv (fX1_readTape_J100 ν) fun m1 => txT m1) = some (rr, N) ∧ fX8_text_J69 x ξ = some (rr, X) ∧ Inv N X := by
  obtain ⟨m1, a1, a2⟩ := x_J100F hs
  have hn := hF.n
  obtain ⟨q, q1, q2, q3, q4, q5⟩ := hF
  have e23 : m1 23 = ν 23 := a2 23 (by decide) (by decide)
  rw [a1, bv_e]
  unfold txT fX8_text_J69
  have e3 : wr m1 1 1 0 23 3 = nI q := by rw [wr_f _ _ _ _ (by decide), e23]; exact q3
  have e20 : wr ξ 0 18 0 0 20 = nI q := by rw [wr_o (by omega)]; exact q4
  have hne : ¬ nI q = (0 : Int32) := by rw [show (0 : Int32) = nI 0 from rfl, eq_nI (by omega) (by omega)]; omega
  have hnl : ¬ nI q ≤ (0 : Int32) := by rw [show (0 : Int32) = nI 0 from rfl, le_nI (by omega) (by omega)]; omega
  rw [lb_e, e3, lb_e, wr_s, if_neg hne, lb_e, e20, lb_e, wr_o (show ¬ (0 = 0 ∧ 20 = 19) by decide), e20, if_neg hnl]
  refine ⟨_, _, _, rfl, ?_, h.tx (ν := wr (wr m1 1 1 0) 0 9 (nI q)) (ξ := wr (wr ξ 0 18 0) 0 19 (nI q)) (fun b h0 h1 h2 => ?_) ?_ ?_ ?_ ?_ (fun b h0 h1 => ?_) (fun j hj => ?_)⟩
  · rw [wr_o (show ¬ (0 = 0 ∧ 21 = 19) by decide), wr_o (show ¬ (0 = 0 ∧ 21 = 18) by decide), wr_f _ _ _ _ (show 23 ≠ 0 by decide), wr_f _ _ _ _ (show 23 ≠ 1 by decide), e23, q5]
  · rw [wr_f _ _ _ _ h0, wr_f _ _ _ _ h1, a2 b (by omega) (by omega), hx b h2]
  · rw [wr_o (by omega), wr_f _ _ _ _ (by decide), a2 0 (by decide) (by decide), hx 0 (by decide)]
  · rw [wr_s, wr_s]
  · rw [wr_f _ _ _ _ (by decide), wr_s]
  · rw [wr_o (by omega), wr_s]
  · rw [wr_f _ _ _ _ h0, wr_f _ _ _ _ h0, hm.1 b h0 h1]
  · rw [wr_o (by omega), wr_o (by omega), hm.2 j (by omega)]
theorem tx_S {μ κ ν ξ : Mem} {i h m hh L T k0 k1 : Nat} {A B : List Nat} (hI : Inv μ κ) (hx : xF μ ν) (hm : lM κ ξ) (H : DTp ν ξ h m hh L T k0 k1 A B) (x3 : ν 23 3 = 0) (m20 : ξ 0 20 = 0) (x2 : ν 23 2 = nI i) (hhh : hh ≤ h) (hU : hiB (abm (rw_ A) k0 ||| abm (rw_ B) k1) ≤ m) : ∃ rr N X, (bv (fX1_readTape_J100 ν) fun m1 => txT m1) = some (rr, N) ∧ fX8_text_J69 (nI i) ξ = some (rr, X) ∧ Inv N X := by
  obtain ⟨f, hf⟩ := FU_s 100 (by decide)
  have hm5 := H.od.1
  obtain ⟨b01, b02, b03, b04, b05⟩ := H.r0
  obtain ⟨b11, b12, b13, b14, b15⟩ := H.r1
  have g0 := (sb_ok k0 (by omega) A b02).1
  have g1 := (sb_ok k1 (by omega) B b12).1
  have hlt := (hi_le _ g0 _ g1 m (by omega)).resolve_left (by omega)
  have hP := (ot_p m (by omega) k0 (by omega) A b02).resolve_left (by omega)
  have hR := (ot_p m (by omega) k1 (by omega) B b12).resolve_left (by omega)
  have h5 : ν 18 5 = nI m := H.od.2.2.1
  have e11 : ξ 0 11 = nI m := H.od.2.2.2.1
  -- the class
  obtain ⟨m1, a1, a2, a3⟩ := x_ao (a := 21) (by decide) (by omega) b02 hm5 hlt.1 h5 (fun j hj => (b03 j hj).1)
  obtain ⟨m2, a4, a5, a6⟩ := x_ao (a := 22) (μ := m1) (by decide) (by omega) b12 hm5 hlt.2 (by rw [a2 18 (by decide)]; exact h5) (fun j hj => by rw [a2 22 (by decide)]; exact (b13 j hj).1)
  have e10 : ν 23 10 = nI (abm (rw_ A) k0) := b05
  have e11' : m1 23 11 = nI (abm (rw_ B) k1) := by rw [a2 23 (by decide)]; exact b15
  have J : fX1_readTape_J100 ν = some m2 := by
    unfold fX1_readTape_J100
    rw [e10, a1, bv_e, e11', a4, bv_e]
  have hmb : ∀ b, b ≠ 21 → b ≠ 22 → m2 b = ν b := fun b h1 h2 => by rw [a5 b h2, a2 b h1]
  obtain ⟨M, hM⟩ : ∃ M, M = wr (wr m2 1 1 0) 0 9 0 := ⟨_, rfl⟩
  have Mb : ∀ b, b ≠ 0 → b ≠ 1 → M b = m2 b := fun b h1 h2 => by rw [hM, wr_f _ _ _ _ h1, wr_f _ _ _ _ h2]
  obtain ⟨m4, c1, c2, c3, c4, c5, c6, c7⟩ := x_become (sh := 3) (sg := 18) (by decide) M
  obtain ⟨N, d1, d2, d3, d4⟩ := x_L68 (μ := wr m4 31 2 0) (i := i) (by rw [wr_f _ _ _ _ (by decide), c2 23 (by decide), Mb 23 (by decide) (by decide), hmb 23 (by decide) (by decide)]; exact x2)
  -- the reference
  obtain ⟨K, hK⟩ : ∃ K, K = wr (wr ξ 0 18 0) 0 19 0 := ⟨_, rfl⟩
  have Kb : ∀ b, b ≠ 0 → K b = ξ b := fun b h1 => by rw [hK, wr_f _ _ _ _ h1, wr_f _ _ _ _ h1]
  have K0 : ∀ j, j ≠ 18 → j ≠ 19 → K 0 j = ξ 0 j := fun j h1 h2 => by rw [hK, wr_o (fun q => h2 q.2), wr_o (fun q => h1 q.2)]
  obtain ⟨κ2, f1, f2, f3, f4⟩ := m_lr (κ := K) (rr := 0) (at_ := 20) (by decide) (by omega) b02 hm5 (by decide) hlt.1 (by rw [K0 11 (by decide) (by decide)]; exact e11) (by rw [Kb 10 (by decide)]; exact b04) (fun j hj => by rw [Kb 9 (by decide)]; exact (b03 j hj).2)
  have f1 : fX8_laysRow (0 : Int32) (20 : Int32) K = _ := f1
  obtain ⟨κ3, f5, f6, f7, f8⟩ := m_lr (κ := κ2) (rr := 1) (at_ := 25) (by decide) (by omega) b12 hm5 (by decide) hlt.2 (by rw [f2 0 (by decide), K0 11 (by decide) (by decide)]; exact e11) (by rw [f2 10 (by decide), Kb 10 (by decide)]; exact b14) (fun j hj => by rw [f2 9 (by decide), Kb 9 (by decide)]; exact (b13 j hj).2)
  have f5 : fX8_laysRow (1 : Int32) (25 : Int32) κ2 = _ := f5
  obtain ⟨X, q0, q1, q2, q3, q4, q5, q6, q7, q8, q9, q10⟩ := m_cp113 (nI i) 32 0 FU κ3 (by omega) (by omega) (fun j hj => absurd hj (by omega)) (fun j _ hj => absurd hj (by omega)) (fun j _ hj => absurd hj (by omega))
  have q0 : fX8_text_L113 FU (nI i) 0 κ3 = _ := q0
  have kb : ∀ b, b ≠ 0 → b ≠ 5 → κ3 b = ξ b := fun b h1 h2 => by rw [f6 b h2, f2 b h2, Kb b h1]
  have k0' : ∀ j, κ3 0 j = K 0 j := fun j => by rw [f6 0 (by decide), f2 0 (by decide)]
  have e3 : wr m2 1 1 0 23 3 = 0 := by rw [wr_f _ _ _ _ (by decide), hmb 23 (by decide) (by decide)]; exact x3
  have e20 : wr ξ 0 18 0 0 20 = 0 := by rw [wr_o (by omega)]; exact m20
  rw [J, bv_e]
  unfold txT fX8_text_J69
  rw [lb_e, e3, lb_e, wr_s, if_pos rfl, ← hM, c1, bv_e, lb_e, lb_e, d1, lb_e, e20, lb_e, wr_o (show ¬ (0 = 0 ∧ 20 = 19) by decide), e20, if_pos (Int32.le_refl _), ← hK, f1, bv_e, f5, bv_e, lb_e, q0]
  refine ⟨_, _, _, rfl, rfl, ?_⟩
  -- the frames of the class
  have Nb : ∀ b, b ≠ 31 → b ≠ 35 → N b = m4 b := fun b h1 h2 => by rw [d2 b h2, wr_f _ _ _ _ h1]
  have Nf : ∀ b, b ≠ 0 → b ≠ 1 → b ≠ 31 → b ≠ 35 → (b < 3 ∨ 7 < b) → (b < 18 ∨ 23 < b) → N b = μ b := fun b h0 h1 h2 h3 h4 h5 => by rw [Nb b h2 h3, c2 b (by omega), Mb b h0 h1, hmb b (by omega) (by omega), hx b h5]
  have N0 : N 0 = M 0 := by rw [Nb 0 (by decide) (by decide), c2 0 (by decide)]
  have N1 : N 1 = M 1 := by rw [Nb 1 (by decide) (by decide), c2 1 (by decide)]
  have Xf : ∀ b, b ≠ 0 → b ≠ 16 → 10 < b → X b = κ b := fun b h0 h16 h10 => by rw [q1 b h0 (by omega) (by omega) (by omega) (by omega) h16, kb b h0 (by omega), hm.1 b h0 (Or.inr h10)]
  refine ⟨PG_tx H hhh hP hR (fun j h1 h2 => ?_) (fun j hj => ?_) (fun j hj => ?_) (fun j hj => ?_) (fun j hj => ?_) ?_ ?_ (fun j hj => ?_) (fun j hj => ?_) (fun j hj => ?_) (fun j hj => ?_) (fun j hj => ?_), fun k hk => Or.inl ?_, ⟨0, m, by decide, hm5, ?_, ?_, ?_, fun j hj => absurd hj (by omega)⟩, ⟨0, by decide, ?_, ?_, fun j hj => absurd hj (by omega)⟩, fun k hk => (hI.sht k hk).f ?_ ?_ ?_ ?_ ?_ (fun j _ => ?_), ?_, ?_, ?_, ?_⟩
  · rw [Nb 3 (by decide) (by decide), c3 j h1 h2, Mb 18 (by decide) (by decide), hmb 18 (by decide) (by decide)]
  · rw [Nb 4 (by decide) (by decide)]
    have := c4 j hj
    rw [this]
    rw [Mb (18 + 1) (by decide) (by decide), hmb (18 + 1) (by decide) (by decide)]
  · rw [Nb 5 (by decide) (by decide)]
    have := c5 j hj
    rw [this]
    rw [Mb (18 + 2) (by decide) (by decide), hmb (18 + 2) (by decide) (by decide)]
  · rw [Nb 6 (by decide) (by decide)]
    have := c6 j (by omega)
    rw [this]
    rw [Mb (18 + 3) (by decide) (by decide), a5 (18 + 3) (by decide)]
    exact a3 j hj
  · rw [Nb 7 (by decide) (by decide)]
    have := c7 j (by omega)
    rw [this]
    rw [Mb (18 + 4) (by decide) (by decide)]
    exact a6 j hj
  · rw [q5, k0', K0 10 (by decide) (by decide)]
  · rw [q6, k0', K0 11 (by decide) (by decide)]
  · rw [q2 j (by omega), f7 j (by omega), f3 j (by omega), Kb 5 (by decide)]
  · rw [(q3 j hj).1, (q3 j hj).2, kb 6 (by decide) (by decide), kb 7 (by decide) (by decide)]; exact ⟨rfl, rfl⟩
  · rw [q4 j hj, kb 8 (by decide) (by decide)]
  · rw [q2 (20 + j) (by omega), f7 (20 + j) (by omega)]; exact f4 j hj
  · rw [q2 (25 + j) (by omega)]; exact f8 j hj
  · rcases (show k = 0 ∨ k = 1 by omega) with rfl | rfl
    · exact ⟨d3, q9⟩
    · exact ⟨d4, q10⟩
  · rw [q6, k0', K0 11 (by decide) (by decide)]; exact e11
  · rw [d2 31 (by decide), wr_s]; rfl
  · exact q7
  · rw [N1, hM, wr_f _ _ _ _ (by decide), wr_s]; rfl
  · rw [q8 18 (by decide) (by decide) (by decide), k0', hK, wr_o (by omega), wr_s]; rfl
  · rw [Nf 43 (by decide) (by decide) (by decide) (by decide) (by decide) (by decide)]
  · rw [Nf 42 (by decide) (by decide) (by decide) (by decide) (by decide) (by decide)]
  · exact Nf _ (by omega) (by omega) (by omega) (by omega) (by omega) (by omega)
  · rw [Xf 17 (by decide) (by decide) (by decide)]
  · rw [Xf 18 (by decide) (by decide) (by decide)]
  · rw [Xf 19 (by decide) (by decide) (by decide)]
  · rw [N0, hM, wr_s, q8 19 (by decide) (by decide) (by decide), k0', hK, wr_s]
  · rw [N0, hM, wr_o (by omega), wr_f _ _ _ _ (by decide), hmb 0 (by decide) (by decide), hx 0 (by decide), q8 44 (by decide) (by decide) (by decide), k0', K0 44 (by decide) (by decide), hm.2 44 (by decide)]
    exact hI.trn
  · rw [Xf 12 (by decide) (by decide) (by decide)]; exact hI.cut
  · rw [Xf 13 (by decide) (by decide) (by decide)]; exact hI.ltr
/-! the beginning -/
theorem m_bgL : ∀ (r k fu : Nat) (κ : Mem), k + r = 32 → r < fu → (∀ j, j < k → κ 5 j = 0) → ∃ ξ, fX8_begins_L51 fu (nI k) κ = some ξ ∧ (∀ b, b ≠ 5 → ξ b = κ b) ∧ (∀ j, j < 32 → ξ 5 j = 0)
  | 0, k, fu + 1, κ, h1, _, h => by
    have e : k = 32 := by omega
    subst e
    refine ⟨κ, ?_, fun _ _ => rfl, h⟩
    rw [fX8_begins_L51, if_pos (by decide)]
  | r + 1, k, fu + 1, κ, h1, h2, h => by
    obtain ⟨ξ, q1, q2, q3⟩ := m_bgL r (k + 1) fu (wr κ 5 k 0) (by omega) (by omega) (fun j hj => by
      by_cases e : j = k
      · rw [e, wr_s]
      · rw [wr_o (fun q => e q.2)]; exact h j (by omega))
    refine ⟨ξ, ?_, fun b hb => by rw [q2 b hb, wr_f _ _ _ _ hb], q3⟩
    rw [fX8_begins_L51, if_neg (by rw [show (32 : Int32) = nI 32 from rfl, le_nI (by omega) (by omega)]; omega), gr_n (by omega) (by decide), cl_n (by omega), lb_e, lb_e, nI_s1]
    exact q1
theorem m_begins (κ : Mem) : ∃ ξ, fX8_begins κ = some ξ ∧ lM κ ξ ∧ ξ 0 20 = 0 ∧ ξ 0 22 = 0 ∧ ξ 0 10 = 0 ∧ ξ 0 11 = 0 ∧ ξ 0 12 = 0 ∧ ξ 10 0 = 0 ∧ ξ 10 1 = 0 ∧ ξ 0 15 = 0 ∧ ξ 0 16 = -1 ∧ (∀ j, j < 32 → ξ 5 j = 0) := by
  obtain ⟨f, hf⟩ := FU_s 100 (by decide)
  obtain ⟨K, hK⟩ : ∃ K, K = wr (wr (wr (wr (wr (wr (wr (wr (wr κ 0 20 0) 0 22 0) 0 10 0) 0 11 0) 0 12 0) 10 0 0) 10 1 0) 0 15 0) 0 16 (-1) := ⟨_, rfl⟩
  obtain ⟨ξ, q1, q2, q3⟩ := m_bgL 32 0 FU K (by omega) (by omega) (fun j hj => absurd hj (by omega))
  have q1 : fX8_begins_L51 FU 0 K = _ := q1
  have e0 := q2 0 (by decide)
  refine ⟨ξ, ?_, ⟨fun b h1 h2 => ?_, fun j hj => ?_⟩, ?_, ?_, ?_, ?_, ?_, ?_, ?_, ?_, ?_, q3⟩
  · unfold fX8_begins
    rw [lb_e, lb_e, lb_e, lb_e, lb_e, show ∀ x : Option Mem, gr (0 : Int32) 2 x = x from fun x => gr_n (k := 0) (by decide) (by decide), lb_e, show ∀ x : Option Mem, gr (1 : Int32) 2 x = x from fun x => gr_n (k := 1) (by decide) (by decide), lb_e, lb_e, lb_e, lb_e]
    rw [hK] at q1
    exact q1
  · rw [q2 b (by omega), hK, wr_f _ _ _ _ h1, wr_f _ _ _ _ h1, wr_f _ _ _ _ (by omega), wr_f _ _ _ _ (by omega), wr_f _ _ _ _ h1, wr_f _ _ _ _ h1, wr_f _ _ _ _ h1, wr_f _ _ _ _ h1, wr_f _ _ _ _ h1]
  · rw [e0, hK, wr_o (by omega), wr_o (by omega), wr_f _ _ _ _ (by decide), wr_f _ _ _ _ (by decide), wr_o (by omega), wr_o (by omega), wr_o (by omega), wr_o (by omega), wr_o (by omega)]
  · rw [e0, hK]; simp only [wr_i, Nat.reduceEqDiff, false_and, and_false, and_self, and_true, true_and, if_false, if_true, reduceIte, ne_eq, not_true_eq_false, not_false_eq_true]
  · rw [e0, hK]; simp only [wr_i, Nat.reduceEqDiff, false_and, and_false, and_self, and_true, true_and, if_false, if_true, reduceIte, ne_eq, not_true_eq_false, not_false_eq_true]
  · rw [e0, hK]; simp only [wr_i, Nat.reduceEqDiff, false_and, and_false, and_self, and_true, true_and, if_false, if_true, reduceIte, ne_eq, not_true_eq_false, not_false_eq_true]
  · rw [e0, hK]; simp only [wr_i, Nat.reduceEqDiff, false_and, and_false, and_self, and_true, true_and, if_false, if_true, reduceIte, ne_eq, not_true_eq_false, not_false_eq_true]
  · rw [e0, hK]; simp only [wr_i, Nat.reduceEqDiff, false_and, and_false, and_self, and_true, true_and, if_false, if_true, reduceIte, ne_eq, not_true_eq_false, not_false_eq_true]
  · rw [q2 10 (by decide), hK]; simp only [wr_i, Nat.reduceEqDiff, false_and, and_false, and_self, and_true, true_and, if_false, if_true, reduceIte, ne_eq, not_true_eq_false, not_false_eq_true]
  · rw [q2 10 (by decide), hK]; simp only [wr_i, Nat.reduceEqDiff, false_and, and_false, and_self, and_true, true_and, if_false, if_true, reduceIte, ne_eq, not_true_eq_false, not_false_eq_true]
  · rw [e0, hK]; simp only [wr_i, Nat.reduceEqDiff, false_and, and_false, and_self, and_true, true_and, if_false, if_true, reduceIte, ne_eq, not_true_eq_false, not_false_eq_true]
  · rw [e0, hK]; simp only [wr_i, Nat.reduceEqDiff, false_and, and_false, and_self, and_true, true_and, if_false, if_true, reduceIte, ne_eq, not_true_eq_false, not_false_eq_true]
theorem tx_0 {μ κ : Mem} {t : Nat} {c : Nat → Nat} (hx : tpX μ t c) (hm : tpM κ t c) (h12 : κ 12 = mM0 12) (h13 : κ 13 = mM0 13) : ∃ i ν ξ, fX1_readTape μ = fX1_readTape_J89 ν ∧ fX8_text κ = fX8_text_J34 (nI i) ξ ∧ xF μ ν ∧ lM κ ξ ∧ TE t i ν ξ := by
  have h160 := hx.1
  obtain ⟨f, hf⟩ := FU_s 300 (by decide)
  obtain ⟨K, b1, b2, b3, b4, b5, b6, b7, b8, b9, b10, b11, b12⟩ := m_begins κ
  obtain ⟨M, hM⟩ : ∃ M, M = wr (wr (wr (wr (wr (wr (wr (wr (wr (wr (wr μ 18 4 0) 18 5 0) 18 6 10) 18 7 0) 23 2 0) 23 3 0) 23 4 0) 23 7 0) 23 9 0) 23 10 0) 23 11 0 := ⟨_, rfl⟩
  have Mf : xF μ M := fun b hb => by rw [hM, wr_f _ _ _ _ (by omega), wr_f _ _ _ _ (by omega), wr_f _ _ _ _ (by omega), wr_f _ _ _ _ (by omega), wr_f _ _ _ _ (by omega), wr_f _ _ _ _ (by omega), wr_f _ _ _ _ (by omega), wr_f _ _ _ _ (by omega), wr_f _ _ _ _ (by omega), wr_f _ _ _ _ (by omega), wr_f _ _ _ _ (by omega)]
  have M2 : M 23 2 = 0 := by rw [hM]; simp only [wr_i, Nat.reduceEqDiff, false_and, and_false, and_self, and_true, true_and, if_false, if_true, reduceIte, ne_eq, not_true_eq_false, not_false_eq_true]
  have M3 : M 23 3 = 0 := by rw [hM]; simp only [wr_i, Nat.reduceEqDiff, false_and, and_false, and_self, and_true, true_and, if_false, if_true, reduceIte, ne_eq, not_true_eq_false, not_false_eq_true]
  have M7 : M 23 7 = 0 := by rw [hM]; simp only [wr_i, Nat.reduceEqDiff, false_and, and_false, and_self, and_true, true_and, if_false, if_true, reduceIte, ne_eq, not_true_eq_false, not_false_eq_true]
  have M9 : M 23 9 = 0 := by rw [hM]; simp only [wr_i, Nat.reduceEqDiff, false_and, and_false, and_self, and_true, true_and, if_false, if_true, reduceIte, ne_eq, not_true_eq_false, not_false_eq_true]
  have M10 : M 23 10 = 0 := by rw [hM]; simp only [wr_i, Nat.reduceEqDiff, false_and, and_false, and_self, and_true, true_and, if_false, if_true, reduceIte, ne_eq, not_true_eq_false, not_false_eq_true]
  have M11 : M 23 11 = 0 := by rw [hM]; simp only [wr_i, Nat.reduceEqDiff, false_and, and_false, and_self, and_true, true_and, if_false, if_true, reduceIte, ne_eq, not_true_eq_false, not_false_eq_true]
  have N4 : M 18 4 = 0 := by rw [hM]; simp only [wr_i, Nat.reduceEqDiff, false_and, and_false, and_self, and_true, true_and, if_false, if_true, reduceIte, ne_eq, not_true_eq_false, not_false_eq_true]
  have N5 : M 18 5 = 0 := by rw [hM]; simp only [wr_i, Nat.reduceEqDiff, false_and, and_false, and_self, and_true, true_and, if_false, if_true, reduceIte, ne_eq, not_true_eq_false, not_false_eq_true]
  have N6 : M 18 6 = 10 := by rw [hM]; simp only [wr_i, Nat.reduceEqDiff, false_and, and_false, and_self, and_true, true_and, if_false, if_true, reduceIte, ne_eq, not_true_eq_false, not_false_eq_true]
  have N7 : M 18 7 = 0 := by rw [hM]; simp only [wr_i, Nat.reduceEqDiff, false_and, and_false, and_self, and_true, true_and, if_false, if_true, reduceIte, ne_eq, not_true_eq_false, not_false_eq_true]
  have hxM : tpX M t c := ⟨hx.1, by rw [Mf 1 (by decide)]; exact hx.2.1, fun i hi => by rw [Mf 2 (by decide)]; exact hx.2.2 i hi⟩
  have hmK := tpM_l hm b2
  have H : DTp M K 0 0 0 0 0 0 0 [] [] := by
    refine ⟨⟨by decide, N4, b5, fun j hj => absurd hj (by omega)⟩, ⟨by decide, by decide, N5, b6, b10, Or.inl rfl, fun j hj => absurd hj (by omega)⟩, ⟨⟨10, by decide, N6, by rw [b12 30 (by decide)]; rfl⟩, ⟨0, by decide, N7, b12 31 (by decide)⟩⟩, ⟨by decide, by decide, M9, b7, fun j _ => by rw [Nat.zero_testBit, Nat.zero_testBit]⟩, ⟨by decide, by decide, fun j hj => absurd hj (by omega), b8, M10⟩, ⟨by decide, by decide, fun j hj => absurd hj (by omega), b9, M11⟩, ⟨by decide, b11⟩, fun _ => rfl, fun _ => rfl⟩
  obtain ⟨m9, κ3, c1, c2, c3, c4, c5⟩ := tok_step (p := 0) hxM hmK M3 b3 M7 b4 (by omega)
  have n2 : m9 23 2 = nI 0 := by rw [c3.2 2 (by decide)]; exact M2
  have r1 : fX1_readTape μ = fX1_readTape_L48 FU 0 m9 := by
    unfold fX1_readTape fX4_clear
    rw [lb_e, lb_e, lb_e, lb_e, bv_e, lb_e, lb_e, lb_e, lb_e, lb_e, lb_e, lb_e, ← hM, c1, bv_e, lb_e]
  have r2 : fX8_text κ = fX8_text_L10 FU 0 κ3 := by
    unfold fX8_text
    rw [lb_e, b1, bv_e, c2, bv_e]
  rw [r1, r2]
  have xm : xF μ m9 := fun b hb => by rw [c3.1 b (by omega), Mf b hb]
  have lm : lM κ κ3 := b2.t c4.l
  rcases c5 with ⟨tk, pl, nx, v, d1, d2⟩ | hF
  · obtain ⟨i, ν, ξ, q1, q2, q3, q4, q5⟩ := text_L (t := t) (c := c) (t + 1) 0 0 FU FU m9 κ3 (by omega) (by omega) (by omega) (by omega) (tpX_f hxM c3) (tpM_f hmK c4) (by rw [lm.1 12 (by decide) (by decide)]; exact h12) (by rw [lm.1 13 (by decide) (by decide)]; exact h13) n2 ⟨_, _, _, _, _, _, _, _, _, H.f c3 c4⟩ ⟨tk, pl, nx, v, d1, d2⟩
    have q1 : fX1_readTape_L48 FU 0 m9 = _ := q1
    have q2 : fX8_text_L10 FU 0 κ3 = _ := q2
    exact ⟨i, ν, ξ, q1, q2, fun b hb => by rw [q3 b hb, xm b hb], lm.t q4, q5⟩
  · have hn := hF.n
    refine ⟨0, m9, κ3, ?_, ?_, xm, lm, n2, Or.inr ⟨hF, fsS_c H.s c3⟩⟩
    · rw [hf, fX1_readTape_L48, if_neg hn.1, ite_self]
    · rw [hf, fX8_text_L10, if_neg hn.2.1]
      rfl
theorem st_text : ST_text Inv := by
  intro μ κ h
  obtain ⟨t, ht, e1, e2, e3⟩ := h.tap
  obtain ⟨c, hc⟩ : ∃ c : Nat → Nat, ∀ i, i < t → c i < 128 ∧ μ 2 i = nI (c i) ∧ κ 11 i = nI (c i) := ⟨fun i => (μ 2 i).toNatClampNeg, fun i hi => by
    obtain ⟨q, q1, q2, q3⟩ := e3 i hi
    show (μ 2 i).toNatClampNeg < 128 ∧ μ 2 i = nI (μ 2 i).toNatClampNeg ∧ κ 11 i = nI (μ 2 i).toNatClampNeg
    rw [q2, cl_n (by omega)]
    exact ⟨q1, rfl, q3⟩⟩
  obtain ⟨i, ν, ξ, a1, a2, a3, a4, a5, a6⟩ := tx_0 (μ := μ) (κ := κ) (t := t) (c := c) ⟨ht, e1, fun i hi => ⟨(hc i hi).1, (hc i hi).2.1⟩⟩ ⟨ht, e2, fun i hi => ⟨(hc i hi).1, (hc i hi).2.2⟩⟩ h.cut h.ltr
  have ht : fX7_text μ = bv (fX1_readTape_J89 ν) fun m1 => txT m1 := by
    unfold fX7_text
    rw [a1]
    rfl
  rw [ht, a2]
  unfold fX1_readTape_J89
  rcases a6 with ⟨hD, x3, m20, m23⟩ | ⟨hF, hs⟩
  · obtain ⟨hh0, m, hh, L, T, k0, k1, A, B, H⟩ := hD
    rw [if_pos x3]
    by_cases hc : hh ≤ hh0 ∧ hiB (abm (rw_ A) k0 ||| abm (rw_ B) k1) ≤ m
    · rw [(x_miss H).1 hc, bv_e, (m_miss H m20 (nI i)).1 hc]
      exact tx_S h a3 a4 H x3 m20 a5 hc.1 hc.2
    · rw [(x_miss H).2 hc, x_fail x3, bv_e, (m_miss H m20 (nI i)).2 hc]
      have hF : FLT (wr (wr ν 23 3 6) 23 4 (ν 1 1)) (wr (wr ξ 0 20 6) 0 21 (ξ 0 23)) := flt_mk 6 (by decide) (by decide) (by rw [a3 1 (by decide), e1, m23])
      exact tx_F (nI i) h (fun b hb => by rw [wr_f _ _ _ _ (by omega), wr_f _ _ _ _ (by omega), a3 b hb]) (a4.t (rF.fl _ _ _).l) hF (fsS_fl H.s _ _)
  · have hn := hF.n
    have m34 : fX8_text_J34 (nI i) ξ = fX8_text_J69 (nI i) ξ := by
      unfold fX8_text_J34
      rw [if_neg hn.2.1]
    rw [if_neg hn.1, m34]
    exact tx_F (nI i) h a3 a4 hF hs
