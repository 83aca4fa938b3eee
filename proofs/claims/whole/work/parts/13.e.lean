theorem sx8 (x : Int32) : (x <<< ((24 : Int32) &&& 31)) >>> ((24 : Int32) &&& 31) = x.toInt8.toInt32 := by
  apply Int32.toBitVec_inj.mp
  rw [Int32.toBitVec_shiftRight, Int32.toBitVec_shiftLeft, Int8.toBitVec_toInt32, Int32.toBitVec_toInt8]
  have e : (BitVec.smod ((24 : Int32) &&& 31).toBitVec 32) = 24#32 := by decide
  rw [e]
  apply BitVec.eq_of_getLsbD_eq
  intro i hi
  rw [BitVec.getLsbD_signExtend, BitVec.getLsbD_signExtend]
  show ((x.toBitVec <<< 24).sshiftRight 24).getLsbD i = _
  rw [BitVec.getLsbD_sshiftRight]
  simp only [BitVec.getLsbD_shiftLeft, BitVec.msb_eq_getLsbD_last, BitVec.getLsbD_signExtend]
  rcases Nat.lt_or_ge i 8 with z | z
  · simp [z, hi, show 24 + i < 32 by omega, show i < 32 by omega, show ¬ (32 ≤ i) by omega, show ¬ (24 + i < 24) by omega]
  · simp [z, hi, show ¬ (24 + i < 32) by omega, show ¬ (i < 8) by omega]
theorem sx16 (x : Int32) : (x <<< ((16 : Int32) &&& 31)) >>> ((16 : Int32) &&& 31) = x.toInt16.toInt32 := by
  apply Int32.toBitVec_inj.mp
  rw [Int32.toBitVec_shiftRight, Int32.toBitVec_shiftLeft, Int16.toBitVec_toInt32, Int32.toBitVec_toInt16]
  have e : (BitVec.smod ((16 : Int32) &&& 31).toBitVec 32) = 16#32 := by decide
  rw [e]
  apply BitVec.eq_of_getLsbD_eq
  intro i hi
  rw [BitVec.getLsbD_signExtend, BitVec.getLsbD_signExtend]
  show ((x.toBitVec <<< 16).sshiftRight 16).getLsbD i = _
  rw [BitVec.getLsbD_sshiftRight]
  simp only [BitVec.getLsbD_shiftLeft, BitVec.msb_eq_getLsbD_last, BitVec.getLsbD_signExtend]
  rcases Nat.lt_or_ge i 16 with z | z
  · simp [z, hi, show 16 + i < 32 by omega, show i < 32 by omega, show ¬ (32 ≤ i) by omega, show ¬ (16 + i < 16) by omega]
  · simp [z, hi, show ¬ (16 + i < 32) by omega, show ¬ (i < 16) by omega]
theorem x_fillL {a N : Nat} (hN : N < 1000) : ∀ (r i fu : Nat) (μ : Mem), i + r = N → r < fu → (∀ j, j < i → μ a j = 0) → ∃ ν, fJ7_fill_53178_L5 a N fu 0 (nI i) (nI N) μ = some ν ∧ (∀ b, b ≠ a → ν b = μ b) ∧ ∀ j, j < N → ν a j = 0
  | 0, i, fu + 1, μ, h1, _, h => by
    have e : i = N := by omega
    subst e
    refine ⟨μ, ?_, fun b _ => rfl, h⟩
    rw [fJ7_fill_53178_L5, if_pos (by rw [le_nI (by omega) (by omega)]; omega)]
  | r + 1, i, fu + 1, μ, h1, h2, h => by
    obtain ⟨ν, a1, a2, a3⟩ := x_fillL hN r (i + 1) fu (wr μ a i 0) (by omega) (by omega) (fun j hj => by
      rw [wr_i]
      by_cases e : j = i
      · rw [if_pos ⟨rfl, e⟩]
      · rw [if_neg (fun c => e c.2)]; exact h j (by omega))
    refine ⟨ν, ?_, fun b hb => by rw [a2 b hb, wr_f _ _ _ _ hb], a3⟩
    rw [fJ7_fill_53178_L5, if_neg (by rw [le_nI (by omega) (by omega)]; omega), gr_n (by omega) (by omega), lb_e, lb_e, nI_s1, cl_n (by omega)]
    exact a1
theorem x_fill {a N : Nat} (hN : N < 1000) (μ : Mem) : ∃ ν, fJ7_fill_53178 a N 0 μ = some ν ∧ (∀ b, b ≠ a → ν b = μ b) ∧ ∀ j, j < N → ν a j = 0 := by
  obtain ⟨q, hq⟩ := FU_s N (by omega)
  obtain ⟨ν, h⟩ := x_fillL (a := a) hN N 0 FU μ (by omega) (by omega) (fun j hj => absurd hj (by omega))
  unfold fJ7_fill_53178
  rw [lb_e, lb_e, show Int32.ofNat N = nI N from rfl, show (0 : Int32) = nI 0 from rfl]
  exact ⟨ν, h⟩
theorem x_renew {k : Nat} (hk : k < 4) (x2 x3 : Int32) (μ : Mem) : ∃ ν, fX3_renew (nI k) x2 x3 μ = some ν ∧ (∀ b, b < 38 → ν b = μ b) ∧ (∀ j, j < 4 → j ≠ k → ν (38 + j) = μ (38 + j) ∧ ν 42 j = μ 42 j ∧ ν 43 j = μ 43 j) ∧ (∀ i, i < 40 → ν (38 + k) i = 0) ∧ ν 42 k = x2 ∧ ν 43 k = x3 := by
  obtain ⟨ν, a1, a2, a3⟩ := x_fill (a := 38 + k) (N := 40) (by decide) μ
  refine ⟨wr (wr ν 42 k x2) 43 k x3, ?_, ?_, ?_, ?_, ?_, ?_⟩
  · unfold fX3_renew
    simp only [gr_n hk (show 4 < 2 ^ 31 by decide), cl_n (show k < 2 ^ 31 by omega)]
    rcases (show k = 0 ∨ k = 1 ∨ k = 2 ∨ k = 3 by omega) with rfl | rfl | rfl | rfl
    · rw [if_pos rfl, a1]; rfl
    · rw [if_neg (by decide), if_pos rfl, a1]; rfl
    · rw [if_neg (by decide), if_neg (by decide), if_pos rfl, a1]; rfl
    · rw [if_neg (by decide), if_neg (by decide), if_neg (by decide), if_pos rfl, a1]; rfl
  · intro b hb; rw [wr_f _ _ _ _ (by omega), wr_f _ _ _ _ (by omega), a2 b (by omega)]
  · intro j hj he
    refine ⟨by rw [wr_f _ _ _ _ (by omega), wr_f _ _ _ _ (by omega), a2 _ (by omega)], ?_, ?_⟩
    · rw [wr_o (by omega), wr_o (by omega), a2 42 (by omega)]
    · rw [wr_o (by omega), wr_o (by omega), a2 43 (by omega)]
  · intro i hi; rw [wr_f _ _ _ _ (by omega), wr_f _ _ _ _ (by omega)]; exact a3 i hi
  · simp only [wr_i, Nat.reduceEqDiff, false_and, and_false, and_self, and_true, true_and, if_false, if_true, reduceIte, ne_eq, not_true_eq_false, not_false_eq_true]
  · simp only [wr_i, Nat.reduceEqDiff, false_and, and_false, and_self, and_true, true_and, if_false, if_true, reduceIte, ne_eq, not_true_eq_false, not_false_eq_true]
theorem m_shL {k : Nat} (hk : k < 4) : ∀ (r i fu : Nat) (κ : Mem), i + r = 40 → r < fu → (∀ j, j < i → κ 19 (40 * k + j) = 0) → ∃ ξ, fX8_sheet_L56 fu (nI k) (nI i) κ = some (1, ξ) ∧ (∀ b, b ≠ 19 → ξ b = κ b) ∧ (∀ j, (j < 40 * k ∨ 40 * k + 40 ≤ j) → ξ 19 j = κ 19 j) ∧ ∀ j, j < 40 → ξ 19 (40 * k + j) = 0
  | 0, i, fu + 1, κ, h1, _, h => by
    have e : i = 40 := by omega
    subst e
    refine ⟨κ, ?_, fun b _ => rfl, fun j _ => rfl, h⟩
    rw [fX8_sheet_L56, if_pos (by decide)]
  | r + 1, i, fu + 1, κ, h1, h2, h => by
    obtain ⟨ξ, a1, a2, a3, a4⟩ := m_shL hk r (i + 1) fu (wr κ 19 (40 * k + i) 0) (by omega) (by omega) (fun j hj => by
      rw [wr_i]
      by_cases e : j = i
      · rw [if_pos ⟨rfl, by omega⟩]
      · rw [if_neg (fun c => e (by omega))]; exact h j (by omega))
    refine ⟨ξ, ?_, fun b hb => by rw [a2 b hb, wr_f _ _ _ _ hb], fun j hj => by rw [a3 j hj, wr_o (by omega)], a4⟩
    rw [fX8_sheet_L56, if_neg (by rw [show (40 : Int32) = nI 40 from rfl, le_nI (by omega) (by omega)]; omega), show (40 : Int32) = nI 40 from rfl, pk_mul, nI_add, gr_n (by omega) (by omega), lb_e, lb_e, nI_s1, cl_n (by omega)]
    exact a1
theorem st_sheet : ST_sheet Inv := by
  intro μ κ h x y z
  unfold fX7_sheet fX8_sheet fX7_sheet_J24 fX8_sheet_J30
  simp only [x_within, bi_e, if_10, m_i3, m_i2]
  by_cases hc : (0 : Int32) ≤ x ∧ x ≤ 3
  · simp only [if_pos hc]
    obtain ⟨k, hk, rfl⟩ := (wn (n := 3) (by decide)).1 hc
    by_cases hd : (0 : Int32) ≤ y ∧ y ≤ 2
    · simp only [if_pos hd]
      obtain ⟨l, hl, rfl⟩ := (wn (n := 2) (by decide)).1 hd
      by_cases he : z ≤ 40
      · simp only [if_pos he]
        by_cases hf : (0 : Int32) ≤ z
        · simp only [if_pos hf]
          obtain ⟨q, hq, rfl⟩ := (wn (n := 40) (by decide)).1 ⟨hf, he⟩
          obtain ⟨ν, a1, a2, a3, a4, a5, a6⟩ := x_renew (k := k) (by omega) (nI l) (nI q) μ
          obtain ⟨f, hf2⟩ := FU_s 40 (by decide)
          obtain ⟨ξ, b1, b2, b3, b4⟩ := m_shL (k := k) (by omega) 40 0 FU (wr (wr κ 17 k (nI l)) 18 k (nI q)) (by omega) (by omega) (fun j hj => absurd hj (by omega))
          have b1 : fX8_sheet_L56 FU (nI k) (0 : Int32) _ = _ := b1
          simp only [lb_e, gr_n (show k < 4 by omega) (show 4 < 2 ^ 31 by decide), cl_n (show k < 2 ^ 31 by omega)]
          rw [a1, bv_e, b1]
          refine ⟨_, _, _, rfl, rfl, h.sh a2 (fun b c1 c2 c3 => by rw [b2 b c3, wr_f _ _ _ _ c2, wr_f _ _ _ _ c1]) (fun j hj => ?_)⟩
          by_cases e : j = k
          · subst e
            refine Or.inr ⟨q, l, by omega, by omega, a6, ?_, a5, ?_, fun i hi => by rw [a4 i hi, b4 i hi]⟩
            · rw [b2 18 (by decide)]; simp only [wr_i, Nat.reduceEqDiff, false_and, and_false, and_self, and_true, true_and, if_false, if_true, reduceIte, ne_eq, not_true_eq_false, not_false_eq_true]
            · rw [b2 17 (by decide)]; simp only [wr_i, Nat.reduceEqDiff, false_and, and_false, and_self, and_true, true_and, if_false, if_true, reduceIte, ne_eq, not_true_eq_false, not_false_eq_true]
          · exact (h.sht j hj).f (a3 j hj e).2.2 (a3 j hj e).2.1 (a3 j hj e).1 (by rw [b2 17 (by decide), wr_o (by omega), wr_o (by omega)]) (by rw [b2 18 (by decide), wr_o (by omega), wr_o (by omega)]) (fun i hi => by rw [b3 _ (by omega), wr_f _ _ _ _ (by decide), wr_f _ _ _ _ (by decide)])
        · simp only [if_neg hf]; exact ⟨_, _, _, rfl, rfl, h⟩
      · simp only [if_neg he]; exact ⟨_, _, _, rfl, rfl, h⟩
    · simp only [if_neg hd]; exact ⟨_, _, _, rfl, rfl, h⟩
  · simp only [if_neg hc]; exact ⟨_, _, _, rfl, rfl, h⟩
