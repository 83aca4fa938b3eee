/-! ===== the text that is taken ===== -/
theorem irm6 {a : Nat} (ha : a < 1000) : irm (nI a) (6 : Int32) = nI (a % 6) := by
  unfold irm; rw [show (6 : Int32) = nI 6 from rfl, pk_rem (by omega) (by omega) (by omega)]
theorem irm5' {a : Nat} (ha : a < 1000) : irm (nI a) (5 : Int32) = nI (a % 5) := irm5 (by omega)
theorem m_cp113 (x1 : Int32) : ∀ (r k fu : Nat) (κ : Mem), k + r = 32 → r < fu → (∀ j, j < k → κ 1 j = κ 5 j) → (∀ j, j < 6 → j < k → κ 2 j = κ 6 j ∧ κ 3 j = κ 7 j) → (∀ j, j < 5 → j < k → κ 4 j = κ 8 j) → ∃ ξ, fX8_text_L113 fu x1 (nI k) κ = some (x1, ξ) ∧ (∀ b, b ≠ 0 → b ≠ 1 → b ≠ 2 → b ≠ 3 → b ≠ 4 → b ≠ 16 → ξ b = κ b) ∧ (∀ j, j < 32 → ξ 1 j = κ 5 j) ∧ (∀ j, j < 6 → ξ 2 j = κ 6 j ∧ ξ 3 j = κ 7 j) ∧ (∀ j, j < 5 → ξ 4 j = κ 8 j) ∧ ξ 0 3 = κ 0 10 ∧ ξ 0 5 = κ 0 11 ∧ ξ 0 39 = 0 ∧ (∀ j, j ≠ 3 → j ≠ 5 → j ≠ 39 → ξ 0 j = κ 0 j) ∧ ξ 16 0 = 0 ∧ ξ 16 1 = 0
  | 0, k, fu + 1, κ, h1, _, c1, c2, c3 => by
    have e : k = 32 := by omega
    subst e
    obtain ⟨ξ, hξ⟩ : ∃ ξ, ξ = wr (wr (wr (wr (wr κ 0 3 (κ 0 10)) 0 5 (κ 0 11)) 0 39 0) 16 0 0) 16 1 0 := ⟨_, rfl⟩
    have b1 : ∀ b, b ≠ 0 → b ≠ 16 → ξ b = κ b := fun b h1 h2 => by rw [hξ, wr_f _ _ _ _ h2, wr_f _ _ _ _ h2, wr_f _ _ _ _ h1, wr_f _ _ _ _ h1, wr_f _ _ _ _ h1]
    refine ⟨ξ, ?_, fun b h0 _ _ _ _ h16 => b1 b h0 h16, fun j hj => by rw [b1 1 (by decide) (by decide)]; exact c1 j hj, fun j hj => by rw [b1 2 (by decide) (by decide), b1 3 (by decide) (by decide)]; exact c2 j hj (by omega), fun j hj => by rw [b1 4 (by decide) (by decide)]; exact c3 j hj (by omega), ?_, ?_, ?_, fun j h1 h2 h3 => ?_, ?_, ?_⟩
    · rw [fX8_text_L113, if_pos (by decide), lb_e, lb_e, lb_e, nar0, hξ]
      rw [wr_o (show ¬ (0 = 0 ∧ 11 = 3) by decide)]
      rfl
    · rw [hξ]; simp only [wr_i, Nat.reduceEqDiff, false_and, and_false, and_self, and_true, true_and, if_false, if_true, reduceIte, ne_eq, not_true_eq_false, not_false_eq_true]
    · rw [hξ]; simp only [wr_i, Nat.reduceEqDiff, false_and, and_false, and_self, and_true, true_and, if_false, if_true, reduceIte, ne_eq, not_true_eq_false, not_false_eq_true]
    · rw [hξ]; simp only [wr_i, Nat.reduceEqDiff, false_and, and_false, and_self, and_true, true_and, if_false, if_true, reduceIte, ne_eq, not_true_eq_false, not_false_eq_true]
    · rw [hξ, wr_f _ _ _ _ (by decide), wr_f _ _ _ _ (by decide), wr_o (fun q => h3 q.2), wr_o (fun q => h2 q.2), wr_o (fun q => h1 q.2)]
    · rw [hξ]; simp only [wr_i, Nat.reduceEqDiff, false_and, and_false, and_self, and_true, true_and, if_false, if_true, reduceIte, ne_eq, not_true_eq_false, not_false_eq_true]
    · rw [hξ]; simp only [wr_i, Nat.reduceEqDiff, false_and, and_false, and_self, and_true, true_and, if_false, if_true, reduceIte, ne_eq, not_true_eq_false, not_false_eq_true]
  | r + 1, k, fu + 1, κ, h1, h2, c1, c2, c3 => by
    have z6 : ¬ (6 : Int32) = (0 : Int32) := by decide
    have z5 : ¬ (5 : Int32) = (0 : Int32) := by decide
    have m6 := Nat.mod_lt k (show 6 > 0 by decide)
    have m5 := Nat.mod_lt k (show 5 > 0 by decide)
    obtain ⟨K, hK⟩ : ∃ K, K = wr (wr (wr (wr κ 1 k (κ 5 k)) 2 (k % 6) (κ 6 (k % 6))) 3 (k % 6) (κ 7 (k % 6))) 4 (k % 5) (κ 8 (k % 5)) := ⟨_, rfl⟩
    have Kb : ∀ b, b ≠ 1 → b ≠ 2 → b ≠ 3 → b ≠ 4 → K b = κ b := fun b b1 b2 b3 b4 => by rw [hK, wr_f _ _ _ _ b4, wr_f _ _ _ _ b3, wr_f _ _ _ _ b2, wr_f _ _ _ _ b1]
    have K1 : ∀ j, K 1 j = if j = k then κ 5 k else κ 1 j := fun j => by
      rw [hK, wr_f _ _ _ _ (by decide), wr_f _ _ _ _ (by decide), wr_f _ _ _ _ (by decide), wr_i]
      simp only [true_and]
    have K2 : ∀ j, K 2 j = if j = k % 6 then κ 6 (k % 6) else κ 2 j := fun j => by
      rw [hK, wr_f _ _ _ _ (by decide), wr_f _ _ _ _ (by decide), wr_i, wr_f _ _ _ _ (by decide)]
      simp only [true_and]
    have K3 : ∀ j, K 3 j = if j = k % 6 then κ 7 (k % 6) else κ 3 j := fun j => by
      rw [hK, wr_f _ _ _ _ (by decide), wr_i, wr_f _ _ _ _ (by decide), wr_f _ _ _ _ (by decide)]
      simp only [true_and]
    have K4 : ∀ j, K 4 j = if j = k % 5 then κ 8 (k % 5) else κ 4 j := fun j => by
      rw [hK, wr_i, wr_f _ _ _ _ (by decide), wr_f _ _ _ _ (by decide), wr_f _ _ _ _ (by decide)]
      simp only [true_and]
    obtain ⟨ξ, q0, q1, q2, q3, q4, q5, q6, q7, q8, q9⟩ := m_cp113 x1 r (k + 1) fu K (by omega) (by omega) (fun j hj => by
        rw [K1, Kb 5 (by decide) (by decide) (by decide) (by decide)]
        by_cases e : j = k
        · rw [if_pos e, e]
        · rw [if_neg e]; exact c1 j (by omega)) (fun j hj hk => by
        rw [K2, K3, Kb 6 (by decide) (by decide) (by decide) (by decide), Kb 7 (by decide) (by decide) (by decide) (by decide)]
        by_cases e : j = k % 6
        · rw [if_pos e, if_pos e, e]; exact ⟨rfl, rfl⟩
        · rw [if_neg e, if_neg e]
          refine c2 j hj ?_
          by_cases e2 : j = k
          · rw [← e2, Nat.mod_eq_of_lt hj] at e; exact absurd rfl e
          · omega) (fun j hj hk => by
        rw [K4, Kb 8 (by decide) (by decide) (by decide) (by decide)]
        by_cases e : j = k % 5
        · rw [if_pos e, e]
        · rw [if_neg e]
          refine c3 j hj ?_
          by_cases e2 : j = k
          · rw [← e2, Nat.mod_eq_of_lt hj] at e; exact absurd rfl e
          · omega)
    have e0 := Kb 0 (by decide) (by decide) (by decide) (by decide)
    refine ⟨ξ, ?_, fun b h0 h1 h2 h3 h4 h16 => by rw [q1 b h0 h1 h2 h3 h4 h16, Kb b h1 h2 h3 h4], fun j hj => by rw [q2 j hj, Kb 5 (by decide) (by decide) (by decide) (by decide)], fun j hj => by rw [(q3 j hj).1, (q3 j hj).2, Kb 6 (by decide) (by decide) (by decide) (by decide), Kb 7 (by decide) (by decide) (by decide) (by decide)]; exact ⟨rfl, rfl⟩, fun j hj => by rw [q4 j hj, Kb 8 (by decide) (by decide) (by decide) (by decide)], by rw [q5, e0], by rw [q6, e0], q7, fun j h1 h2 h3 => by rw [q8 j h1 h2 h3, e0], q9⟩
    rw [fX8_text_L113, if_neg (by rw [show (32 : Int32) = nI 32 from rfl, le_nI (by omega) (by omega)]; omega), gr_n (by omega) (by decide), gr_n (by omega) (by decide), cl_n (by omega), lb_e, gd_t z6, gd_t z6, irm6 (by omega), gr_n (by omega) (by decide), gr_n (by omega) (by decide), cl_n (by omega), wr_f _ _ _ _ (show 6 ≠ 1 by decide), lb_e, gd_t z6, gd_t z6, gr_n (by omega) (by decide), gr_n (by omega) (by decide), wr_f _ _ _ _ (show 7 ≠ 2 by decide), wr_f _ _ _ _ (show 7 ≠ 1 by decide), lb_e, gd_t z5, gd_t z5, irm5' (by omega), gr_n (by omega) (by decide), gr_n (by omega) (by decide), cl_n (by omega), wr_f _ _ _ _ (show 8 ≠ 3 by decide), wr_f _ _ _ _ (show 8 ≠ 2 by decide), wr_f _ _ _ _ (show 8 ≠ 1 by decide), lb_e, lb_e, nI_s1, ← hK]
    exact q0
theorem x_L68 {μ : Mem} {i : Nat} (h2 : μ 23 2 = nI i) : ∃ ν, fX7_text_L68 FU 0 μ = some (nI i, ν) ∧ (∀ b, b ≠ 35 → ν b = μ b) ∧ ν 35 0 = 0 ∧ ν 35 1 = 0 := by
  obtain ⟨f, hf⟩ := FU_s 100 (by decide)
  have e0 : (0 : Int32) = nI 0 := rfl
  refine ⟨wr (wr μ 35 0 0) 35 1 0, ?_, fun b hb => by rw [wr_f _ _ _ _ hb, wr_f _ _ _ _ hb], by simp only [wr_i, Nat.reduceEqDiff, false_and, and_false, and_self, and_true, true_and, if_false, if_true, reduceIte, ne_eq, not_true_eq_false, not_false_eq_true], by simp only [wr_i, Nat.reduceEqDiff, false_and, and_false, and_self, and_true, true_and, if_false, if_true, reduceIte, ne_eq, not_true_eq_false, not_false_eq_true]⟩
  rw [show FU = (f + 98) + 1 + 1 + 1 by omega, fX7_text_L68, if_neg (by decide), nar0, show gr (0 : Int32) 2 = fun (x : Option (Int32 × Mem)) => x from by funext x; exact gr_n (k := 0) (by decide) (by decide)]
  rw [lb_e, lb_e, show (0 : Int32) + 1 = 1 from rfl, fX7_text_L68, if_neg (by decide), nar0, show gr (1 : Int32) 2 = fun (x : Option (Int32 × Mem)) => x from by funext x; exact gr_n (k := 1) (by decide) (by decide)]
  rw [lb_e, lb_e, show (1 : Int32) + 1 = 2 from rfl, fX7_text_L68, if_pos (by decide)]
  rw [wr_f _ _ _ _ (show 23 ≠ 35 by decide), wr_f _ _ _ _ (show 23 ≠ 35 by decide), h2]
  rfl
/-- what was told is the shop -/
theorem PG_tx {μ κ ν ξ : Mem} {h m hh L T k0 k1 : Nat} {A B P R : List Nat} (H : DTp μ κ h m hh L T k0 k1 A B) (hhh : hh ≤ h) (hP : P ∈ perms m) (hR : R ∈ perms m) (x3 : ∀ j, 4 ≤ j → j ≤ 7 → ν 3 j = μ 18 j) (x4 : ∀ i, i < 12 → ν 4 i = μ 19 i) (x5 : ∀ i, i < 25 → ν 5 i = μ 20 i) (x6 : rowX ν 6 m P) (x7 : rowX ν 7 m R) (k3 : ξ 0 3 = κ 0 10) (k5 : ξ 0 5 = κ 0 11) (k1' : ∀ j, j < 20 ∨ j = 30 ∨ j = 31 → ξ 1 j = κ 5 j) (k2 : ∀ j, j < 6 → ξ 2 j = κ 6 j ∧ ξ 3 j = κ 7 j) (k4 : ∀ j, j < 5 → ξ 4 j = κ 8 j) (r0 : rowM ξ 20 m P) (r1 : rowM ξ 25 m R) : PG ν ξ 3 0 := by
  obtain ⟨h6, xh, mh, Hh⟩ := H.hs
  obtain ⟨hm, hh6, xo, mo, -, -, Ho⟩ := H.od
  obtain ⟨⟨pk, hpk, xpk, mpk⟩, ⟨sk, hsk, xsk, msk⟩⟩ := H.ps
  refine ⟨m, h, fun w o => if w = 5 then μ 19 (2 * o) else if w = 6 then μ 19 (2 * o + 1) else μ 20 (5 * o + w), fun o => (μ 20 (5 * o + 1)).toNatClampNeg, P, R, nI pk, nI sk, ⟨hm, h6, fun o ho => ?_, fun o ho => ?_, fun o ho => ?_, fun o ho => ?_, fun o ho => ?_, fun j hj => ?_, fun j hj => ?_⟩, hP, hR, ⟨pk, hpk, rfl⟩, ⟨sk, hsk, rfl⟩, ⟨by rw [x3 5 (by decide) (by decide)]; exact xo, hm, fun o w ho hw => ?_⟩, ⟨by rw [x3 4 (by decide) (by decide)]; exact xh, h6, fun j hj => ?_⟩, x6, x7, by rw [x3 6 (by decide) (by decide)]; exact xpk, by rw [x3 7 (by decide) (by decide)]; exact xsk, by rw [k5]; exact mo, ⟨by rw [k3]; exact mh, h6, fun j hj => ?_⟩, fun o ho => ?_, fun o ho => ?_, r0, r1, ?_, ?_⟩
  · obtain ⟨k, d, w, p, u, f1, f2, f3, f4, f5, f6, f7, f8, f9, f10⟩ := Ho o ho
    show μ 20 (5 * o + 1) = nI (μ 20 (5 * o + 1)).toNatClampNeg ∧ (μ 20 (5 * o + 1)).toNatClampNeg ≤ h
    rw [f9, cl_n (by omega)]
    exact ⟨rfl, by omega⟩
  · obtain ⟨k, d, w, p, u, f1, f2, f3, f4, f5, f6, f7, f8, f9, f10⟩ := Ho o ho
    exact ⟨k, f1, f8⟩
  · obtain ⟨k, d, w, p, u, f1, f2, f3, f4, f5, f6, f7, f8, f9, f10, f11, f12, -⟩ := Ho o ho
    exact ⟨w, f4, f5, f10⟩
  · obtain ⟨k, d, w, p, u, f1, f2, f3, f4, f5, f6, f7, f8, f9, f10, f11, f12, -⟩ := Ho o ho
    exact ⟨p, f6, f11⟩
  · obtain ⟨k, d, w, p, u, f1, f2, f3, f4, f5, f6, f7, f8, f9, f10, f11, f12, -⟩ := Ho o ho
    exact ⟨u, f7, f12⟩
  · obtain ⟨x, y, g1, g2, g3, g4, -⟩ := Hh j hj
    exact ⟨x, g1, g2, g4⟩
  · obtain ⟨x, y, g1, g2, g3, g4, g5, g6, -⟩ := Hh j hj
    exact ⟨y, g3, g6⟩
  · show ν 5 (5 * o + w) = if w = 5 then μ 19 (2 * o) else if w = 6 then μ 19 (2 * o + 1) else μ 20 (5 * o + w)
    rw [x5 _ (by omega), if_neg (by omega), if_neg (by omega)]
  · show ν 4 (2 * j) = μ 19 (2 * j) ∧ ν 4 (2 * j + 1) = μ 19 (2 * j + 1)
    exact ⟨x4 _ (by omega), x4 _ (by omega)⟩
  · obtain ⟨x, y, g1, g2, g3, g4, g5, g6, g7⟩ := Hh j hj
    show ξ 2 j = μ 19 (2 * j) ∧ ξ 3 j = μ 19 (2 * j + 1)
    rw [(k2 j (by omega)).1, (k2 j (by omega)).2, g4, g5, g6, g7]
    exact ⟨rfl, rfl⟩
  · obtain ⟨k, d, w, p, u, f1, f2, f3, f4, f5, f6, f7, f8, f9, f10, f11, f12, f13, f14, -⟩ := Ho o ho
    show ξ 4 o = μ 20 (5 * o + 1)
    rw [k4 o (by omega), f14, f9]
  · obtain ⟨k, d, w, p, u, f1, f2, f3, f4, f5, f6, f7, f8, f9, f10, f11, f12, f13, f14, f15, f16, f17⟩ := Ho o ho
    show ξ 1 o = μ 20 (5 * o) ∧ ξ 1 (5 + o) = μ 20 (5 * o + 2) ∧ ξ 1 (10 + o) = μ 20 (5 * o + 3) ∧ ξ 1 (15 + o) = μ 20 (5 * o + 4)
    rw [k1' o (by omega), k1' (5 + o) (by omega), k1' (10 + o) (by omega), k1' (15 + o) (by omega), f8, f10, f11, f12, f13, f15, f16, f17]
    exact ⟨rfl, rfl, rfl, rfl⟩
  · show ξ 1 30 + 10 = nI pk
    rw [k1' 30 (by omega)]; exact mpk
  · show ξ 1 31 = nI sk
    rw [k1' 31 (by omega)]; exact msk
