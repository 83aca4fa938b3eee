/-! the choice -/
theorem x_beat (v m : Int32) (μ : Mem) : fX0_isBeatenBy v m μ = some (if μ 30 0 = 0 ∨ μ 30 1 < v ∨ (v = μ 30 1 ∧ ¬ μ 30 2 ≤ m) then 1 else 0, μ) := by
  unfold fX0_isBeatenBy fX0_isBeatenBy_J31 fX0_isBeatenBy_J35 fX0_isBeatenBy_J36
  by_cases h1 : μ 30 0 = 0
  · rw [if_pos h1, if_pos (Or.inl h1), gd_t (Or.inr rfl)]
  · rw [if_neg h1]
    by_cases h2 : μ 30 1 < v
    · rw [if_pos h2, if_pos (Or.inr (Or.inl h2)), gd_t (Or.inr rfl)]
    · rw [if_neg h2]
      by_cases h3 : v = μ 30 1
      · rw [if_pos h3]
        by_cases h4 : μ 30 2 ≤ m
        · rw [if_pos h4, if_neg (by rintro (h | h | h); exact h1 h; exact h2 h; exact h.2 h4), gd_t (Or.inl rfl)]
        · rw [if_neg h4, if_pos (Or.inr (Or.inr ⟨h3, h4⟩)), gd_t (Or.inr rfl)]
      · rw [if_neg h3, if_neg (by rintro (h | h | h); exact h1 h; exact h2 h; exact h3 h.1), gd_t (Or.inl rfl)]
theorem x_becm (a b c d : Int32) (μ : Mem) : ∃ ν, fX0_become a b c d μ = some ν ∧ (∀ q, q ≠ 30 → ν q = μ q) ∧ ν 30 0 = 1 ∧ ν 30 1 = a ∧ ν 30 2 = b ∧ ν 30 3 = c ∧ ν 30 4 = d := by
  unfold fX0_become
  rw [gd_t (Or.inr rfl), lb_e, lb_e, lb_e, lb_e, lb_e]
  refine ⟨_, rfl, ?_, ?_, ?_, ?_, ?_, ?_⟩
  · intro q hq; rw [wr_f _ _ _ _ hq, wr_f _ _ _ _ hq, wr_f _ _ _ _ hq, wr_f _ _ _ _ hq, wr_f _ _ _ _ hq]
  all_goals simp only [wr_i, Nat.reduceEqDiff, false_and, and_false, and_self, and_true, true_and, if_false, if_true, reduceIte, ne_eq, not_true_eq_false, not_false_eq_true]
theorem x_clr (μ : Mem) : ∃ ν, fX0_clear μ = some ν ∧ (∀ q, q ≠ 30 → ν q = μ q) ∧ ν 30 0 = 0 := by
  unfold fX0_clear
  rw [gd_t (Or.inl rfl), lb_e]
  exact ⟨_, rfl, fun q hq => wr_f _ _ _ _ hq, wr_s _ _ _ _⟩
/-! split -/
theorem st_spL {n H : Nat} {D : Nat → Nat → Int32} {hs : Nat → Nat} {ps st : Int32} {P R : List Nat} (x1 : Int32) (ok : DOK n H D hs) (hf : fixO n H D hs P R) : ∀ (r i f1 f2 : Nat) (μ κ : Mem) (x2 x3 x4 : Int32), i + r = 2 ^ n → r < f1 → r < f2 → shpX μ n H D hs P R ps st → wlkM κ n H D P R ps → κ 1 31 = st → ((i = 0 ∧ μ 30 0 = 0 ∧ x2 = -1) ∨ (0 < i ∧ μ 30 0 = 1 ∧ μ 30 1 = x2 ∧ μ 30 2 = x3 ∧ μ 30 4 = x4)) → ∃ rr ν ξ, fX7_split_L25 f1 x1 (nI (2 ^ n - 1)) (nI i) μ = some (rr, ν) ∧ fX8_split_L26 f2 x1 x2 x3 x4 (nI i) κ = some (rr, ξ) ∧ (∀ b, b < 24 ∨ 30 < b → ν b = μ b) ∧ (∀ b, b ≠ 0 → b ≠ 14 → ξ b = κ b) ∧ (∀ j, j ≠ 29 → j ≠ 30 → j ≠ 31 → j ≠ 32 → j ≠ 33 → ξ 0 j = κ 0 j)
  | 0, i, f1 + 1, f2 + 1, μ, κ, x2, x3, x4, h1, _, _, hx, hw, hst, hv => by
    have hn := ok.n5
    have hp := pow5 n (by omega)
    have h0 := Nat.two_pow_pos n
    have e : i = 2 ^ n := by omega
    have hlt : nI (2 ^ n - 1) < nI i := by rw [lt_nI (by omega) (by omega)]; omega
    rw [fX7_split_L25, if_pos hlt, fX8_split_L26, m_every hw.1.1 hn, bi_e, if_pos hlt]
    unfold fX8_split_J141
    rcases hv with ⟨h, -⟩ | ⟨-, -, rfl, rfl, rfl⟩
    · omega
    by_cases e0 : x1 = 0
    · rw [if_pos e0, if_pos e0]; exact ⟨_, _, _, rfl, rfl, fun b _ => rfl, fun b _ _ => rfl, fun j _ _ _ _ _ => rfl⟩
    · rw [if_neg e0, if_neg e0]
      by_cases e1 : x1 = 1
      · rw [if_pos e1, if_pos e1]; exact ⟨_, _, _, rfl, rfl, fun b _ => rfl, fun b _ _ => rfl, fun j _ _ _ _ _ => rfl⟩
      · rw [if_neg e1, if_neg e1]; exact ⟨_, _, _, rfl, rfl, fun b _ => rfl, fun b _ _ => rfl, fun j _ _ _ _ _ => rfl⟩
  | r + 1, i, f1 + 1, f2 + 1, μ, κ, x2, x3, x4, h1, h2, h3, hx, hw, hst, hv => by
    have hn := ok.n5
    have hp := pow5 n (by omega)
    have h0 := Nat.two_pow_pos n
    have hi : i < 2 ^ n := by omega
    have hlt : ¬ nI (2 ^ n - 1) < nI i := by rw [lt_nI (by omega) (by omega)]; omega
    obtain ⟨ν, a1, a2, a3⟩ := x_twice hf hx hi
    obtain ⟨ξ, b1, b2, b3, b4⟩ := m_twice (κ := κ) hf hw hst hi
    have hx2 : shpX ν n H D hs P R ps st := shpX_f hx (fun b hb => a2 b (Or.inl hb))
    have hw2 : wlkM ξ n H D P R ps := wlkM_f hw b2 (b3 3 (by decide) (by decide) (by decide) (by decide) (by decide)) (b3 5 (by decide) (by decide) (by decide) (by decide) (by decide))
    have hst2 : ξ 1 31 = st := by rw [b2 1 (by decide) (by decide)]; exact hst
    obtain ⟨p1, hp1, hp2⟩ := tP_nb (s := i) ok ps st P R
    obtain ⟨p2, hp3, hp4⟩ := tP_nb (s := mcl (2 ^ n - 1) i) ok ps (tH D hs n ps st P R i) P R
    obtain ⟨V, hV⟩ : ∃ V, V = tP D hs n ps st P R i + tP D hs n ps (tH D hs n ps st P R i) P R (mcl (2 ^ n - 1) i) := ⟨_, rfl⟩
    obtain ⟨T, hT⟩ : ∃ T, T = tH D hs n ps (tH D hs n ps st P R i) P R (mcl (2 ^ n - 1) i) := ⟨_, rfl⟩
    rw [← hV] at a1 b4
    rw [← hT] at a3 b1
    have hVp : (-1 : Int32) < V := by rw [hV, hp2, hp4, nI_add]; exact (nI_nle_neg (by omega)).2.2
    have e30 : ν 30 = μ 30 := a2 30 (by omega)
    have fin : ∀ (m : Mem) y2 y3 y4, (∀ b, b ≠ 30 → m b = ν b) → (m 30 0 = 1 ∧ m 30 1 = y2 ∧ m 30 2 = y3 ∧ m 30 4 = y4) → ∃ rr ν' ξ', fX7_split_L25 f1 x1 (nI (2 ^ n - 1)) (nI (i + 1)) m = some (rr, ν') ∧ fX8_split_L26 f2 x1 y2 y3 y4 (nI (i + 1)) ξ = some (rr, ξ') ∧ (∀ b, b < 24 ∨ 30 < b → ν' b = μ b) ∧ (∀ b, b ≠ 0 → b ≠ 14 → ξ' b = κ b) ∧ (∀ j, j ≠ 29 → j ≠ 30 → j ≠ 31 → j ≠ 32 → j ≠ 33 → ξ' 0 j = κ 0 j) := by
      intro m y2 y3 y4 hm hy
      obtain ⟨rr, ν', ξ', q1, q2, q3, q4, q5⟩ := st_spL x1 ok hf r (i + 1) f1 f2 m ξ y2 y3 y4 (by omega) (by omega) (by omega) (shpX_f hx2 (fun b hb => hm b (by omega))) hw2 hst2 (Or.inr ⟨by omega, hy⟩)
      exact ⟨rr, ν', ξ', q1, q2, fun b hb => by rw [q3 b hb, hm b (by omega), a2 b (by omega)], fun b b0 b1 => by rw [q4 b b0 b1, b2 b b0 b1], fun j j1 j2 j3 j4 j5 => by rw [q5 j j1 j2 j3 j4 j5, b3 j j1 j2 j3 j4 j5]⟩
    rw [fX7_split_L25, if_neg hlt, a1, bi_e, x_beat, bi_e, if_10, a3, e30]
    rw [fX8_split_L26, m_every hw.1.1 hn, bi_e, if_neg hlt, b1, bi_e, m_every hw2.1.1 hn, bi_e, b4, bi_e]
    unfold fX7_split_J74 fX8_split_J71 fX8_split_J75 fX8_split_J76 fX8_split_J90 fX8_split_J103 fX8_split_J115
    simp only [lb_e, nI_s1, if_pos, if_neg one_ne]
    obtain ⟨m, c1, c2, c3, c4, c5, c6, c7⟩ := x_becm V T 0 (nI i) ν
    rw [c1, bv_e]
    rcases hv with ⟨-, g1, rfl⟩ | ⟨-, g1, rfl, rfl, rfl⟩
    · rw [if_pos (Or.inl g1), if_pos hVp]
      exact fin m _ _ _ c2 ⟨c3, c4, c5, c7⟩
    · by_cases e1 : μ 30 1 < V
      · rw [if_pos (Or.inr (Or.inl e1)), if_pos e1]
        exact fin m _ _ _ c2 ⟨c3, c4, c5, c7⟩
      · rw [if_neg e1]
        by_cases e2 : V = μ 30 1
        · by_cases e3 : μ 30 2 ≤ T
          · rw [if_neg (by rintro (h | h | h); exact one_ne (g1 ▸ h); exact e1 h; exact h.2 e3), if_pos e2, if_pos e3]
            exact fin ν _ _ _ (fun b _ => rfl) ⟨by rw [e30]; exact g1, by rw [e30], by rw [e30], by rw [e30]⟩
          · rw [if_pos (Or.inr (Or.inr ⟨e2, e3⟩)), if_pos e2, if_neg e3]
            exact fin m _ _ _ c2 ⟨c3, c4, c5, c7⟩
        · rw [if_neg (by rintro (h | h | h); exact one_ne (g1 ▸ h); exact e1 h; exact e2 h.1), if_neg e2]
          exact fin ν _ _ _ (fun b _ => rfl) ⟨by rw [e30]; exact g1, by rw [e30], by rw [e30], by rw [e30]⟩
theorem st_split : ST_split Inv := by
  intro μ κ h x
  obtain ⟨n, H, D, hs, P, R, ps, st, g⟩ := h.main
  have hn := g.ok.n5
  unfold fX7_split fX8_split
  rw [x_within, bi_e, if_10, m_i2, bi_e, if_10]
  by_cases hc : (0 : Int32) ≤ x ∧ x ≤ 2
  · rw [if_pos hc, if_pos hc]
    obtain ⟨f, hf⟩ := FU_s 100 (by decide)
    have hp := pow5 n (by omega)
    obtain ⟨ν, a1, a2, a3⟩ := x_clr μ
    have hx2 : shpX ν n H D hs P R ps st := shpX_f g.shp (fun b hb => a2 b (by omega))
    obtain ⟨rr, ν', ξ', q1, q2, q3, q4, q5⟩ := st_spL x g.ok g.fix (2 ^ n) 0 FU FU ν κ (-1) 1000000 0 (by omega) (by omega) (by omega) hx2 g.wlk g.sm (Or.inl ⟨rfl, a3, rfl⟩)
    have q1 : fX7_split_L25 FU x (nI (2 ^ n - 1)) 0 ν = some (rr, ν') := q1
    have q2 : fX8_split_L26 FU x (-1) 1000000 0 0 κ = some (rr, ξ') := q2
    rw [a1, bv_e, x_every hx2.1.1 hn, bi_e, lb_e, lb_e, lb_e, lb_e, lb_e, q1, q2]
    exact ⟨_, _, _, rfl, rfl, h.tr (fun b hb => by rw [q3 b hb, a2 b (by omega)]) q4 q5⟩
  · rw [if_neg hc, if_neg hc]; exact ⟨_, _, _, rfl, rfl, h⟩
