theorem wr_i (μ : Mem) (k j : Nat) (v : Int32) (a b : Nat) : wr μ k j v a b = if a = k ∧ b = j then v else μ a b := by
  unfold wr
  by_cases h : a = k
  · by_cases g : b = j
    · rw [if_pos h, if_pos g, if_pos ⟨h, g⟩]
    · rw [if_pos h, if_neg g, if_neg (fun c => g c.2)]
  · rw [if_neg h, if_neg (fun c => h c.1)]
theorem m_inl {x : Int32} {a b : Int64} {a' b' : Int32} (ha : a = a'.toInt64) (hb : b = b'.toInt64) (μ : Mem) : fX8_in x.toInt64 a b μ = some (if a' ≤ x ∧ x ≤ b' then 1 else 0, μ) := by rw [ha, hb]; exact m_inw x a' b' μ
theorem wn {x : Int32} {n : Nat} (hn : n + 1 < 2 ^ 31) : ((0 : Int32) ≤ x ∧ x ≤ nI n) ↔ ∃ o, o < n + 1 ∧ x = nI o := by
  constructor
  · intro h
    rcases cases_n x (n := n + 1) (by omega) with g | g | g
    · exact g
    · rw [i_lt] at g; have := h.1; rw [i_le] at this; exact absurd g (by omega)
    · have h1 := h.2
      rw [i_le] at g h1
      rw [nI_toInt (by omega)] at g
      rw [nI_toInt (by omega)] at h1
      omega
  · rintro ⟨o, ho, rfl⟩
    exact ⟨by rw [show (0 : Int32) = nI 0 from rfl, le_nI (by omega) (by omega)]; omega, by rw [le_nI (by omega) (by omega)]; omega⟩
theorem Inv.tp {μ κ ν ξ : Mem} (h : Inv μ κ) (hx : ∀ b, b ≠ 1 → b ≠ 2 → ν b = μ b) (hb : ∀ b, b ≠ 0 → b ≠ 11 → ξ b = κ b) (h0 : ∀ j, j ≠ 18 → ξ 0 j = κ 0 j) (ht : tapI ν ξ) : Inv ν ξ := by
  obtain ⟨n, H, D, hs, P, R, ps, st, g⟩ := h.main
  refine ⟨⟨n, H, D, hs, P, R, ps, st, g.f (fun b _ _ => hx b (by omega) (by omega)) (h0 _ (by decide)) (h0 _ (by decide)) (hb _ (by decide) (by decide)) (hb _ (by decide) (by decide)) (hb _ (by decide) (by decide)) (fun j _ => by rw [hb 1 (by decide) (by decide)])⟩, fun k hk => (h.img k hk).f hk (fun b hb => hx b (by omega) (by omega)) (h0 _ (by decide)) (h0 _ (by decide)) (hb _ (by decide) (by decide)) (hb _ (by decide) (by decide)) (hb _ (by decide) (by decide)) (hb _ (by decide) (by decide)) (fun j _ _ => by rw [hb 1 (by decide) (by decide)]), h.sen.f (hx _ (by decide) (by decide)) (hx _ (by decide) (by decide)) (hx _ (by decide) (by decide)) (h0 _ (by decide)) (h0 _ (by decide)) (hb _ (by decide) (by decide)), ht, fun k hk => (h.sht k hk).f (by rw [hx _ (by decide) (by decide)]) (by rw [hx _ (by decide) (by decide)]) (hx _ (by omega) (by omega)) (by rw [hb _ (by decide) (by decide)]) (by rw [hb _ (by decide) (by decide)]) (fun i _ => by rw [hb _ (by decide) (by decide)]), ?_, ?_, by rw [hb _ (by decide) (by decide)]; exact h.cut, by rw [hb _ (by decide) (by decide)]; exact h.ltr⟩
  · rw [hx 0 (by decide) (by decide), h0 _ (by decide)]; exact h.flt
  · rw [hx 0 (by decide) (by decide), h0 _ (by decide)]; exact h.trn
theorem Inv.se {μ κ ν ξ : Mem} (h : Inv μ κ) (hx : ∀ b, b ≠ 31 → b ≠ 32 → b ≠ 33 → ν b = μ b) (hb : ∀ b, b ≠ 0 → b ≠ 15 → ξ b = κ b) (h0 : ∀ j, j ≠ 39 → ξ 0 j = κ 0 j) (ht : senI ν ξ) : Inv ν ξ := by
  obtain ⟨n, H, D, hs, P, R, ps, st, g⟩ := h.main
  refine ⟨⟨n, H, D, hs, P, R, ps, st, g.f (fun b _ _ => hx b (by omega) (by omega) (by omega)) (h0 _ (by decide)) (h0 _ (by decide)) (hb _ (by decide) (by decide)) (hb _ (by decide) (by decide)) (hb _ (by decide) (by decide)) (fun j _ => by rw [hb 1 (by decide) (by decide)])⟩, fun k hk => (h.img k hk).f hk (fun b hb => hx b (by omega) (by omega) (by omega)) (h0 _ (by decide)) (h0 _ (by decide)) (hb _ (by decide) (by decide)) (hb _ (by decide) (by decide)) (hb _ (by decide) (by decide)) (hb _ (by decide) (by decide)) (fun j _ _ => by rw [hb 1 (by decide) (by decide)]), ht, h.tap.f (by rw [hx _ (by decide) (by decide) (by decide)]) (hx _ (by decide) (by decide) (by decide)) (h0 _ (by decide)) (hb _ (by decide) (by decide)), fun k hk => (h.sht k hk).f (by rw [hx _ (by decide) (by decide) (by decide)]) (by rw [hx _ (by decide) (by decide) (by decide)]) (hx _ (by omega) (by omega) (by omega)) (by rw [hb _ (by decide) (by decide)]) (by rw [hb _ (by decide) (by decide)]) (fun i _ => by rw [hb _ (by decide) (by decide)]), ?_, ?_, by rw [hb _ (by decide) (by decide)]; exact h.cut, by rw [hb _ (by decide) (by decide)]; exact h.ltr⟩
  · rw [hx 0 (by decide) (by decide) (by decide), h0 _ (by decide)]; exact h.flt
  · rw [hx 0 (by decide) (by decide) (by decide), h0 _ (by decide)]; exact h.trn
theorem Inv.sh {μ κ ν ξ : Mem} (h : Inv μ κ) (hx : ∀ b, b < 38 → ν b = μ b) (hb : ∀ b, b ≠ 17 → b ≠ 18 → b ≠ 19 → ξ b = κ b) (ht : ∀ k, k < 4 → shtI ν ξ k) : Inv ν ξ := by
  obtain ⟨n, H, D, hs, P, R, ps, st, g⟩ := h.main
  have hz : ∀ b, b < 17 → ξ b = κ b := fun b h => hb b (by omega) (by omega) (by omega)
  refine ⟨⟨n, H, D, hs, P, R, ps, st, g.f (fun b _ _ => hx b (by omega)) (by rw [hz _ (by decide)]) (by rw [hz _ (by decide)]) (hz _ (by decide)) (hz _ (by decide)) (hz _ (by decide)) (fun j _ => by rw [hz 1 (by decide)])⟩, fun k hk => (h.img k hk).f hk (fun b hb => hx b (by omega)) (by rw [hz _ (by decide)]) (by rw [hz _ (by decide)]) (hz _ (by decide)) (hz _ (by decide)) (hz _ (by decide)) (hz _ (by decide)) (fun j _ _ => by rw [hz 1 (by decide)]), h.sen.f (hx _ (by decide)) (hx _ (by decide)) (hx _ (by decide)) (by rw [hz _ (by decide)]) (by rw [hz _ (by decide)]) (hz _ (by decide)), h.tap.f (by rw [hx _ (by decide)]) (hx _ (by decide)) (by rw [hz _ (by decide)]) (hz _ (by decide)), ht, ?_, ?_, by rw [hz _ (by decide)]; exact h.cut, by rw [hz _ (by decide)]; exact h.ltr⟩
  · rw [hx 0 (by decide), hz 0 (by decide)]; exact h.flt
  · rw [hx 0 (by decide), hz 0 (by decide)]; exact h.trn
theorem by_c : ∀ c, c < 128 → (nI c).toInt8.toInt32.toInt8.toInt32 = nI c := by decide +kernel
theorem st_feed : ST_feed Inv := by
  intro μ κ h x
  obtain ⟨t, ht, a1, a2, a3⟩ := h.tap
  unfold fX7_feed fX8_feed
  rw [x_within, bi_e, if_10, m_inl (a' := 0) (b' := 127) (by decide) (by decide), bi_e, if_10]
  by_cases hc : (0 : Int32) ≤ x ∧ x ≤ 127
  · rw [if_pos hc, if_pos hc]
    obtain ⟨c, hc1, rfl⟩ := (wn (n := 127) (by decide)).1 hc
    rw [a1, a2]
    by_cases e : t = 160
    · subst e
      rw [if_neg (by decide), if_pos (by decide)]
      exact ⟨-3, μ, κ, rfl, rfl, h⟩
    · rw [if_pos (by rw [show (160 : Int32) = nI 160 from rfl, lt_nI (by omega) (by omega)]; omega), if_neg (by rw [show (160 : Int32) = nI 160 from rfl, eq_nI (by omega) (by omega)]; omega), gr_n (by omega) (by omega), gr_n (by omega) (by omega), lb_e, lb_e, lb_e, lb_e, wr_s, wr_s, wr_o (by omega), wr_o (by omega), a1, a2, nI_s1, cl_n (by omega), by_c c hc1]
      refine ⟨_, _, _, rfl, rfl, h.tp ?_ ?_ ?_ ⟨t + 1, by omega, wr_s _ _ _ _, wr_s _ _ _ _, ?_⟩⟩
      · intro b h1 h2; rw [wr_f _ _ _ _ h1, wr_f _ _ _ _ h2]
      · intro b h1 h2; rw [wr_f _ _ _ _ h1, wr_f _ _ _ _ h2]
      · intro j hj; rw [wr_o (by omega), wr_o (by omega)]
      · intro i hi
        simp only [wr_i, Nat.reduceEqDiff, false_and, and_false, and_self, and_true, true_and, if_false, if_true, reduceIte, ne_eq, not_true_eq_false, not_false_eq_true]
        by_cases e2 : i = t
        · rw [if_pos e2, if_pos e2]; exact ⟨c, hc1, rfl, rfl⟩
        · rw [if_neg e2, if_neg e2]
          exact a3 i (by omega)
  · rw [if_neg hc, if_neg hc]
    exact ⟨-1, μ, κ, rfl, rfl, h⟩
theorem st_end : ST_end Inv := by
  intro μ κ h x
  obtain ⟨t, ht, a1, a2, a3⟩ := h.tap
  unfold fX7_end fX8_end
  rw [x_within, bi_e, if_10, m_inl (a' := 0) (b' := κ 0 18) (by decide) rfl, bi_e, if_10, a1, a2]
  by_cases hc : (0 : Int32) ≤ x ∧ x ≤ nI t
  · rw [if_pos hc, if_pos hc]
    obtain ⟨c, hc1, rfl⟩ := (wn (n := t) (by omega)).1 hc
    rw [lb_e, lb_e, lb_e, lb_e]
    refine ⟨_, _, _, rfl, rfl, h.tp ?_ ?_ ?_ ⟨c, by omega, wr_s _ _ _ _, wr_s _ _ _ _, ?_⟩⟩
    · intro b h1 h2; rw [wr_f _ _ _ _ h1]
    · intro b h1 h2; rw [wr_f _ _ _ _ h1]
    · intro j hj; rw [wr_o (by omega)]
    · intro i hi
      rw [wr_o (by omega), wr_o (by omega)]
      exact a3 i (by omega)
  · rw [if_neg hc, if_neg hc]
    exact ⟨-1, μ, κ, rfl, rfl, h⟩
theorem st_fault : ST_fault Inv := by
  intro μ κ h
  exact ⟨_, _, _, rfl, by unfold fX8_fault; rw [h.flt], h⟩
theorem st_torn : ST_torn Inv := by
  intro μ κ h
  exact ⟨_, _, _, rfl, by unfold fX8_torn; rw [h.trn], h⟩
theorem st_see : ST_see Inv := by
  intro μ κ h x y
  obtain ⟨q, n, hq, hn, b1, a1, a2, a3⟩ := h.sen
  obtain ⟨n', H, D, hs, P, R, ps, st, g⟩ := h.main
  have hnn : n' = n := by have := g.nm; rw [b1, eq_nI (by omega) (by have := g.ok.n5; omega)] at this; omega
  subst hnn
  unfold fX7_see fX8_see fX7_see_J19 fX8_see_J20 fX2_add
  rw [x_isOrder g.dx.1 hn, bi_e, if_10, m_isOrder b1 hn, bi_e, if_10]
  by_cases hc : ∃ o, o < n' ∧ x = nI o
  · rw [if_pos hc, if_pos hc, x_within, bi_e, if_10, m_inl (a' := 0) (b' := 199) (by decide) (by decide), bi_e, if_10]
    obtain ⟨o, ho, rfl⟩ := hc
    by_cases hd : (0 : Int32) ≤ y ∧ y ≤ 199
    · rw [if_pos hd, if_pos hd, a1, a2]
      by_cases e : q = 6
      · subst e
        rw [if_neg (by decide), if_pos (by decide)]
        exact ⟨-3, μ, κ, rfl, rfl, h⟩
      · have e2 : (2 : Int32) * nI q = nI (2 * q) := by rw [show (2 : Int32) = nI 2 from rfl, pk_mul]
        rw [if_pos (by rw [show (6 : Int32) = nI 6 from rfl, lt_nI (by omega) (by omega)]; omega), if_neg (by rw [show (6 : Int32) = nI 6 from rfl, eq_nI (by omega) (by omega)]; omega), gr_n (by omega) (by omega), e2, gr_n (by omega) (by omega)]
        simp only [lb_e]
        simp only [wr_i, Nat.reduceEqDiff, false_and, and_false, and_self, and_true, true_and, if_false, if_true, reduceIte, ne_eq, not_true_eq_false, not_false_eq_true]
        rw [a1, a2, e2]; simp only [nI_s1]; rw [gr_n (by omega) (by omega), gr_n (by omega) (by omega), bv_e, cl_n (by omega), cl_n (by omega), cl_n (by omega)]
        simp only [wr_i, Nat.reduceEqDiff, false_and, and_false, and_self, and_true, true_and, if_false, if_true, reduceIte, ne_eq, not_true_eq_false, not_false_eq_true]
        refine ⟨_, _, _, rfl, rfl, h.se ?_ ?_ ?_ ⟨q + 1, n', by omega, hn, by rw [wr_o (by omega), wr_o (by omega), wr_o (by omega)]; exact b1, wr_s _ _ _ _, wr_s _ _ _ _, ?_⟩⟩
        · intro b h1 h2 h3; rw [wr_f _ _ _ _ h1, wr_f _ _ _ _ h3, wr_f _ _ _ _ h2]
        · intro b h1 h2; rw [wr_f _ _ _ _ h1, wr_f _ _ _ _ h2, wr_f _ _ _ _ h2]
        · intro j hj; rw [wr_o (by omega), wr_o (by omega), wr_o (by omega)]
        · intro i hi
          simp only [wr_i, Nat.reduceEqDiff, false_and, and_false, and_self, and_true, true_and, if_false, if_true, reduceIte, ne_eq, not_true_eq_false, not_false_eq_true]
          by_cases e3 : i = q
          · subst e3
            rw [if_pos rfl, if_pos rfl, if_neg (by omega), if_pos rfl, if_pos rfl]
            exact ⟨o, ho, rfl, rfl, rfl⟩
          · rw [if_neg e3, if_neg e3, if_neg (by omega), if_neg (by omega), if_neg (by omega), if_neg (by omega)]
            exact a3 i (by omega)
    · rw [if_neg hd, if_neg hd]
      exact ⟨-1, μ, κ, rfl, rfl, h⟩
  · rw [if_neg hc, if_neg hc]
    exact ⟨-1, μ, κ, rfl, rfl, h⟩
theorem st_forget : ST_forget Inv := by
  intro μ κ h x
  obtain ⟨q, n, hq, hn, b1, a1, a2, a3⟩ := h.sen
  unfold fX7_forget fX8_forget
  rw [x_within, bi_e, if_10, m_inl (a' := 0) (b' := κ 0 39) (by decide) rfl, bi_e, if_10, a1, a2]
  by_cases hc : (0 : Int32) ≤ x ∧ x ≤ nI q
  · rw [if_pos hc, if_pos hc]
    obtain ⟨c, hc1, rfl⟩ := (wn (n := q) (by omega)).1 hc
    rw [lb_e, lb_e, lb_e, lb_e]
    refine ⟨_, _, _, rfl, rfl, h.se ?_ ?_ ?_ ⟨c, n, by omega, hn, by rw [wr_o (by omega)]; exact b1, wr_s _ _ _ _, wr_s _ _ _ _, ?_⟩⟩
    · intro b h1 h2 h3; rw [wr_f _ _ _ _ h1]
    · intro b h1 h2; rw [wr_f _ _ _ _ h1]
    · intro j hj; rw [wr_o (by omega)]
    · intro i hi
      rw [wr_o (by omega), wr_o (by omega), wr_o (by omega), wr_o (by omega)]
      exact a3 i (by omega)
  · rw [if_neg hc, if_neg hc]
    exact ⟨-1, μ, κ, rfl, rfl, h⟩
