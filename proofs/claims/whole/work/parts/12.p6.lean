theorem or_or : ∀ a, a < 32 → ∀ m, m < 32 → ∀ o, o < 5 → (a ||| m) ||| 2 ^ o = a ||| (m ||| 2 ^ o) := by decide +kernel
theorem x_fnL2 {n s k c0 : Nat} {D : Nat → Nat → Int32} {st g d : Int32} {b : Nat → Int32} {ab c : Nat → Nat} {tm : Nat → Int32} (h : clOk n c s k) (h0 : c0 < 32) (hab : ∀ i, i < k → ab (c i) < 32) : ∀ (r i fu : Nat) (μ : Mem), i + r = k → r < fu → datX μ 3 n D → μ 24 6 = nI k → μ 24 8 = st → μ 24 10 = g → μ 24 11 = d → (∀ j, j < k → μ 25 j = nI (c j)) → (∀ j, j < k → μ 27 j = b j) → (∀ j, j < k → μ 28 (c j) = nI (ab (c j))) → μ 24 12 = (kq D st b ab c s tm i).1 → μ 24 14 = nI (c0 ||| (kq D st b ab c s tm i).2.2.1) → μ 24 15 = nI (kq D st b ab c s tm i).2.2.2 → μ 29 = (kq D st b ab c s tm i).2.1 →
    ∃ ν, fX6_finish_L49 fu (nI (lft c s i)) (nI i) μ = some ν ∧ (∀ a, a ≠ 24 → a ≠ 29 → ν a = μ a) ∧ (∀ j, j ≠ 12 → j ≠ 13 → j ≠ 14 → j ≠ 15 → j ≠ 16 → ν 24 j = μ 24 j) ∧ ν 24 12 = (kq D st b ab c s tm k).1 ∧ ν 24 13 = ((st + g) + d) + (kq D st b ab c s tm k).1 ∧ ν 24 14 = nI (c0 ||| (kq D st b ab c s tm k).2.2.1) ∧ ν 24 15 = nI (kq D st b ab c s tm k).2.2.2 ∧ ν 24 16 = bsum (D 3) (mcl (mcl s (c0 ||| (kq D st b ab c s tm k).2.2.1)) (kq D st b ab c s tm k).2.2.2) n ∧ ν 29 = (kq D st b ab c s tm k).2.1
  | 0, i, fu + 1, μ, h1, _, hd, h6, h8, h10, h11, hc, hb, h28, h12, h14, h15, h29 => by
    have e : i = k := by omega
    subst e
    have hn := h.1
    have hn' := h.2.1
    obtain ⟨q1, q2⟩ := kq_lt (D := D) (st := st) (b := b) (ab := ab) (tm := tm) h i (Nat.le_refl _)
    have hsp := (bt_orm c0 h0 _ q1).2
    have hs32 : s < 32 := by have := abm_lt h i (Nat.le_refl _); rw [h.2.2.2.1] at this; exact this
    obtain ⟨hv, hhv⟩ : ∃ hv : Int32, hv = ((st + g) + d) + (kq D st b ab c s tm i).1 := ⟨_, rfl⟩
    have a1 := bt_cl s hs32 _ hsp
    have a2 := bt_cl _ a1.2 _ q2
    have hpb := x_pb (μ := wr μ 24 13 hv) h (by rw [wr_o (by omega)]; exact h6) (fun j hj => by rw [wr_o (by omega)]; exact hc j hj) hsp q2 (by rw [wr_o (by omega)]; exact h14) (by rw [wr_o (by omega)]; exact h15)
    have hpn := x_pen (μ := wr μ 24 13 hv) (sh := 3) (n := n) (D := D) (datX_f (wr_f _ _ _ _ (by decide)) (wr_f _ _ _ _ (by decide)) hd) a2.2
    refine ⟨wr (wr μ 24 13 hv) 24 16 (bsum (D 3) (mcl (mcl s (c0 ||| (kq D st b ab c s tm i).2.2.1)) (kq D st b ab c s tm i).2.2.2) n), ?_, fun a a1 _ => by rw [wr_f _ _ _ _ a1, wr_f _ _ _ _ a1], fun j _ j2 _ _ j5 => by rw [wr_o (fun q => j5 q.2), wr_o (fun q => j2 q.2)], by rw [wr_o (by omega), wr_o (by omega)]; exact h12, by rw [wr_o (by omega), wr_s, hhv], by rw [wr_o (by omega), wr_o (by omega)]; exact h14, by rw [wr_o (by omega), wr_o (by omega)]; exact h15, wr_s _ _ _ _, by rw [wr_f _ _ _ _ (by decide), wr_f _ _ _ _ (by decide)]; exact h29⟩
    rw [fX6_finish_L49, if_pos (by rw [h6]; exact nI_le (Nat.le_refl _) (by omega)), lb_e, h8, h10, h11, h12, ← hhv, hpb, bi_e, hpn, bi_e, lb_e]
  | r + 1, i, fu + 1, μ, h1, hf, hd, h6, h8, h10, h11, hc, hb, h28, h12, h14, h15, h29 => by
    have hn := h.1
    have hn' := h.2.1
    obtain ⟨g1, g2, g3, g4, g5⟩ := h.2.2.2.2 i (by omega)
    obtain ⟨q1, q2⟩ := kq_lt (D := D) (st := st) (b := b) (ab := ab) (tm := tm) h i (by omega)
    have ha := hab i (by omega)
    have han := bt_an _ ha _ g3
    have hcl := bt_cl (lft c s i) g3 (2 ^ c i) (bt_pow (c i) (by omega))
    obtain ⟨u, hu⟩ : ∃ u : Int32, u = (kq D st b ab c s tm i).1 + nI (popc (ab (c i) &&& lft c s i)) := ⟨_, rfl⟩
    obtain ⟨t, ht⟩ : ∃ t : Int32, t = b i + u := ⟨_, rfl⟩
    have hq : kq D st b ab c s tm (i + 1) = (u, upd (kq D st b ab c s tm i).2.1 (c i) t, (if D 0 (c i) = 2 ∧ 20 < t - st then (kq D st b ab c s tm i).2.2.1 ||| 2 ^ c i else (kq D st b ab c s tm i).2.2.1), if D 4 (c i) < t then (kq D st b ab c s tm i).2.2.2 ||| 2 ^ c i else (kq D st b ab c s tm i).2.2.2) := by
      rw [ht, hu]
      rfl
    have hsp := (bt_orm c0 h0 _ q1).2
    -- the loop goes on from any memory that holds what it must
    have go : ∀ μ1 : Mem, (∀ a, a ≠ 24 → a ≠ 29 → μ1 a = μ a) → (∀ j, j ≠ 12 → j ≠ 14 → j ≠ 15 → μ1 24 j = μ 24 j) → μ1 24 12 = u → μ1 24 14 = nI (c0 ||| (kq D st b ab c s tm (i + 1)).2.2.1) → μ1 24 15 = nI (kq D st b ab c s tm (i + 1)).2.2.2 → μ1 29 = upd (kq D st b ab c s tm i).2.1 (c i) t →
        ∃ ν, fX6_finish_L49 fu (nI (lft c s (i + 1))) (nI (i + 1)) μ1 = some ν ∧ (∀ a, a ≠ 24 → a ≠ 29 → ν a = μ a) ∧ (∀ j, j ≠ 12 → j ≠ 13 → j ≠ 14 → j ≠ 15 → j ≠ 16 → ν 24 j = μ 24 j) ∧ ν 24 12 = (kq D st b ab c s tm k).1 ∧ ν 24 13 = ((st + g) + d) + (kq D st b ab c s tm k).1 ∧ ν 24 14 = nI (c0 ||| (kq D st b ab c s tm k).2.2.1) ∧ ν 24 15 = nI (kq D st b ab c s tm k).2.2.2 ∧ ν 24 16 = bsum (D 3) (mcl (mcl s (c0 ||| (kq D st b ab c s tm k).2.2.1)) (kq D st b ab c s tm k).2.2.2) n ∧ ν 29 = (kq D st b ab c s tm k).2.1 := by
      intro μ1 f1 f2 f3 f4 f5 f6
      obtain ⟨ν, k1, k2, k3, k4⟩ := x_fnL2 (g := g) (d := d) h h0 hab r (i + 1) fu μ1 (by omega) (by omega) (datX_f (f1 3 (by decide) (by decide)) (f1 5 (by decide) (by decide)) hd) (by rw [f2 6 (by decide) (by decide) (by decide)]; exact h6) (by rw [f2 8 (by decide) (by decide) (by decide)]; exact h8) (by rw [f2 10 (by decide) (by decide) (by decide)]; exact h10) (by rw [f2 11 (by decide) (by decide) (by decide)]; exact h11) (fun j hj => by rw [f1 25 (by decide) (by decide)]; exact hc j hj) (fun j hj => by rw [f1 27 (by decide) (by decide)]; exact hb j hj) (fun j hj => by rw [f1 28 (by decide) (by decide)]; exact h28 j hj) (by rw [f3, hq]) f4 f5 (by rw [f6, hq])
      exact ⟨ν, k1, fun a a1 a2 => by rw [k2 a a1 a2, f1 a a1 a2], fun j j1 j2 j3 j4 j5 => by rw [k3 j j1 j2 j3 j4 j5, f2 j j1 j3 j4], k4⟩
    -- behind the look at DUE
    have late : ∀ μ2 : Mem, (∀ a, a ≠ 24 → a ≠ 29 → μ2 a = μ a) → (∀ j, j ≠ 12 → j ≠ 14 → μ2 24 j = μ 24 j) → μ2 24 12 = u → μ2 24 14 = nI (c0 ||| (kq D st b ab c s tm (i + 1)).2.2.1) → μ2 29 = upd (kq D st b ab c s tm i).2.1 (c i) t →
        ∃ ν, fX6_finish_J150 (fun x1 x2 μ => fX6_finish_L49 fu x1 x2 μ) (nI (lft c s (i + 1))) (nI i) (nI (c i)) μ2 = some ν ∧ (∀ a, a ≠ 24 → a ≠ 29 → ν a = μ a) ∧ (∀ j, j ≠ 12 → j ≠ 13 → j ≠ 14 → j ≠ 15 → j ≠ 16 → ν 24 j = μ 24 j) ∧ ν 24 12 = (kq D st b ab c s tm k).1 ∧ ν 24 13 = ((st + g) + d) + (kq D st b ab c s tm k).1 ∧ ν 24 14 = nI (c0 ||| (kq D st b ab c s tm k).2.2.1) ∧ ν 24 15 = nI (kq D st b ab c s tm k).2.2.2 ∧ ν 24 16 = bsum (D 3) (mcl (mcl s (c0 ||| (kq D st b ab c s tm k).2.2.1)) (kq D st b ab c s tm k).2.2.2) n ∧ ν 29 = (kq D st b ab c s tm k).2.1 := by
      intro μ2 f1 f2 f3 f4 f6
      have dA : datX μ2 3 n D := datX_f (f1 3 (by decide) (by decide)) (f1 5 (by decide) (by decide)) hd
      have e29 : μ2 29 (c i) = t := by rw [f6]; simp [upd]
      unfold fX6_finish_J150 fX6_finish_J180
      rw [gr_n (by omega) (by omega), cl_n (by omega), e29, show (4 : Int32) = nI 4 from rfl, x_of dA g1 (by omega), bi_e]
      simp only [lb_e, nI_s1]
      by_cases e : t ≤ D 4 (c i)
      · rw [if_pos e]
        exact go μ2 f1 (fun j j1 j2 _ => f2 j j1 j2) f3 f4 (by rw [f2 15 (by decide) (by decide), h15, hq]; dsimp only; rw [if_neg (Int32.not_lt.mpr e)]) f6
      · rw [if_neg e, f2 15 (by decide) (by decide), h15, (bt_or _ q2 (c i) (by omega)).1]
        exact go _ (fun a a1 a2 => by rw [wr_f _ _ _ _ a1, f1 a a1 a2]) (fun j j1 j2 j3 => by rw [wr_o (fun q => j3 q.2), f2 j j1 j2]) (by rw [wr_o (by omega)]; exact f3) (by rw [wr_o (by omega)]; exact f4) (by rw [wr_s, hq]; dsimp only; rw [if_pos (Int32.not_le.mp e)]) (by rw [wr_f _ _ _ _ (by decide)]; exact f6)
    have dB : datX (wr (wr μ 24 12 u) 29 (c i) t) 3 n D := datX_f (by rw [wr_f _ _ _ _ (by decide), wr_f _ _ _ _ (by decide)]) (by rw [wr_f _ _ _ _ (by decide), wr_f _ _ _ _ (by decide)]) hd
    have eb : (wr μ 24 12 u) 27 i = b i := by rw [wr_o (by omega)]; exact hb i (by omega)
    have e8 : (wr (wr μ 24 12 u) 29 (c i) t) 24 8 = st := by rw [wr_o (by omega), wr_o (by omega)]; exact h8
    have e29 : (wr (wr μ 24 12 u) 29 (c i) t) 29 (c i) = t := wr_s _ _ _ _
    have r29 : (wr (wr μ 24 12 u) 29 (c i) t) 29 = upd (kq D st b ab c s tm i).2.1 (c i) t := by rw [wr_row, wr_f _ _ _ _ (by decide), h29]
    have e14 : (wr (wr μ 24 12 u) 29 (c i) t) 24 14 = nI (c0 ||| (kq D st b ab c s tm i).2.2.1) := by rw [wr_o (by omega), wr_o (by omega)]; exact h14
    have e12 : (wr (wr μ 24 12 u) 29 (c i) t) 24 12 = u := by rw [wr_o (by omega), wr_s]
    have fr1 : ∀ a, a ≠ 24 → a ≠ 29 → (wr (wr μ 24 12 u) 29 (c i) t) a = μ a := fun a a1 a2 => by rw [wr_f _ _ _ _ a2, wr_f _ _ _ _ a1]
    have fr2 : ∀ j, j ≠ 12 → j ≠ 14 → (wr (wr μ 24 12 u) 29 (c i) t) 24 j = μ 24 j := fun j j1 _ => by rw [wr_o (by omega), wr_o (fun q => j1 q.2)]
    rw [fX6_finish_L49, if_neg (by rw [h6]; exact nI_ge (by omega) (by omega)), gr_n (by omega) (by omega), lb_e, cl_n (by omega), hc i (by omega), gr_n (by omega) (by omega), cl_n (by omega), h28 i (by omega), han.1, bc_ok _ han.2, bi_e, lb_e, h12, ← hu, lb_e, bt_one (c i) (by omega), hcl.1, gr_n (by omega) (by omega), gr_n (by omega) (by omega), lb_e, eb, wr_s, ← ht, show (0 : Int32) = nI 0 from rfl, x_of dB g1 (by omega), bi_e]
    have hlf : nI (mcl (lft c s i) (2 ^ c i)) = nI (lft c s (i + 1)) := rfl
    rw [hlf]
    by_cases e1 : D 0 (c i) = 2
    · rw [if_pos e1, gr_n (by omega) (by omega), e29, e8]
      by_cases e2 : t - st ≤ 20
      · rw [if_pos e2]
        exact late _ fr1 fr2 e12 (by rw [e14, hq]; dsimp only; rw [if_neg (fun q => absurd q.2 (Int32.not_lt.mpr e2))]) r29
      · rw [if_neg e2, lb_e, e14, ← bt_one (c i) (by omega), (bt_or _ hsp (c i) (by omega)).1, or_or c0 h0 _ q1 (c i) (by omega)]
        exact late _ (fun a a1 a2 => by rw [wr_f _ _ _ _ a1, fr1 a a1 a2]) (fun j j1 j2 => by rw [wr_o (fun q => j2 q.2), fr2 j j1 j2]) (by rw [wr_o (by omega)]; exact e12) (by rw [wr_s, hq]; dsimp only; rw [if_pos ⟨e1, Int32.not_le.mp e2⟩]) (by rw [wr_f _ _ _ _ (by decide)]; exact r29)
    · rw [if_neg e1]
      exact late _ fr1 fr2 e12 (by rw [e14, hq]; dsimp only; rw [if_neg (fun q => e1 q.1)]) r29
theorem x_fnL1 {μ : Mem} {n s k : Nat} {c : Nat → Nat} (h : clOk n c s k) (h6 : μ 24 6 = nI k) (hc : ∀ j, j < k → μ 25 j = nI (c j)) : ∀ (r i fu : Nat), i + r = k → r < fu → fX6_finish_L4 fu (nI (abm c i)) (nI i) μ = fX6_finish_L49 FU (nI s) 0 (wr (wr (wr μ 24 12 0) 24 14 (μ 24 9)) 24 15 0)
  | 0, i, fu + 1, h1, _ => by
    have e : i = k := by omega
    subst e
    have hn := h.1
    have hn' := h.2.1
    rw [fX6_finish_L4, if_pos (by rw [h6]; exact nI_le (Nat.le_refl _) (by omega)), h.2.2.2.1]
    simp only [lb_e]
    rw [show wr μ 24 12 0 24 9 = μ 24 9 from wr_o (by omega)]
  | r + 1, i, fu + 1, h1, hf => by
    have hn := h.1
    have hn' := h.2.1
    obtain ⟨g1, g2, g3, g4, g5⟩ := h.2.2.2.2 i (by omega)
    rw [fX6_finish_L4, if_neg (by rw [h6]; exact nI_ge (by omega) (by omega)), gr_n (by omega) (by omega), lb_e, lb_e, cl_n (by omega), hc i (by omega), (bt_or _ g4 (c i) (by omega)).1, nI_s1]
    exact x_fnL1 h h6 hc r (i + 1) fu (by omega) (by omega)
theorem x_fin {μ : Mem} {n s k c0 : Nat} {D : Nat → Nat → Int32} {st : Int32} {b : Nat → Int32} {ab c : Nat → Nat} (h : clOk n c s k) (h0 : c0 < 32) (hab : ∀ i, i < k → ab (c i) < 32) (hd : datX μ 3 n D) (h6 : μ 24 6 = nI k) (h8 : μ 24 8 = st) (hc : ∀ j, j < k → μ 25 j = nI (c j)) (hb : ∀ j, j < k → μ 27 j = b j) (h28 : ∀ j, j < k → μ 28 (c j) = nI (ab (c j))) (h9 : μ 24 9 = nI c0) : ∃ ν, fX6_finish μ = some ν ∧ finX μ ν D n st b ab c s k c0 := by
  have hn := h.1
  have hn' := h.2.1
  unfold fX6_finish
  simp only [lb_e]
  have e : fX6_finish_L4 FU 0 0 μ = fX6_finish_L49 FU (nI s) 0 (wr (wr (wr μ 24 12 0) 24 14 (μ 24 9)) 24 15 0) := x_fnL1 h h6 hc k 0 FU (by omega) (by show k < 4000; omega)
  rw [e]
  have fr : ∀ a, a ≠ 24 → (wr (wr (wr μ 24 12 0) 24 14 (μ 24 9)) 24 15 0) a = μ a := fun a a1 => by rw [wr_f _ _ _ _ a1, wr_f _ _ _ _ a1, wr_f _ _ _ _ a1]
  have f2 : ∀ j, j ≠ 12 → j ≠ 14 → j ≠ 15 → (wr (wr (wr μ 24 12 0) 24 14 (μ 24 9)) 24 15 0) 24 j = μ 24 j := fun j j1 j2 j3 => by rw [wr_o (fun q => j3 q.2), wr_o (fun q => j2 q.2), wr_o (fun q => j1 q.2)]
  obtain ⟨ν, k1, k2, k3, k4⟩ := x_fnL2 (D := D) (st := st) (g := μ 24 10) (d := μ 24 11) (b := b) (ab := ab) (tm := μ 29) h h0 hab k 0 FU (wr (wr (wr μ 24 12 0) 24 14 (μ 24 9)) 24 15 0) (by omega) (by show k < 4000; omega) (datX_f (fr 3 (by decide)) (fr 5 (by decide)) hd) (by rw [f2 6 (by decide) (by decide) (by decide)]; exact h6) (by rw [f2 8 (by decide) (by decide) (by decide)]; exact h8) (f2 10 (by decide) (by decide) (by decide)) (f2 11 (by decide) (by decide) (by decide)) (fun j hj => by rw [fr 25 (by decide)]; exact hc j hj) (fun j hj => by rw [fr 27 (by decide)]; exact hb j hj) (fun j hj => by rw [fr 28 (by decide)]; exact h28 j hj) (by rw [wr_o (by omega), wr_o (by omega), wr_s]; rfl) (by rw [wr_o (by omega), wr_s, h9]; show nI c0 = nI (c0 ||| 0); rw [Nat.or_zero]) (by rw [wr_s]; rfl) (by rw [fr 29 (by decide)]; rfl)
  exact ⟨ν, k1, fun a a1 a2 => by rw [k2 a a1 a2, fr a a1], fun j j1 j2 j3 j4 j5 => by rw [k3 j j1 j2 j3 j4 j5, f2 j j1 j3 j4], k4⟩
