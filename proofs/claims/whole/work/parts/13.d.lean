theorem Pg.rowP {μ κ ν ξ : Mem} {n H : Nat} {D : Nat → Nat → Int32} {hs : Nat → Nat} {P R Q : List Nat} {ps st : Int32} (g : Pg μ κ 3 0 n H D hs P R ps st) (hb : ∀ b, b ≠ 6 → ν b = μ b) (hr : rowX ν 6 n Q) (kb : ∀ b, b ≠ 1 → ξ b = κ b) (k1 : ∀ j, (j < 20 ∨ 20 + n ≤ j) → ξ 1 j = κ 1 j) (hm : rowM ξ 20 n Q) (hQ : Q ∈ perms n) : Pg ν ξ 3 0 n H D hs Q R ps st := by
  have hn := g.ok.n5
  refine ⟨g.ok, hQ, g.hR, g.pk, g.sk, datX_f (hb 3 (by decide)) (hb 5 (by decide)) g.dx, roaX_f (hb 3 (by decide)) (hb 4 (by decide)) g.rx, hr, fun i hi => by rw [hb 7 (by decide)]; exact g.qx i hi, by rw [hb 3 (by decide)]; exact g.ux, by rw [hb 3 (by decide)]; exact g.sx, by rw [kb 0 (by decide)]; exact g.nm, roaM_f (by rw [kb 0 (by decide)]) (kb 2 (by decide)) (kb 3 (by decide)) g.rm, fun o ho => by rw [kb 4 (by decide)]; exact g.dm o ho, fun o ho => by rw [k1 _ (by omega), k1 _ (by omega), k1 _ (by omega), k1 _ (by omega)]; exact g.c0 o ho, hm, fun i hi => by rw [k1 _ (by omega)]; exact g.qm i hi, by rw [k1 _ (by omega)]; exact g.um, by rw [k1 _ (by omega)]; exact g.sm⟩
theorem Pg.rowR {μ κ ν ξ : Mem} {n H : Nat} {D : Nat → Nat → Int32} {hs : Nat → Nat} {P R Q : List Nat} {ps st : Int32} (g : Pg μ κ 3 0 n H D hs P R ps st) (hb : ∀ b, b ≠ 7 → ν b = μ b) (hr : rowX ν 7 n Q) (kb : ∀ b, b ≠ 1 → ξ b = κ b) (k1 : ∀ j, (j < 25 ∨ 25 + n ≤ j) → ξ 1 j = κ 1 j) (hm : rowM ξ 25 n Q) (hQ : Q ∈ perms n) : Pg ν ξ 3 0 n H D hs P Q ps st := by
  have hn := g.ok.n5
  refine ⟨g.ok, g.hP, hQ, g.pk, g.sk, datX_f (hb 3 (by decide)) (hb 5 (by decide)) g.dx, roaX_f (hb 3 (by decide)) (hb 4 (by decide)) g.rx, fun i hi => by rw [hb 6 (by decide)]; exact g.px i hi, hr, by rw [hb 3 (by decide)]; exact g.ux, by rw [hb 3 (by decide)]; exact g.sx, by rw [kb 0 (by decide)]; exact g.nm, roaM_f (by rw [kb 0 (by decide)]) (kb 2 (by decide)) (kb 3 (by decide)) g.rm, fun o ho => by rw [kb 4 (by decide)]; exact g.dm o ho, fun o ho => by rw [k1 _ (by omega), k1 _ (by omega), k1 _ (by omega), k1 _ (by omega)]; exact g.c0 o ho, fun i hi => by rw [k1 _ (by omega)]; exact g.pm i hi, hm, by rw [k1 _ (by omega)]; exact g.um, by rw [k1 _ (by omega)]; exact g.sm⟩
theorem Inv.rowP {μ κ ν ξ : Mem} {n H : Nat} {D : Nat → Nat → Int32} {hs : Nat → Nat} {P R Q : List Nat} {ps st : Int32} (h : Inv μ κ) (g : Pg μ κ 3 0 n H D hs P R ps st) (hb : ∀ b, b ≠ 6 → ν b = μ b) (hr : rowX ν 6 n Q) (kb : ∀ b, b ≠ 1 → ξ b = κ b) (k1 : ∀ j, (j < 20 ∨ 20 + n ≤ j) → ξ 1 j = κ 1 j) (hm : rowM ξ 20 n Q) (hQ : Q ∈ perms n) : Inv ν ξ := by
  have hn := g.ok.n5
  exact h.m (fun b _ => hb b (by omega)) (AgM0.o kb) (fun j _ _ => k1 j (by omega)) ⟨_, _, _, _, _, _, _, _, g.rowP hb hr kb k1 hm hQ⟩
theorem Inv.rowR {μ κ ν ξ : Mem} {n H : Nat} {D : Nat → Nat → Int32} {hs : Nat → Nat} {P R Q : List Nat} {ps st : Int32} (h : Inv μ κ) (g : Pg μ κ 3 0 n H D hs P R ps st) (hb : ∀ b, b ≠ 7 → ν b = μ b) (hr : rowX ν 7 n Q) (kb : ∀ b, b ≠ 1 → ξ b = κ b) (k1 : ∀ j, (j < 25 ∨ 25 + n ≤ j) → ξ 1 j = κ 1 j) (hm : rowM ξ 25 n Q) (hQ : Q ∈ perms n) : Inv ν ξ := by
  have hn := g.ok.n5
  exact h.m (fun b _ => hb b (by omega)) (AgM0.o kb) (fun j _ _ => k1 j (by omega)) ⟨_, _, _, _, _, _, _, _, g.rowR hb hr kb k1 hm hQ⟩
theorem st_pack : ST_pack Inv := by
  intro μ κ h x y
  obtain ⟨n, H, D, hs, P, R, ps, st, g⟩ := h.main
  have hn := g.ok.n5
  unfold fX7_pack fX8_pack
  rcases cases_n x (n := n) (by omega) with ⟨o, ho, rfl⟩ | hx
  · rcases cases_n y (n := n) (by omega) with ⟨p, hp, rfl⟩ | hy
    · obtain ⟨ν, a1, a2, a3⟩ := x_exch (a := 6) g.dx.1 (by decide) g.px hn g.hP ho hp
      obtain ⟨ξ, b1, b2, b3, b4⟩ := m_chg (r := 20) g.nm g.pm hn (by decide) g.hP ho hp
      have b1 : fX8_changes (20 : Int32) (nI o) (nI p) κ = _ := b1
      rw [a1, b1]
      exact ⟨_, _, _, rfl, rfl, h.rowP g a2 a3 b2 b3 b4 (pm_swp n (by omega) P g.hP o ho p hp)⟩
    · have b1 : fX8_changes (20 : Int32) (nI o) y κ = _ := m_chgN (r := 20) g.nm hn (Or.inr hy)
      rw [x_exchN g.dx.1 hn (Or.inr hy), b1]
      exact ⟨_, _, _, rfl, rfl, h⟩
  · have b1 : fX8_changes (20 : Int32) x y κ = _ := m_chgN (r := 20) g.nm hn (Or.inl hx)
    rw [x_exchN g.dx.1 hn (Or.inl hx), b1]
    exact ⟨_, _, _, rfl, rfl, h⟩
theorem st_swap : ST_swap Inv := by
  intro μ κ h x y
  obtain ⟨n, H, D, hs, P, R, ps, st, g⟩ := h.main
  have hn := g.ok.n5
  unfold fX7_swap fX8_swap
  rcases cases_n x (n := n) (by omega) with ⟨o, ho, rfl⟩ | hx
  · rcases cases_n y (n := n) (by omega) with ⟨p, hp, rfl⟩ | hy
    · obtain ⟨ν, a1, a2, a3⟩ := x_exch (a := 7) g.dx.1 (by decide) g.qx hn g.hR ho hp
      obtain ⟨ξ, b1, b2, b3, b4⟩ := m_chg (r := 25) g.nm g.qm hn (by decide) g.hR ho hp
      have b1 : fX8_changes (25 : Int32) (nI o) (nI p) κ = _ := b1
      rw [a1, b1]
      exact ⟨_, _, _, rfl, rfl, h.rowR g a2 a3 b2 b3 b4 (pm_swp n (by omega) R g.hR o ho p hp)⟩
    · have b1 : fX8_changes (25 : Int32) (nI o) y κ = _ := m_chgN (r := 25) g.nm hn (Or.inr hy)
      rw [x_exchN g.dx.1 hn (Or.inr hy), b1]
      exact ⟨_, _, _, rfl, rfl, h⟩
  · have b1 : fX8_changes (25 : Int32) x y κ = _ := m_chgN (r := 25) g.nm hn (Or.inl hx)
    rw [x_exchN g.dx.1 hn (Or.inl hx), b1]
    exact ⟨_, _, _, rfl, rfl, h⟩
theorem st_top : ST_top Inv := by
  intro μ κ h x
  obtain ⟨n, H, D, hs, P, R, ps, st, g⟩ := h.main
  have hn := g.ok.n5
  unfold fX7_top fX8_top fX7_bringAhead
  rcases cases_n x (n := n) (by omega) with ⟨o, ho, rfl⟩ | hx
  · obtain ⟨ν, a1, a2, a3⟩ := x_mv (a := 6) g.px hn g.hP ho
    obtain ⟨ξ, b1, b2, b3, b4⟩ := m_mv (r := 20) g.pm hn (by decide) g.hP ho
    have b1 : fX8_comesFirst (20 : Int32) (nI o) κ = _ := b1
    have c1 : fX8_codeOf (20 : Int32) ξ = _ := m_code (r := 20) (by rw [b2 0 (by decide)]; exact g.nm) b4 hn (by decide)
    rw [x_isY g.dx.1 hn ho, bi_e, if_neg one_ne, g.dx.1, a1, bv_e, a2 3 (by decide), g.dx.1, x_number a3 hn, m_isY g.nm hn ho, bi_e, bi_e, bi_e, if_neg one_ne, b1, bv_e, c1, bi_e]
    exact ⟨_, _, _, rfl, rfl, h.rowP g a2 a3 b2 b3 b4 (pm_mvf n (by omega) P g.hP o ho)⟩
  · rw [x_isN g.dx.1 hn hx, bi_e, if_pos rfl, m_isN g.nm hn hx, bi_e, bi_e, if_pos rfl]
    exact ⟨_, _, _, rfl, rfl, h⟩
theorem st_first : ST_first Inv := by
  intro μ κ h x
  obtain ⟨n, H, D, hs, P, R, ps, st, g⟩ := h.main
  have hn := g.ok.n5
  unfold fX7_first fX8_first fX7_bringAhead
  rcases cases_n x (n := n) (by omega) with ⟨o, ho, rfl⟩ | hx
  · obtain ⟨ν, a1, a2, a3⟩ := x_mv (a := 7) g.qx hn g.hR ho
    obtain ⟨ξ, b1, b2, b3, b4⟩ := m_mv (r := 25) g.qm hn (by decide) g.hR ho
    have b1 : fX8_comesFirst (25 : Int32) (nI o) κ = _ := b1
    have c1 : fX8_codeOf (25 : Int32) ξ = _ := m_code (r := 25) (by rw [b2 0 (by decide)]; exact g.nm) b4 hn (by decide)
    rw [x_isY g.dx.1 hn ho, bi_e, if_neg one_ne, g.dx.1, a1, bv_e, a2 3 (by decide), g.dx.1, x_number a3 hn, m_isY g.nm hn ho, bi_e, bi_e, bi_e, if_neg one_ne, b1, bv_e, c1, bi_e]
    exact ⟨_, _, _, rfl, rfl, h.rowR g a2 a3 b2 b3 b4 (pm_mvf n (by omega) R g.hR o ho)⟩
  · rw [x_isN g.dx.1 hn hx, bi_e, if_pos rfl, m_isN g.nm hn hx, bi_e, bi_e, if_pos rfl]
    exact ⟨_, _, _, rfl, rfl, h⟩
/-- one figure of one order is changed -/
def dCh (D : Nat → Nat → Int32) (w o : Nat) (v : Int32) : Nat → Nat → Int32 := fun a b => if a = w ∧ b = o then v else D a b
theorem Pg.chg {μ κ : Mem} {n H : Nat} {D : Nat → Nat → Int32} {hs : Nat → Nat} {P R : List Nat} {ps st : Int32} (g : Pg μ κ 3 0 n H D hs P R ps st) {o w k off : Nat} (ho : o < n) (hv : (w = 0 ∧ off = 0 ∧ k < 5) ∨ (w = 2 ∧ off = 5 ∧ 1 ≤ k ∧ k ≤ 9) ∨ (w = 3 ∧ off = 10 ∧ k ≤ 9) ∨ (w = 4 ∧ off = 15 ∧ k ≤ 99)) : Pg (wr μ 5 (5 * o + w) (nI k)) (wr κ 1 (off + o) (nI k)) 3 0 n H (dCh D w o (nI k)) hs P R ps st := by
  have hn := g.ok.n5
  have e1 : ∀ a b, a ≠ w → dCh D w o (nI k) a b = D a b := fun a b h => if_neg (fun c => h c.1)
  refine ⟨⟨g.ok.n5, g.ok.h6, fun i hi => by rw [e1 _ _ (by omega)]; exact g.ok.hh i hi, fun i hi => ?_, fun i hi => ?_, fun i hi => ?_, fun i hi => ?_, fun i hi => by rw [e1 _ _ (by omega)]; exact g.ok.mn i hi, fun i hi => by rw [e1 _ _ (by omega)]; exact g.ok.sl i hi⟩, g.hP, g.hR, g.pk, g.sk, ⟨by simp only [wr_i, Nat.reduceEqDiff, false_and, and_false, and_self, and_true, true_and, if_false, if_true, reduceIte, ne_eq, not_true_eq_false, not_false_eq_true]; exact g.dx.1, hn, fun a b ha hb => ?_⟩, ⟨by simp only [wr_i, Nat.reduceEqDiff, false_and, and_false, and_self, and_true, true_and, if_false, if_true, reduceIte, ne_eq, not_true_eq_false, not_false_eq_true]; exact g.rx.1, g.rx.2.1, fun i hi => by rw [wr_f _ _ _ _ (by decide), e1 _ _ (by omega), e1 _ _ (by omega)]; exact g.rx.2.2 i hi⟩, fun i hi => by rw [wr_f _ _ _ _ (by decide)]; exact g.px i hi, fun i hi => by rw [wr_f _ _ _ _ (by decide)]; exact g.qx i hi, by simp only [wr_i, Nat.reduceEqDiff, false_and, and_false, and_self, and_true, true_and, if_false, if_true, reduceIte, ne_eq, not_true_eq_false, not_false_eq_true]; exact g.ux, by simp only [wr_i, Nat.reduceEqDiff, false_and, and_false, and_self, and_true, true_and, if_false, if_true, reduceIte, ne_eq, not_true_eq_false, not_false_eq_true]; exact g.sx, by simp only [wr_i, Nat.reduceEqDiff, false_and, and_false, and_self, and_true, true_and, if_false, if_true, reduceIte, ne_eq, not_true_eq_false, not_false_eq_true]; exact g.nm, ⟨by simp only [wr_i, Nat.reduceEqDiff, false_and, and_false, and_self, and_true, true_and, if_false, if_true, reduceIte, ne_eq, not_true_eq_false, not_false_eq_true]; exact g.rm.1, g.rm.2.1, fun i hi => by rw [wr_f _ _ _ _ (by decide), wr_f _ _ _ _ (by decide), e1 _ _ (by omega), e1 _ _ (by omega)]; exact g.rm.2.2 i hi⟩, fun i hi => by rw [wr_f _ _ _ _ (by decide), e1 _ _ (by omega)]; exact g.dm i hi, fun i hi => ?_, fun i hi => by rw [wr_o (by omega)]; exact g.pm i hi, fun i hi => by rw [wr_o (by omega)]; exact g.qm i hi, by rw [wr_o (by omega)]; exact g.um, by rw [wr_o (by omega)]; exact g.sm⟩
  · unfold dCh
    by_cases e : 0 = w ∧ i = o
    · rw [if_pos e]; exact ⟨k, by omega, rfl⟩
    · rw [if_neg e]; exact g.ok.kd i hi
  · unfold dCh
    by_cases e : 2 = w ∧ i = o
    · rw [if_pos e]; exact ⟨k, by omega, by omega, rfl⟩
    · rw [if_neg e]; exact g.ok.wt i hi
  · unfold dCh
    by_cases e : 3 = w ∧ i = o
    · rw [if_pos e]; exact ⟨k, by omega, rfl⟩
    · rw [if_neg e]; exact g.ok.pn i hi
  · unfold dCh
    by_cases e : 4 = w ∧ i = o
    · rw [if_pos e]; exact ⟨k, by omega, rfl⟩
    · rw [if_neg e]; exact g.ok.du i hi
  · unfold dCh
    rw [wr_i]
    by_cases e : b = w ∧ a = o
    · rw [if_pos e, if_pos ⟨rfl, by omega⟩]
    · rw [if_neg e, if_neg (fun c => e (by omega))]; exact g.dx.2.2 a b ha hb
  · have := g.c0 i hi
    unfold dCh
    rw [wr_i, wr_i, wr_i, wr_i]
    refine ⟨?_, ?_, ?_, ?_⟩
    · by_cases e : 0 = w ∧ i = o
      · rw [if_pos e, if_pos ⟨rfl, by omega⟩]
      · rw [if_neg e, if_neg (fun c => e (by omega))]; exact this.1
    · by_cases e : 2 = w ∧ i = o
      · rw [if_pos e, if_pos ⟨rfl, by omega⟩]
      · rw [if_neg e, if_neg (fun c => e (by omega))]; exact this.2.1
    · by_cases e : 3 = w ∧ i = o
      · rw [if_pos e, if_pos ⟨rfl, by omega⟩]
      · rw [if_neg e, if_neg (fun c => e (by omega))]; exact this.2.2.1
    · by_cases e : 4 = w ∧ i = o
      · rw [if_pos e, if_pos ⟨rfl, by omega⟩]
      · rw [if_neg e, if_neg (fun c => e (by omega))]; exact this.2.2.2
theorem Inv.chg {μ κ : Mem} {n H : Nat} {D : Nat → Nat → Int32} {hs : Nat → Nat} {P R : List Nat} {ps st : Int32} (h : Inv μ κ) (g : Pg μ κ 3 0 n H D hs P R ps st) {o w k off : Nat} (ho : o < n) (hv : (w = 0 ∧ off = 0 ∧ k < 5) ∨ (w = 2 ∧ off = 5 ∧ 1 ≤ k ∧ k ≤ 9) ∨ (w = 3 ∧ off = 10 ∧ k ≤ 9) ∨ (w = 4 ∧ off = 15 ∧ k ≤ 99)) : Inv (wr μ 5 (5 * o + w) (nI k)) (wr κ 1 (off + o) (nI k)) := by
  have hn := g.ok.n5
  exact h.m (fun b _ => wr_f _ _ _ _ (by omega)) (AgM0.o (fun b hb => wr_f _ _ _ _ hb)) (fun j _ _ => wr_o (by omega)) ⟨_, _, _, _, _, _, _, _, g.chg ho hv⟩
theorem m_puts0 (x2 x3 x4 : Int32) (κ : Mem) : fX8_puts (0 : Int32) x2 x3 x4 κ = some (-1, κ) := if_pos rfl
theorem m_puts1 {κ : Mem} {j : Nat} (hj : j < 160) (x3 : Int32) : fX8_puts (1 : Int32) (nI j) x3 (0 : Int32) κ = some (κ 1 j, wr κ 1 j x3) := by
  unfold fX8_puts
  rw [if_neg one_ne, gr_n hj (by decide), lb_e, gr_n hj (by decide), lb_e, cl_n (by omega), Int32.add_zero, Int32.sub_zero]
/-- changeOrder -/
theorem x_chgY {μ : Mem} {n o w : Nat} {D : Nat → Nat → Int32} {v lo hi : Int32} (hd : datX μ 3 n D) (ho : o < n) (hw : w < 5) (hl : fX7_leastOf (nI w) μ = some (lo, μ)) (hm : fX7_mostOf (nI w) μ = some (hi, μ)) (hv : lo ≤ v ∧ v ≤ hi) : fX7_changeOrder (nI o) (nI w) v μ = some (D w o, wr μ 5 (5 * o + w) v) := by
  have := hd.2.1
  unfold fX7_changeOrder
  rw [x_isY hd.1 hd.2.1 ho, bi_e, if_neg one_ne, hl, bi_e, hm, bi_e, x_within, bi_e, if_10, if_pos hv, x_of hd ho hw, bi_e, nI_o5, gr_n (by omega) (by omega), lb_e, cl_n (by omega)]
theorem x_chgN {μ : Mem} {n w : Nat} {x : Int32} {D : Nat → Nat → Int32} {v lo hi : Int32} (hd : datX μ 3 n D) (hl : fX7_leastOf (nI w) μ = some (lo, μ)) (hm : fX7_mostOf (nI w) μ = some (hi, μ)) (hv : ¬ ((∃ o, o < n ∧ x = nI o) ∧ lo ≤ v ∧ v ≤ hi)) : fX7_changeOrder x (nI w) v μ = some (-1, μ) := by
  unfold fX7_changeOrder fX7_changeOrder_J23
  rw [x_isOrder hd.1 hd.2.1, bi_e, if_10, hl, bi_e, hm, bi_e, x_within, bi_e, if_10]
  by_cases e : ∃ o, o < n ∧ x = nI o
  · rw [if_pos e, if_neg (fun c => hv ⟨e, c⟩)]
  · rw [if_neg e]
theorem st_turn : ST_turn Inv := by
  intro μ κ h x y
  obtain ⟨n, H, D, hs, P, R, ps, st, g⟩ := h.main
  have hn := g.ok.n5
  unfold fX7_turn fX8_turn fX8_turn_J25 fX8_turn_J26
  simp only [m_isOrder g.nm hn, bi_e, if_10, m_i4, m_puts0]
  by_cases hc : (∃ o, o < n ∧ x = nI o) ∧ (0 : Int32) ≤ y ∧ y ≤ 4
  · obtain ⟨⟨o, ho, rfl⟩, hd⟩ := hc
    have q : fX7_changeOrder (nI o) (0 : Int32) y μ = _ := x_chgY (w := 0) g.dx ho (by decide) rfl rfl hd
    rw [q, if_pos ⟨o, ho, rfl⟩, if_pos hd, m_puts1 (by omega), bi_e]
    obtain ⟨k, hk, rfl⟩ := (wn (n := 4) (by decide)).1 hd
    have := h.chg g (w := 0) (off := 0) (k := k) ho (by omega)
    rw [Nat.zero_add] at this
    exact ⟨_, _, _, rfl, by rw [← (g.c0 o ho).1]; rfl, this⟩
  · have q : fX7_changeOrder x (0 : Int32) y μ = _ := x_chgN (w := 0) g.dx rfl rfl hc
    rw [q]
    refine ⟨_, _, _, rfl, ?_, h⟩
    by_cases e : ∃ o, o < n ∧ x = nI o
    · rw [if_pos e, if_neg (fun c => hc ⟨e, c⟩)]
    · rw [if_neg e]
theorem st_weigh : ST_weigh Inv := by
  intro μ κ h x y
  obtain ⟨n, H, D, hs, P, R, ps, st, g⟩ := h.main
  have hn := g.ok.n5
  unfold fX7_weigh fX8_weigh fX8_weigh_J25 fX8_weigh_J26
  simp only [m_isOrder g.nm hn, bi_e, if_10, m_i19, m_puts0]
  by_cases hc : (∃ o, o < n ∧ x = nI o) ∧ (1 : Int32) ≤ y ∧ y ≤ 9
  · obtain ⟨⟨o, ho, rfl⟩, hd⟩ := hc
    have q : fX7_changeOrder (nI o) (2 : Int32) y μ = _ := x_chgY (w := 2) g.dx ho (by decide) rfl rfl hd
    rw [q, if_pos ⟨o, ho, rfl⟩, if_pos hd, show (5 : Int32) = nI 5 from rfl, nI_add, m_puts1 (by omega), bi_e]
    obtain ⟨k, hk, rfl⟩ := (wn1 (n := 9) (by decide)).1 hd
    have := h.chg g (w := 2) (off := 5) (k := k + 1) ho (by omega)
    exact ⟨_, _, _, rfl, by rw [← (g.c0 o ho).2.1]; rfl, this⟩
  · have q : fX7_changeOrder x (2 : Int32) y μ = _ := x_chgN (w := 2) g.dx rfl rfl hc
    rw [q]
    refine ⟨_, _, _, rfl, ?_, h⟩
    by_cases e : ∃ o, o < n ∧ x = nI o
    · rw [if_pos e, if_neg (fun c => hc ⟨e, c⟩)]
    · rw [if_neg e]
theorem st_ask : ST_ask Inv := by
  intro μ κ h x z y
  obtain ⟨n, H, D, hs, P, R, ps, st, g⟩ := h.main
  have hn := g.ok.n5
  unfold fX7_ask fX8_ask fX8_ask_J30 fX8_ask_J31 fX8_ask_J73 fX8_ask_J74 fX8_ask_J83
  simp only [m_isOrder g.nm hn, bi_e, if_10, m_i9, m_i99, m_puts0, x_within]
  by_cases e3 : z = 3
  · subst e3
    rw [if_pos (by decide), if_pos rfl]
    by_cases hc : (∃ o, o < n ∧ x = nI o) ∧ (0 : Int32) ≤ y ∧ y ≤ 9
    · obtain ⟨⟨o, ho, rfl⟩, hd⟩ := hc
      have q : fX7_changeOrder (nI o) (3 : Int32) y μ = _ := x_chgY (w := 3) g.dx ho (by decide) rfl rfl hd
      rw [q, if_pos ⟨o, ho, rfl⟩, if_pos hd, show (10 : Int32) = nI 10 from rfl, nI_add, m_puts1 (by omega), bi_e]
      obtain ⟨k, hk, rfl⟩ := (wn (n := 9) (by decide)).1 hd
      have := h.chg g (w := 3) (off := 10) (k := k) ho (by omega)
      exact ⟨_, _, _, rfl, by rw [← (g.c0 o ho).2.2.1]; rfl, this⟩
    · have q : fX7_changeOrder x (3 : Int32) y μ = _ := x_chgN (w := 3) g.dx rfl rfl hc
      rw [q]
      refine ⟨_, _, _, rfl, ?_, h⟩
      by_cases e : ∃ o, o < n ∧ x = nI o
      · rw [if_pos e, if_neg (fun c => hc ⟨e, c⟩)]
      · rw [if_neg e]
  · by_cases e4 : z = 4
    · subst e4
      rw [if_pos (by decide), if_neg e3, if_pos rfl]
      by_cases hc : (∃ o, o < n ∧ x = nI o) ∧ (0 : Int32) ≤ y ∧ y ≤ 99
      · obtain ⟨⟨o, ho, rfl⟩, hd⟩ := hc
        have q : fX7_changeOrder (nI o) (4 : Int32) y μ = _ := x_chgY (w := 4) g.dx ho (by decide) rfl rfl hd
        rw [q, if_pos ⟨o, ho, rfl⟩, if_pos hd, show (15 : Int32) = nI 15 from rfl, nI_add, m_puts1 (by omega), bi_e]
        obtain ⟨k, hk, rfl⟩ := (wn (n := 99) (by decide)).1 hd
        have := h.chg g (w := 4) (off := 15) (k := k) ho (by omega)
        exact ⟨_, _, _, rfl, by rw [← (g.c0 o ho).2.2.2]; rfl, this⟩
      · have q : fX7_changeOrder x (4 : Int32) y μ = _ := x_chgN (w := 4) g.dx rfl rfl hc
        rw [q]
        refine ⟨_, _, _, rfl, ?_, h⟩
        by_cases e : ∃ o, o < n ∧ x = nI o
        · rw [if_pos e, if_neg (fun c => hc ⟨e, c⟩)]
        · rw [if_neg e]
    · rw [if_neg (fun hc => ?_), if_neg e3, if_neg e4]
      · exact ⟨_, _, _, rfl, rfl, h⟩
      · have h0 : (0 : Int32) ≤ z := by
          have := hc.1
          rw [i_le] at this ⊢
          rw [show (3 : Int32).toInt = 3 from rfl] at this
          rw [show (0 : Int32).toInt = 0 from rfl]
          omega
        obtain ⟨k, hk, rfl⟩ := (wn (n := 4) (by decide)).1 ⟨h0, hc.2⟩
        have h3 := hc.1
        rw [show (3 : Int32) = nI 3 from rfl, le_nI (by omega) (by omega)] at h3
        rcases (show k = 3 ∨ k = 4 by omega) with rfl | rfl
        · exact e3 rfl
        · exact e4 rfl
