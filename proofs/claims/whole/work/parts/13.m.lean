/-! strength, latest -/
def fsF (f : Nat → Bool) : Nat → Nat → Int32
  | 0, _ => -4
  | r + 1, i => if f i then nI i else fsF f r (i + 1)
def lsF (f : Nat → Bool) : Nat → Int32
  | 0 => -4
  | i + 1 => if f i then nI i else lsF f i
def pI : Nat → Int32
  | 0 => -1
  | i + 1 => nI i
theorem pI_s : ∀ i, nI i + (-1 : Int32) = pI i
  | 0 => by decide
  | i + 1 => nI_d1 i
theorem pI_n : ∀ i, (pI i < 0) = (i = 0 ∨ 2 ^ 31 < i) ∨ 2 ^ 31 < i
  | 0 => Or.inl (propext ⟨fun _ => Or.inl rfl, fun _ => by decide⟩)
  | i + 1 => by
    by_cases h : 2 ^ 31 < i + 1
    · exact Or.inr h
    · refine Or.inl (propext ⟨fun c => absurd c (nI_pos (by omega)), fun c => by omega⟩)
theorem trS.w7 {μ : Mem} {n H : Nat} {D : Nat → Nat → Int32} {P R : List Nat} {ps st : Int32} (h : trS μ n H D P R ps st) (v : Int32) : trS (wr μ 24 7 v) n H D P R v st :=
  ⟨datX_f (wr_f _ _ _ _ (by decide)) (wr_f _ _ _ _ (by decide)) h.d, roaX_f (wr_f _ _ _ _ (by decide)) (wr_f _ _ _ _ (by decide)) h.r, by rw [wr_o (by omega)]; exact h.s6, wr_s _ _ _ _, by rw [wr_o (by omega)]; exact h.s8, fun i hi => by rw [wr_f _ _ _ _ (by decide)]; exact h.cs i hi, by rw [wr_o (by omega)]; exact h.s9, fun o ho => by rw [wr_f _ _ _ _ (by decide)]; exact h.ab o ho⟩
theorem trS.w8 {μ : Mem} {n H : Nat} {D : Nat → Nat → Int32} {P R : List Nat} {ps st : Int32} (h : trS μ n H D P R ps st) (v : Int32) : trS (wr μ 24 8 v) n H D P R ps v :=
  ⟨datX_f (wr_f _ _ _ _ (by decide)) (wr_f _ _ _ _ (by decide)) h.d, roaX_f (wr_f _ _ _ _ (by decide)) (wr_f _ _ _ _ (by decide)) h.r, by rw [wr_o (by omega)]; exact h.s6, by rw [wr_o (by omega)]; exact h.s7, wr_s _ _ _ _, fun i hi => by rw [wr_f _ _ _ _ (by decide)]; exact h.cs i hi, by rw [wr_o (by omega)]; exact h.s9, fun o ho => by rw [wr_f _ _ _ _ (by decide)]; exact h.ab o ho⟩
/-- some push from which none is late -/
def ltS (D : Nat → Nat → Int32) (hs : Nat → Nat) (n : Nat) (st : Int32) (P R : List Nat) (v : Nat) : Bool := decide ((tQ D hs n (nI v) st P R (2 ^ n - 1)).2.2.2 = 0)
def ltL (D : Nat → Nat → Int32) (hs : Nat → Nat) (n : Nat) (ps : Int32) (P R : List Nat) (v : Nat) : Bool := decide ((tQ D hs n ps (nI v) P R (2 ^ n - 1)).2.2.2 = 0)
theorem x_strL {n H : Nat} {D : Nat → Nat → Int32} {hs : Nat → Nat} {st : Int32} {P R : List Nat} (hf : fixO n H D hs P R) : ∀ (r i fu : Nat) (μ : Mem) (ps : Int32), i + r = 61 → r < fu → trS μ n H D P R ps st → ∃ ν, fX7_strength_L27 fu (nI i) μ = some (fsF (ltS D hs n st P R) r i, ν) ∧ (∀ b, b < 24 ∨ 29 < b → ν b = μ b)
  | 0, i, fu + 1, μ, ps, h1, _, ht => by
    have hlt : (60 : Int32) < nI i := by rw [show (60 : Int32) = nI 60 from rfl, lt_nI (by omega) (by omega)]; omega
    exact ⟨μ, by rw [fX7_strength_L27, if_pos hlt, fsF], fun b _ => rfl⟩
  | r + 1, i, fu + 1, μ, ps, h1, h2, ht => by
    have hlt : ¬ (60 : Int32) < nI i := by rw [show (60 : Int32) = nI 60 from rfl, lt_nI (by omega) (by omega)]; omega
    obtain ⟨m1, m2, a1, a2, a3, a4, a5⟩ := x_rf hf (ht.w7 (nI i))
    have hl := (tS_lt (D := D) (hs := hs) (ps := nI i) (st := st) (P := P) hf.1 hf.2.2.2 (all_lt n)).2.1
    rw [fX7_strength_L27, if_neg hlt, lb_e, a1, bv_e, a2, bv_e, a5.2.2.2.2.2.1, show (0 : Int32) = nI 0 from rfl]
    by_cases e : (tQ D hs n (nI i) st P R (2 ^ n - 1)).2.2.2 = 0
    · rw [if_pos (by rw [e]), fsF, if_pos (by unfold ltS; rw [decide_eq_true e])]
      exact ⟨m2, rfl, fun b hb => by rw [a3 b (by omega) (by omega) (by omega), wr_f _ _ _ _ (by omega)]⟩
    · obtain ⟨ν, q1, q2⟩ := x_strL hf r (i + 1) fu m2 (nI i) (by omega) (by omega) a4
      rw [if_neg (by rw [eq_nI (by omega) (by omega)]; exact e), fsF, if_neg (by unfold ltS; rw [decide_eq_false e]; decide), lb_e, nI_s1, q1]
      exact ⟨ν, rfl, fun b hb => by rw [q2 b hb, a3 b (by omega) (by omega) (by omega), wr_f _ _ _ _ (by omega)]⟩
theorem wlk_w {κ : Mem} {n H : Nat} {D : Nat → Nat → Int32} {P R : List Nat} {ps : Int32} (h : wlkM κ n H D P R ps) (v : Int32) : wlkM (wr κ 1 30 (v - 10)) n H D P R v := by
  obtain ⟨h1, h2, h3, h4, h5⟩ := h
  have hn := h1.2.1
  refine ⟨⟨by simp only [wr_i, Nat.reduceEqDiff, false_and, and_false, and_self, and_true, true_and, if_false, if_true, reduceIte, ne_eq, not_true_eq_false, not_false_eq_true]; exact h1.1, hn, fun o ho => ?_⟩, ⟨by simp only [wr_i, Nat.reduceEqDiff, false_and, and_false, and_self, and_true, true_and, if_false, if_true, reduceIte, ne_eq, not_true_eq_false, not_false_eq_true]; exact h2.1, h2.2.1, fun i hi => by rw [wr_f _ _ _ _ (by decide), wr_f _ _ _ _ (by decide)]; exact h2.2.2 i hi⟩, fun i hi => by rw [wr_o (by omega)]; exact h3 i hi, fun i hi => by rw [wr_o (by omega)]; exact h4 i hi, by rw [wr_s, Int32.sub_add_cancel]⟩
  rw [wr_o (by omega), wr_f _ _ _ _ (by decide), wr_o (by omega), wr_o (by omega), wr_o (by omega)]
  exact h1.2.2 o ho
theorem wlk_v {κ : Mem} {n H : Nat} {D : Nat → Nat → Int32} {P R : List Nat} {ps : Int32} (h : wlkM κ n H D P R ps) (v : Int32) : wlkM (wr κ 1 31 v) n H D P R ps := by
  obtain ⟨h1, h2, h3, h4, h5⟩ := h
  have hn := h1.2.1
  refine ⟨⟨by simp only [wr_i, Nat.reduceEqDiff, false_and, and_false, and_self, and_true, true_and, if_false, if_true, reduceIte, ne_eq, not_true_eq_false, not_false_eq_true]; exact h1.1, hn, fun o ho => ?_⟩, ⟨by simp only [wr_i, Nat.reduceEqDiff, false_and, and_false, and_self, and_true, true_and, if_false, if_true, reduceIte, ne_eq, not_true_eq_false, not_false_eq_true]; exact h2.1, h2.2.1, fun i hi => by rw [wr_f _ _ _ _ (by decide), wr_f _ _ _ _ (by decide)]; exact h2.2.2 i hi⟩, fun i hi => by rw [wr_o (by omega)]; exact h3 i hi, fun i hi => by rw [wr_o (by omega)]; exact h4 i hi, by rw [wr_o (by omega)]; exact h5⟩
  rw [wr_o (by omega), wr_f _ _ _ _ (by decide), wr_o (by omega), wr_o (by omega), wr_o (by omega)]
  exact h1.2.2 o ho
theorem m_strL {n H : Nat} {D : Nat → Nat → Int32} {hs : Nat → Nat} {st : Int32} {P R : List Nat} (hf : fixO n H D hs P R) (x1 : Int32) : ∀ (i fu : Nat) (κ : Mem) (ps : Int32), i ≤ 61 → i < fu → wlkM κ n H D P R ps → κ 1 31 = st → ∃ ξ, fX8_strength_L14 fu x1 (fsF (ltS D hs n st P R) (61 - i) i) (pI i) κ = some (fsF (ltS D hs n st P R) 61 0, ξ) ∧ (∀ b, b ≠ 0 → b ≠ 1 → b ≠ 14 → ξ b = κ b) ∧ (∀ j, j ≠ 29 → j ≠ 30 → j ≠ 31 → j ≠ 32 → j ≠ 33 → ξ 0 j = κ 0 j) ∧ (∀ j, j ≠ 30 → ξ 1 j = κ 1 j) ∧ ξ 1 30 = x1
  | 0, fu + 1, κ, ps, h1, _, hw, hst => by
    rw [fX8_strength_L14, if_pos (by decide), show (30 : Int32) = nI 30 from rfl, gr_n (by decide) (by decide), lb_e, cl_n (by decide)]
    exact ⟨_, rfl, fun b _ hb _ => wr_f _ _ _ _ hb, fun j _ _ _ _ _ => by rw [wr_f _ _ _ _ (by decide)], fun j hj => wr_o (by omega), wr_s _ _ _ _⟩
  | i + 1, fu + 1, κ, ps, h1, h2, hw, hst => by
    have hlt : ¬ nI i < 0 := nI_pos (by omega)
    obtain ⟨k1, b1, b2, b3, b4⟩ := m_whole (κ := wr κ 1 30 (nI i - 10)) (st := st) hf (wlk_w hw (nI i)) (by rw [wr_o (by omega)]; exact hst)
    have hl := (tS_lt (D := D) (hs := hs) (ps := nI i) (st := st) (P := P) hf.1 hf.2.2.2 (all_lt n)).2.1
    have hw2 : wlkM k1 n H D P R (nI i) := wlkM_f (wlk_w hw (nI i)) b2 (b3 3 (by decide) (by decide) (by decide) (by decide) (by decide)) (b3 5 (by decide) (by decide) (by decide) (by decide) (by decide))
    obtain ⟨ξ, q1, q2, q3, q4, q5⟩ := m_strL (st := st) hf x1 i fu k1 (nI i) (by omega) (by omega) hw2 (by rw [b2 1 (by decide) (by decide), wr_o (by omega)]; exact hst)
    refine ⟨ξ, ?_, fun b c0 c1 c2 => by rw [q2 b c0 c1 c2, b2 b c0 c2, wr_f _ _ _ _ c1], fun j c1 c2 c3 c4 c5 => by rw [q3 j c1 c2 c3 c4 c5, b3 j c1 c2 c3 c4 c5, wr_f _ _ _ _ (by decide)], fun j hj => by rw [q4 j hj, b2 1 (by decide) (by decide), wr_o (by omega)], q5⟩
    rw [show 61 - i = (61 - (i + 1)) + 1 by omega, fsF] at q1
    rw [pI, fX8_strength_L14, if_neg hlt, show (30 : Int32) = nI 30 from rfl, gr_n (by decide) (by decide), lb_e, cl_n (by decide), b1, bi_e, b4.2.2.2.2.1]
    unfold fX8_strength_J46
    rw [lb_e, lb_e, pI_s]
    by_cases e : (tQ D hs n (nI i) st P R (2 ^ n - 1)).2.2.2 = 0
    · rw [if_pos (by unfold ltS; rw [decide_eq_true e])] at q1
      rw [if_pos (by rw [e]; rfl)]; exact q1
    · rw [if_neg (by unfold ltS; rw [decide_eq_false e]; decide)] at q1
      rw [if_neg (by rw [show (0 : Int32) = nI 0 from rfl, eq_nI (by omega) (by omega)]; exact e)]; exact q1
theorem st_strength : ST_strength Inv := by
  intro μ κ h
  obtain ⟨n, H, D, hs, P, R, ps, st, g⟩ := h.main
  have hn := g.ok.n5
  obtain ⟨f, hf⟩ := FU_s 100 (by decide)
  obtain ⟨m1, m2, a1, a2, a3, a4⟩ := x_tkst st g.fix g.shp
  obtain ⟨ν, q1, q2⟩ := x_strL g.fix 61 0 FU m2 ps (by omega) (by omega) a4
  obtain ⟨ξ, r1, r2, r3, r4, r5⟩ := m_strL g.fix (κ 1 30) 61 FU κ ps (by omega) (by omega) g.wlk g.sm
  have q1 : fX7_strength_L27 FU 0 m2 = _ := q1
  have r1 : fX8_strength_L14 FU (κ 1 30) (-4) 60 κ = _ := r1
  unfold fX7_strength fX8_strength
  rw [x_every g.dx.1 hn, bi_e, g.sx, a1, bv_e, a2, bv_e, lb_e, q1, show (30 : Int32) = nI 30 from rfl, gr_n (by decide) (by decide), lb_e, lb_e, lb_e, cl_n (by decide), r1]
  refine ⟨_, _, _, rfl, rfl, h.f (fun b hb => by rw [q2 b (by omega), a3 b (by omega) (by omega) (by omega) (by omega)]) (AgM0.n r2 r3) (fun j _ => ?_)⟩
  by_cases e : j = 30
  · rw [e, r5]
  · exact r4 j e
theorem x_latL {n H : Nat} {D : Nat → Nat → Int32} {hs : Nat → Nat} {ps : Int32} {P R : List Nat} (hf : fixO n H D hs P R) : ∀ (i fu : Nat) (μ : Mem) (st : Int32), i ≤ 61 → i < fu → trS μ n H D P R ps st → ∃ ν, fX7_latest_L28 fu (pI i) μ = some (lsF (ltL D hs n ps P R) i, ν) ∧ (∀ b, b < 24 ∨ 29 < b → ν b = μ b)
  | 0, fu + 1, μ, st, h1, _, ht => by
    exact ⟨μ, by rw [fX7_latest_L28, if_pos (by decide), lsF], fun b _ => rfl⟩
  | i + 1, fu + 1, μ, st, h1, h2, ht => by
    have hlt : ¬ nI i < 0 := nI_pos (by omega)
    obtain ⟨m1, m2, a1, a2, a3, a4, a5⟩ := x_rf hf (ht.w8 (nI i))
    have hl := (tS_lt (D := D) (hs := hs) (ps := ps) (st := nI i) (P := P) hf.1 hf.2.2.2 (all_lt n)).2.1
    rw [pI, fX7_latest_L28, if_neg hlt, lb_e, a1, bv_e, a2, bv_e, a5.2.2.2.2.2.1, show (0 : Int32) = nI 0 from rfl]
    by_cases e : (tQ D hs n ps (nI i) P R (2 ^ n - 1)).2.2.2 = 0
    · rw [if_pos (by rw [e]), lsF, if_pos (by unfold ltL; rw [decide_eq_true e])]
      exact ⟨m2, rfl, fun b hb => by rw [a3 b (by omega) (by omega) (by omega), wr_f _ _ _ _ (by omega)]⟩
    · obtain ⟨ν, q1, q2⟩ := x_latL hf i fu m2 (nI i) (by omega) (by omega) a4
      rw [if_neg (by rw [eq_nI (by omega) (by omega)]; exact e), lsF, if_neg (by unfold ltL; rw [decide_eq_false e]; decide), lb_e, pI_s, q1]
      exact ⟨ν, rfl, fun b hb => by rw [q2 b hb, a3 b (by omega) (by omega) (by omega), wr_f _ _ _ _ (by omega)]⟩
theorem m_latL {n H : Nat} {D : Nat → Nat → Int32} {hs : Nat → Nat} {ps : Int32} {P R : List Nat} (hf : fixO n H D hs P R) (x1 : Int32) : ∀ (r i fu : Nat) (κ : Mem), i + r = 61 → r < fu → wlkM κ n H D P R ps → ∃ ξ, fX8_latest_L13 fu x1 (lsF (ltL D hs n ps P R) i) (nI i) κ = some (lsF (ltL D hs n ps P R) 61, ξ) ∧ (∀ b, b ≠ 0 → b ≠ 1 → b ≠ 14 → ξ b = κ b) ∧ (∀ j, j ≠ 29 → j ≠ 30 → j ≠ 31 → j ≠ 32 → j ≠ 33 → ξ 0 j = κ 0 j) ∧ (∀ j, j ≠ 31 → ξ 1 j = κ 1 j) ∧ ξ 1 31 = x1
  | 0, i, fu + 1, κ, h1, _, hw => by
    have e : i = 61 := by omega
    subst e
    rw [fX8_latest_L13, if_pos (by decide), show (31 : Int32) = nI 31 from rfl, gr_n (by decide) (by decide), lb_e, cl_n (by decide)]
    exact ⟨_, rfl, fun b _ hb _ => wr_f _ _ _ _ hb, fun j _ _ _ _ _ => by rw [wr_f _ _ _ _ (by decide)], fun j hj => wr_o (by omega), wr_s _ _ _ _⟩
  | r + 1, i, fu + 1, κ, h1, h2, hw => by
    have hlt : ¬ (60 : Int32) < nI i := by rw [show (60 : Int32) = nI 60 from rfl, lt_nI (by omega) (by omega)]; omega
    obtain ⟨k1, b1, b2, b3, b4⟩ := m_whole (κ := wr κ 1 31 (nI i)) (st := nI i) hf (wlk_v hw (nI i)) (wr_s _ _ _ _)
    have hl := (tS_lt (D := D) (hs := hs) (ps := ps) (st := nI i) (P := P) hf.1 hf.2.2.2 (all_lt n)).2.1
    have hw2 : wlkM k1 n H D P R ps := wlkM_f (wlk_v hw (nI i)) b2 (b3 3 (by decide) (by decide) (by decide) (by decide) (by decide)) (b3 5 (by decide) (by decide) (by decide) (by decide) (by decide))
    obtain ⟨ξ, q1, q2, q3, q4, q5⟩ := m_latL hf x1 r (i + 1) fu k1 (by omega) (by omega) hw2
    refine ⟨ξ, ?_, fun b c0 c1 c2 => by rw [q2 b c0 c1 c2, b2 b c0 c2, wr_f _ _ _ _ c1], fun j c1 c2 c3 c4 c5 => by rw [q3 j c1 c2 c3 c4 c5, b3 j c1 c2 c3 c4 c5, wr_f _ _ _ _ (by decide)], fun j hj => by rw [q4 j hj, b2 1 (by decide) (by decide), wr_o (by omega)], q5⟩
    rw [lsF] at q1
    rw [fX8_latest_L13, if_neg hlt, show (31 : Int32) = nI 31 from rfl, gr_n (by decide) (by decide), lb_e, cl_n (by decide), b1, bi_e, b4.2.2.2.2.1]
    unfold fX8_latest_J44
    rw [lb_e, lb_e, nI_s1]
    by_cases e : (tQ D hs n ps (nI i) P R (2 ^ n - 1)).2.2.2 = 0
    · rw [if_pos (by unfold ltL; rw [decide_eq_true e])] at q1
      rw [if_pos (by rw [e]; rfl)]; exact q1
    · rw [if_neg (by unfold ltL; rw [decide_eq_false e]; decide)] at q1
      rw [if_neg (by rw [show (0 : Int32) = nI 0 from rfl, eq_nI (by omega) (by omega)]; exact e)]; exact q1
theorem st_latest : ST_latest Inv := by
  intro μ κ h
  obtain ⟨n, H, D, hs, P, R, ps, st, g⟩ := h.main
  have hn := g.ok.n5
  obtain ⟨f, hf⟩ := FU_s 100 (by decide)
  obtain ⟨m1, m2, a1, a2, a3, a4⟩ := x_tkst st g.fix g.shp
  obtain ⟨ν, q1, q2⟩ := x_latL g.fix 61 FU m2 st (by omega) (by omega) a4
  obtain ⟨ξ, r1, r2, r3, r4, r5⟩ := m_latL g.fix (κ 1 31) 61 0 FU κ (by omega) (by omega) g.wlk
  have q1 : fX7_latest_L28 FU 60 m2 = _ := q1
  have r1 : fX8_latest_L13 FU (κ 1 31) (-4) 0 κ = _ := r1
  unfold fX7_latest fX8_latest
  rw [x_every g.dx.1 hn, bi_e, g.sx, a1, bv_e, a2, bv_e, lb_e, q1, show (31 : Int32) = nI 31 from rfl, gr_n (by decide) (by decide), lb_e, lb_e, lb_e, cl_n (by decide), r1]
  refine ⟨_, _, _, rfl, rfl, h.f (fun b hb => by rw [q2 b (by omega), a3 b (by omega) (by omega) (by omega) (by omega)]) (AgM0.n r2 r3) (fun j _ => ?_)⟩
  by_cases e : j = 31
  · rw [e, r5]
  · exact r4 j e
