theorem m_i1 (x : Int32) (μ : Mem) : fX8_in x.toInt64 (0 : Int64) (1 : Int64) μ = some (if (0 : Int32) ≤ x ∧ x ≤ (1 : Int32) then 1 else 0, μ) := m_inl (by decide) (by decide) μ
theorem m_i2 (x : Int32) (μ : Mem) : fX8_in x.toInt64 (0 : Int64) (2 : Int64) μ = some (if (0 : Int32) ≤ x ∧ x ≤ (2 : Int32) then 1 else 0, μ) := m_inl (by decide) (by decide) μ
theorem m_i3 (x : Int32) (μ : Mem) : fX8_in x.toInt64 (0 : Int64) (3 : Int64) μ = some (if (0 : Int32) ≤ x ∧ x ≤ (3 : Int32) then 1 else 0, μ) := m_inl (by decide) (by decide) μ
theorem m_i4 (x : Int32) (μ : Mem) : fX8_in x.toInt64 (0 : Int64) (4 : Int64) μ = some (if (0 : Int32) ≤ x ∧ x ≤ (4 : Int32) then 1 else 0, μ) := m_inl (by decide) (by decide) μ
theorem m_i9 (x : Int32) (μ : Mem) : fX8_in x.toInt64 (0 : Int64) (9 : Int64) μ = some (if (0 : Int32) ≤ x ∧ x ≤ (9 : Int32) then 1 else 0, μ) := m_inl (by decide) (by decide) μ
theorem m_i10 (x : Int32) (μ : Mem) : fX8_in x.toInt64 (0 : Int64) (10 : Int64) μ = some (if (0 : Int32) ≤ x ∧ x ≤ (10 : Int32) then 1 else 0, μ) := m_inl (by decide) (by decide) μ
theorem m_i20 (x : Int32) (μ : Mem) : fX8_in x.toInt64 (0 : Int64) (20 : Int64) μ = some (if (0 : Int32) ≤ x ∧ x ≤ (20 : Int32) then 1 else 0, μ) := m_inl (by decide) (by decide) μ
theorem m_i40 (x : Int32) (μ : Mem) : fX8_in x.toInt64 (0 : Int64) (40 : Int64) μ = some (if (0 : Int32) ≤ x ∧ x ≤ (40 : Int32) then 1 else 0, μ) := m_inl (by decide) (by decide) μ
theorem m_i45 (x : Int32) (μ : Mem) : fX8_in x.toInt64 (0 : Int64) (45 : Int64) μ = some (if (0 : Int32) ≤ x ∧ x ≤ (45 : Int32) then 1 else 0, μ) := m_inl (by decide) (by decide) μ
theorem m_i60 (x : Int32) (μ : Mem) : fX8_in x.toInt64 (0 : Int64) (60 : Int64) μ = some (if (0 : Int32) ≤ x ∧ x ≤ (60 : Int32) then 1 else 0, μ) := m_inl (by decide) (by decide) μ
theorem m_i99 (x : Int32) (μ : Mem) : fX8_in x.toInt64 (0 : Int64) (99 : Int64) μ = some (if (0 : Int32) ≤ x ∧ x ≤ (99 : Int32) then 1 else 0, μ) := m_inl (by decide) (by decide) μ
theorem m_i127 (x : Int32) (μ : Mem) : fX8_in x.toInt64 (0 : Int64) (127 : Int64) μ = some (if (0 : Int32) ≤ x ∧ x ≤ (127 : Int32) then 1 else 0, μ) := m_inl (by decide) (by decide) μ
theorem m_i199 (x : Int32) (μ : Mem) : fX8_in x.toInt64 (0 : Int64) (199 : Int64) μ = some (if (0 : Int32) ≤ x ∧ x ≤ (199 : Int32) then 1 else 0, μ) := m_inl (by decide) (by decide) μ
theorem m_i19 (x : Int32) (μ : Mem) : fX8_in x.toInt64 (1 : Int64) (9 : Int64) μ = some (if (1 : Int32) ≤ x ∧ x ≤ (9 : Int32) then 1 else 0, μ) := m_inl (by decide) (by decide) μ
theorem m_i160 (x : Int32) (μ : Mem) : fX8_in x.toInt64 (1 : Int64) (60 : Int64) μ = some (if (1 : Int32) ≤ x ∧ x ≤ (60 : Int32) then 1 else 0, μ) := m_inl (by decide) (by decide) μ
theorem m_iv (x v : Int32) (μ : Mem) : fX8_in x.toInt64 (0 : Int64) v.toInt64 μ = some (if (0 : Int32) ≤ x ∧ x ≤ v then 1 else 0, μ) := m_inl (by decide) rfl μ
theorem wn1 {x : Int32} {n : Nat} (hn : n + 1 < 2 ^ 31) : ((1 : Int32) ≤ x ∧ x ≤ nI n) ↔ ∃ k, k < n ∧ x = nI (k + 1) := by
  constructor
  · intro h
    have h0 : (0 : Int32) ≤ x := by
      have := h.1
      rw [i_le] at this ⊢
      rw [show (1 : Int32).toInt = 1 from rfl] at this
      rw [show (0 : Int32).toInt = 0 from rfl]
      omega
    obtain ⟨o, ho, rfl⟩ := (wn hn).1 ⟨h0, h.2⟩
    have h1 := h.1
    rw [show (1 : Int32) = nI 1 from rfl, le_nI (by omega) (by omega)] at h1
    exact ⟨o - 1, by omega, by rw [show o - 1 + 1 = o by omega]⟩
  · rintro ⟨k, hk, rfl⟩
    exact ⟨by rw [show (1 : Int32) = nI 1 from rfl, le_nI (by omega) (by omega)]; omega, by rw [le_nI (by omega) (by omega)]; omega⟩
theorem st_rule : ST_rule Inv := by
  intro μ κ h x
  obtain ⟨n, H, D, hs, P, R, ps, st, g⟩ := h.main
  have hn := g.ok.n5
  have um : κ 1 30 + 10 = ps := g.um
  unfold fX7_rule fX8_rule
  by_cases e0 : x = 0
  · rw [if_pos e0, if_pos e0]; exact ⟨_, _, _, rfl, by rw [g.rx.1, g.rm.1], h⟩
  by_cases e1 : x = 1
  · simp only [if_neg e0]; rw [if_pos e1, if_pos e1]; exact ⟨_, _, _, rfl, by rw [g.dx.1, g.nm], h⟩
  by_cases e2 : x = 2
  · simp only [if_neg e0, if_neg e1]; rw [if_pos e2, if_pos e2, m_push, bi_e, um, g.ux]; exact ⟨_, _, _, rfl, rfl, h⟩
  by_cases e3 : x = 3
  · simp only [if_neg e0, if_neg e1, if_neg e2]; rw [if_pos e3, if_pos e3, g.sx]; exact ⟨_, _, _, rfl, congrArg (fun v => some (v, κ)) g.sm, h⟩
  by_cases e4 : x = 4
  · simp only [if_neg e0, if_neg e1, if_neg e2, if_neg e3]
    have q : fX8_codeOf (20 : Int32) κ = _ := m_code (r := 20) g.nm g.pm hn (by decide)
    rw [if_pos e4, if_pos e4, g.dx.1, x_number (a := 6) g.px hn, q]; exact ⟨_, _, _, rfl, rfl, h⟩
  by_cases e5 : x = 5
  · simp only [if_neg e0, if_neg e1, if_neg e2, if_neg e3, if_neg e4]
    have q : fX8_codeOf (25 : Int32) κ = _ := m_code (r := 25) g.nm g.qm hn (by decide)
    rw [if_pos e5, if_pos e5, g.dx.1, x_number (a := 7) g.qx hn, q]; exact ⟨_, _, _, rfl, rfl, h⟩
  by_cases e6 : x = 6
  · simp only [if_neg e0, if_neg e1, if_neg e2, if_neg e3, if_neg e4, if_neg e5]
    have q : fX4_sum 3 (2 : Int32) μ = _ := x_sum (w := 2) g.dx (by decide)
    rw [if_pos e6, if_pos e6, q, g.nm, bt_all n (by omega), m_wt g.datM (pow5 n (by omega)).1]; exact ⟨_, _, _, rfl, rfl, h⟩
  simp only [if_neg e0, if_neg e1, if_neg e2, if_neg e3, if_neg e4, if_neg e5, if_neg e6]
  exact ⟨_, _, _, rfl, rfl, h⟩
theorem st_house : ST_house Inv := by
  intro μ κ h x y
  obtain ⟨n, H, D, hs, P, R, ps, st, g⟩ := h.main
  have h6 := g.ok.h6
  unfold fX7_house fX8_house fX7_house_J24 fX8_house_J24 fX8_house_J51
  rw [x_within, bi_e, if_10, m_inl (a' := 1) (b' := κ 0 3) (by decide) rfl, bi_e, if_10, x_within, bi_e, if_10, m_inl (a' := 0) (b' := 1) (by decide) (by decide), bi_e, if_10, g.rx.1, g.rm.1]
  by_cases hc : (1 : Int32) ≤ x ∧ x ≤ nI H
  · rw [if_pos hc, if_pos hc]
    obtain ⟨k, hk, rfl⟩ := (wn1 (by omega)).1 hc
    by_cases hd : (0 : Int32) ≤ y ∧ y ≤ 1
    · rw [if_pos hd, if_pos hd]
      obtain ⟨w, hw, rfl⟩ := (wn (n := 1) (by decide)).1 hd
      rw [x_oh g.rx hk hw, bi_e, nI_sm1, gr_n (by omega) (by omega), gr_n (by omega) (by omega), cl_n (by omega), (g.rm.2.2 k hk).1, (g.rm.2.2 k hk).2]
      rcases (show w = 0 ∨ w = 1 by omega) with rfl | rfl
      · exact ⟨_, _, _, rfl, rfl, h⟩
      · exact ⟨_, _, _, rfl, rfl, h⟩
    · rw [if_neg hd, if_neg hd]; exact ⟨_, _, _, rfl, rfl, h⟩
  · rw [if_neg hc, if_neg hc]; exact ⟨_, _, _, rfl, rfl, h⟩
theorem st_order : ST_order Inv := by
  intro μ κ h x y
  obtain ⟨n, H, D, hs, P, R, ps, st, g⟩ := h.main
  have hn := g.ok.n5
  unfold fX7_order fX8_order fX7_order_J18
  rw [x_isOrder g.dx.1 hn, bi_e, if_10, m_isOrder g.nm hn, bi_e, if_10, x_within, bi_e, if_10]
  by_cases hc : ∃ o, o < n ∧ x = nI o
  · rw [if_pos hc, if_pos hc]
    obtain ⟨o, ho, rfl⟩ := hc
    have c := g.c0 o ho
    by_cases hd : (0 : Int32) ≤ y ∧ y ≤ 6
    · rw [if_pos hd]
      obtain ⟨w, hw, rfl⟩ := (wn (n := 6) (by decide)).1 hd
      rcases (show w = 0 ∨ w = 1 ∨ w = 2 ∨ w = 3 ∨ w = 4 ∨ w = 5 ∨ w = 6 by omega) with rfl | rfl | rfl | rfl | rfl | rfl | rfl
      · rw [if_neg (by decide), if_pos (by decide), x_of g.dx ho (by decide), gr_n (by omega) (by omega), cl_n (by omega), ← c.1]; exact ⟨_, _, _, rfl, rfl, h⟩
      · rw [if_neg (by decide), if_neg (by decide), if_pos (by decide), x_of g.dx ho (by decide), gr_n (by omega) (by omega), cl_n (by omega), ← g.dm o ho]; exact ⟨_, _, _, rfl, rfl, h⟩
      · rw [if_neg (by decide), if_neg (by decide), if_neg (by decide), if_pos (by decide), x_of g.dx ho (by decide), show (5 : Int32) = nI 5 from rfl, nI_add, gr_n (by omega) (by omega), cl_n (by omega), ← c.2.1]; exact ⟨_, _, _, rfl, rfl, h⟩
      · rw [if_neg (by decide), if_neg (by decide), if_neg (by decide), if_neg (by decide), if_pos (by decide), x_of g.dx ho (by decide), show (10 : Int32) = nI 10 from rfl, nI_add, gr_n (by omega) (by omega), cl_n (by omega), ← c.2.2.1]; exact ⟨_, _, _, rfl, rfl, h⟩
      · rw [if_neg (by decide), if_neg (by decide), if_neg (by decide), if_neg (by decide), if_neg (by decide), if_pos (by decide), x_of g.dx ho (by decide), show (15 : Int32) = nI 15 from rfl, nI_add, gr_n (by omega) (by omega), cl_n (by omega), ← c.2.2.2]; exact ⟨_, _, _, rfl, rfl, h⟩
      · have q : fX8_placeOf (20 : Int32) (nI o) κ = _ := m_place (r := 20) g.pm hn (by decide) g.hP ho
        rw [if_pos (by decide), if_pos (by decide), if_neg (by decide), if_neg (by decide), if_neg (by decide), if_neg (by decide), if_neg (by decide), if_pos (by decide), g.dx.1, x_place (a := 6) g.px hn g.hP ho, q]; exact ⟨_, _, _, rfl, rfl, h⟩
      · have q : fX8_placeOf (25 : Int32) (nI o) κ = _ := m_place (r := 25) g.qm hn (by decide) g.hR ho
        rw [if_pos (by decide), if_neg (by decide), if_neg (by decide), if_neg (by decide), if_neg (by decide), if_neg (by decide), if_neg (by decide), if_neg (by decide), if_pos (by decide), g.dx.1, x_place (a := 7) g.qx hn g.hR ho, q]; exact ⟨_, _, _, rfl, rfl, h⟩
    · rw [if_neg hd, if_neg (fun e => hd (by subst e; decide)), if_neg (fun e => hd (by subst e; decide)), if_neg (fun e => hd (by subst e; decide)), if_neg (fun e => hd (by subst e; decide)), if_neg (fun e => hd (by subst e; decide)), if_neg (fun e => hd (by subst e; decide)), if_neg (fun e => hd (by subst e; decide))]; exact ⟨_, _, _, rfl, rfl, h⟩
  · rw [if_neg hc, if_neg hc]; exact ⟨_, _, _, rfl, rfl, h⟩
theorem st_set : ST_set Inv := by
  intro μ κ h x y
  obtain ⟨n, H, D, hs, P, R, ps, st, g⟩ := h.main
  have hn := g.ok.n5
  have um : κ 1 30 + 10 = ps := g.um
  have sm : κ 1 31 = st := g.sm
  have hk : ∀ v, AgM0 κ (wr κ 1 v y) := fun v => AgM0.o (fun b hb => wr_f _ _ _ _ hb)
  unfold fX7_set fX8_set fX7_set_J22 fX7_set_J28 fX7_set_J51 fX7_set_J75 fX8_set_J47 fX8_set_J48 fX8_set_J55 fX8_puts
  simp only [x_within, bi_e, if_10, m_i60]
  by_cases e0 : x = 0
  · subst e0
    rw [if_pos (by decide), if_pos rfl, if_pos rfl]
    by_cases hd : (0 : Int32) ≤ y ∧ y ≤ 60
    · simp only [if_pos hd, if_true]
      obtain ⟨k, hk2, rfl⟩ := (wn (n := 60) (by decide)).1 hd
      simp only [lb_e]
      rw [g.ux, show (30 : Int32) = nI 30 from rfl, gr_n (by omega) (by omega), gr_n (by omega) (by omega), cl_n (by omega), bi_e, um]
      refine ⟨_, _, _, rfl, rfl, h.m (fun b hb => wr_f _ _ _ _ (by omega)) (AgM0.o (fun b hb => wr_f _ _ _ _ hb)) (fun j h1 h2 => wr_o (by omega)) ⟨n, H, D, hs, P, R, nI k, st, ⟨g.ok, g.hP, g.hR, ⟨k, by omega, rfl⟩, g.sk, ⟨by simp only [wr_i, Nat.reduceEqDiff, false_and, and_false, and_self, and_true, true_and, if_false, if_true, reduceIte, ne_eq, not_true_eq_false, not_false_eq_true]; exact g.dx.1, hn, fun o w ho hw => by rw [wr_f _ _ _ _ (by decide)]; exact g.dx.2.2 o w ho hw⟩, ⟨by simp only [wr_i, Nat.reduceEqDiff, false_and, and_false, and_self, and_true, true_and, if_false, if_true, reduceIte, ne_eq, not_true_eq_false, not_false_eq_true]; exact g.rx.1, g.rx.2.1, fun i hi => by rw [wr_f _ _ _ _ (by decide)]; exact g.rx.2.2 i hi⟩, fun i hi => by rw [wr_f _ _ _ _ (by decide)]; exact g.px i hi, fun i hi => by rw [wr_f _ _ _ _ (by decide)]; exact g.qx i hi, by simp only [wr_i, Nat.reduceEqDiff, false_and, and_false, and_self, and_true, true_and, if_false, if_true, reduceIte, ne_eq, not_true_eq_false, not_false_eq_true], by simp only [wr_i, Nat.reduceEqDiff, false_and, and_false, and_self, and_true, true_and, if_false, if_true, reduceIte, ne_eq, not_true_eq_false, not_false_eq_true]; exact g.sx, by simp only [wr_i, Nat.reduceEqDiff, false_and, and_false, and_self, and_true, true_and, if_false, if_true, reduceIte, ne_eq, not_true_eq_false, not_false_eq_true]; exact g.nm, ⟨by simp only [wr_i, Nat.reduceEqDiff, false_and, and_false, and_self, and_true, true_and, if_false, if_true, reduceIte, ne_eq, not_true_eq_false, not_false_eq_true]; exact g.rm.1, g.rm.2.1, fun i hi => by rw [wr_f _ _ _ _ (by decide), wr_f _ _ _ _ (by decide)]; exact g.rm.2.2 i hi⟩, fun o ho => by rw [wr_f _ _ _ _ (by decide)]; exact g.dm o ho, fun o ho => by rw [wr_o (by omega), wr_o (by omega), wr_o (by omega), wr_o (by omega)]; exact g.c0 o ho, fun i hi => by rw [wr_o (by omega)]; exact g.pm i hi, fun i hi => by rw [wr_o (by omega)]; exact g.qm i hi, ?_, by simp only [wr_i, Nat.reduceEqDiff, false_and, and_false, and_self, and_true, true_and, if_false, if_true, reduceIte, ne_eq, not_true_eq_false, not_false_eq_true]; exact g.sm⟩⟩⟩
      rw [wr_s, Int32.sub_add_cancel]
    · simp only [if_neg hd, if_true]; exact ⟨_, _, _, rfl, rfl, h⟩
  · by_cases e1 : x = 1
    · subst e1
      rw [if_pos (by decide), if_neg e0, if_neg e0, if_pos rfl]
      by_cases hd : (0 : Int32) ≤ y ∧ y ≤ 60
      · simp only [if_pos hd, if_neg e0]
        obtain ⟨k, hk2, rfl⟩ := (wn (n := 60) (by decide)).1 hd
        simp only [lb_e]
        rw [g.sx, show (31 : Int32) = nI 31 from rfl, gr_n (by omega) (by omega), gr_n (by omega) (by omega), cl_n (by omega), bi_e, sm, Int32.add_zero, Int32.sub_zero]
        refine ⟨_, _, _, rfl, rfl, h.m (fun b hb => wr_f _ _ _ _ (by omega)) (AgM0.o (fun b hb => wr_f _ _ _ _ hb)) (fun j h1 h2 => wr_o (by omega)) ⟨n, H, D, hs, P, R, ps, nI k, ⟨g.ok, g.hP, g.hR, g.pk, ⟨k, by omega, rfl⟩, ⟨by simp only [wr_i, Nat.reduceEqDiff, false_and, and_false, and_self, and_true, true_and, if_false, if_true, reduceIte, ne_eq, not_true_eq_false, not_false_eq_true]; exact g.dx.1, hn, fun o w ho hw => by rw [wr_f _ _ _ _ (by decide)]; exact g.dx.2.2 o w ho hw⟩, ⟨by simp only [wr_i, Nat.reduceEqDiff, false_and, and_false, and_self, and_true, true_and, if_false, if_true, reduceIte, ne_eq, not_true_eq_false, not_false_eq_true]; exact g.rx.1, g.rx.2.1, fun i hi => by rw [wr_f _ _ _ _ (by decide)]; exact g.rx.2.2 i hi⟩, fun i hi => by rw [wr_f _ _ _ _ (by decide)]; exact g.px i hi, fun i hi => by rw [wr_f _ _ _ _ (by decide)]; exact g.qx i hi, by simp only [wr_i, Nat.reduceEqDiff, false_and, and_false, and_self, and_true, true_and, if_false, if_true, reduceIte, ne_eq, not_true_eq_false, not_false_eq_true]; exact g.ux, by simp only [wr_i, Nat.reduceEqDiff, false_and, and_false, and_self, and_true, true_and, if_false, if_true, reduceIte, ne_eq, not_true_eq_false, not_false_eq_true], by simp only [wr_i, Nat.reduceEqDiff, false_and, and_false, and_self, and_true, true_and, if_false, if_true, reduceIte, ne_eq, not_true_eq_false, not_false_eq_true]; exact g.nm, ⟨by simp only [wr_i, Nat.reduceEqDiff, false_and, and_false, and_self, and_true, true_and, if_false, if_true, reduceIte, ne_eq, not_true_eq_false, not_false_eq_true]; exact g.rm.1, g.rm.2.1, fun i hi => by rw [wr_f _ _ _ _ (by decide), wr_f _ _ _ _ (by decide)]; exact g.rm.2.2 i hi⟩, fun o ho => by rw [wr_f _ _ _ _ (by decide)]; exact g.dm o ho, fun o ho => by rw [wr_o (by omega), wr_o (by omega), wr_o (by omega), wr_o (by omega)]; exact g.c0 o ho, fun i hi => by rw [wr_o (by omega)]; exact g.pm i hi, fun i hi => by rw [wr_o (by omega)]; exact g.qm i hi, by simp only [wr_i, Nat.reduceEqDiff, false_and, and_false, and_self, and_true, true_and, if_false, if_true, reduceIte, ne_eq, not_true_eq_false, not_false_eq_true]; exact g.um, by simp only [wr_i, Nat.reduceEqDiff, false_and, and_false, and_self, and_true, true_and, if_false, if_true, reduceIte, ne_eq, not_true_eq_false, not_false_eq_true]⟩⟩⟩
      · simp only [if_neg hd, if_neg e0, if_true]; exact ⟨_, _, _, rfl, rfl, h⟩
    · rw [if_neg (fun hc => ?_), if_neg e0, if_neg e1]
      · exact ⟨_, _, _, rfl, rfl, h⟩
      · obtain ⟨k, hk2, rfl⟩ := (wn (n := 1) (by decide)).1 hc
        rcases (show k = 0 ∨ k = 1 by omega) with rfl | rfl
        · exact e0 rfl
        · exact e1 rfl
theorem st_way : ST_way Inv := by
  intro μ κ h x y z
  obtain ⟨n, H, D, hs, P, R, ps, st, g⟩ := h.main
  have h6 := g.ok.h6
  unfold fX7_way fX8_way fX7_way_J40 fX8_way_J50 fX8_way_J51 fX7_way_J64
  simp only [x_within, bi_e, if_10, m_i60, m_iv, g.rx.1, g.rm.1]
  by_cases hc : (0 : Int32) ≤ x ∧ x ≤ nI H
  · simp only [if_pos hc]
    obtain ⟨a, ha, rfl⟩ := (wn (by omega)).1 hc
    by_cases hd : (0 : Int32) ≤ y ∧ y ≤ nI H
    · simp only [if_pos hd]
      obtain ⟨b, hb, rfl⟩ := (wn (by omega)).1 hd
      by_cases he : (0 : Int32) ≤ z ∧ z ≤ 60
      · simp only [if_pos he]
        rw [m_way g.rm g.um (by omega) (by omega), g.ux, bi_e]
        by_cases e : z ≤ ps
        · have q : fX4_minutesBetween 3 (nI a) (nI b) (0 : Int32) μ = _ := x_mb g.rx false (by omega) (by omega)
          rw [if_pos e, q, bi_e, decide_eq_false (Int32.not_lt.mpr e)]
          exact ⟨_, _, _, rfl, rfl, h⟩
        · have q : fX4_minutesBetween 3 (nI a) (nI b) (1 : Int32) μ = _ := x_mb g.rx true (by omega) (by omega)
          rw [if_neg e, q, bi_e, decide_eq_true (Int32.not_le.mp e)]
          exact ⟨_, _, _, rfl, rfl, h⟩
      · simp only [if_neg he]; exact ⟨_, _, _, rfl, rfl, h⟩
    · simp only [if_neg hd]; exact ⟨_, _, _, rfl, rfl, h⟩
  · simp only [if_neg hc]; exact ⟨_, _, _, rfl, rfl, h⟩
