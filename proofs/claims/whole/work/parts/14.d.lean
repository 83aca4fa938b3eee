/-! fits -/
def agF (f : Nat → Bool) : Nat → Bool
  | 0 => true
  | j + 1 => agF f j && f j
/-- what was seen, in both memories -/
def senO (μ κ : Mem) (q n : Nat) (oj : Nat → Nat) (mn : Nat → Int32) : Prop := q ≤ 6 ∧ n ≤ 5 ∧ μ 31 2 = nI q ∧ κ 0 39 = nI q ∧ ∀ j, j < q → oj j < n ∧ μ 32 j = nI (oj j) ∧ κ 15 (2 * j) = nI (oj j) ∧ μ 33 j = mn j ∧ κ 15 (2 * j + 1) = mn j
theorem senO_of {μ κ : Mem} {n : Nat} (hn : n ≤ 5) (h5 : κ 0 5 = nI n) (h : senI μ κ) : ∃ q oj mn, senO μ κ q n oj mn := by
  obtain ⟨q, n', hq, hn', b1, a1, a2, a3⟩ := h
  have e : n' = n := by rw [b1, eq_nI (by omega) (by omega)] at h5; omega
  subst e
  refine ⟨q, fun j => (μ 32 j).toNatClampNeg, fun j => μ 33 j, hq, hn', a1, a2, fun j hj => ?_⟩
  obtain ⟨o, ho, c1, c2, c3⟩ := a3 j hj
  have e : (μ 32 j).toNatClampNeg = o := by rw [c1, cl_n (by omega)]
  show (μ 32 j).toNatClampNeg < n' ∧ μ 32 j = nI (μ 32 j).toNatClampNeg ∧ _ = nI (μ 32 j).toNatClampNeg ∧ _
  rw [e]
  exact ⟨ho, c1, c2, rfl, c3.symm⟩
theorem senO_f {μ κ ν ξ : Mem} {q n : Nat} {oj : Nat → Nat} {mn : Nat → Int32} (h : senO μ κ q n oj mn) (a : ν 31 = μ 31) (b : ν 32 = μ 32) (c : ν 33 = μ 33) (e : ξ 0 39 = κ 0 39) (g : ξ 15 = κ 15) : senO ν ξ q n oj mn := by
  unfold senO; rw [a, b, c, e, g]; exact h
theorem x_agL {ν κ : Mem} {q n : Nat} {oj : Nat → Nat} {mn tm : Nat → Int32} (h : senO ν κ q n oj mn) (ht : ∀ o, o < n → ν 29 o = tm o) : ∀ (r j fu : Nat), j + r = q → r < fu → fX2_agreesWith_L4 29 fu (bI (agF (fun j => decide (tm (oj j) = mn j)) j)) (nI j) ν = some (bI (agF (fun j => decide (tm (oj j) = mn j)) q), ν)
  | 0, j, fu + 1, h1, _ => by
    have e : j = q := by omega
    subst e
    rw [fX2_agreesWith_L4, h.2.2.1, if_pos (Int32.le_refl _)]
    exact gd_t (by cases agF (fun j => decide (tm (oj j) = mn j)) j <;> decide)
  | r + 1, j, fu + 1, h1, h2 => by
    have hq := h.1
    have hn := h.2.1
    have qq := x_agL h ht r (j + 1) fu (by omega) (by omega)
    obtain ⟨c0, c1, -, c3, -⟩ := h.2.2.2.2 j (by omega)
    rw [fX2_agreesWith_L4, h.2.2.1, if_neg (by rw [le_nI (by omega) (by omega)]; omega)]
    unfold fX2_agreesWith_J37 fX2_agreesWith_J38
    simp only [lb_e, nI_s1]
    rw [gr_n (by omega) (by omega), gr_n (by omega) (by omega), cl_n (by omega), c1, gr_n (by omega) (by omega), cl_n (by omega), ht _ c0, c3]
    rw [agF] at qq
    cases e : agF (fun j => decide (tm (oj j) = mn j)) j with
    | false =>
      rw [e] at qq
      rw [if_pos (show bI false = (0 : Int32) from rfl)]
      exact qq
    | true =>
      rw [e] at qq
      rw [if_neg (show ¬ bI true = (0 : Int32) by decide)]
      by_cases e2 : tm (oj j) = mn j
      · rw [if_pos e2]
        rw [decide_eq_true e2] at qq
        exact qq
      · rw [if_neg e2]
        rw [decide_eq_false e2] at qq
        exact qq
theorem m_agL {ν κ : Mem} {q n : Nat} {oj : Nat → Nat} {mn tm : Nat → Int32} (h : senO ν κ q n oj mn) (ht : ∀ o, o < n → κ 14 o = tm o) : ∀ (r j fu : Nat), j + r = q → r < fu → fX8_isAsSeen_L9 fu (bI (agF (fun j => decide (tm (oj j) = mn j)) j)) (nI j) κ = some (bI (agF (fun j => decide (tm (oj j) = mn j)) q), κ)
  | 0, j, fu + 1, h1, _ => by
    have e : j = q := by omega
    subst e
    rw [fX8_isAsSeen_L9, h.2.2.2.1, if_pos (Int32.le_refl _)]
    exact gd_t (by cases agF (fun j => decide (tm (oj j) = mn j)) j <;> decide)
  | r + 1, j, fu + 1, h1, h2 => by
    have hq := h.1
    have hn := h.2.1
    have qq := m_agL h ht r (j + 1) fu (by omega) (by omega)
    obtain ⟨c0, -, c2, -, c4⟩ := h.2.2.2.2 j (by omega)
    rw [fX8_isAsSeen_L9, h.2.2.2.1, if_neg (by rw [le_nI (by omega) (by omega)]; omega)]
    unfold fX8_isAsSeen_J51 fX8_isAsSeen_J52
    simp only [lb_e, nI_s1]
    rw [show (2 : Int32) * nI j = nI (2 * j) by rw [show (2 : Int32) = nI 2 from rfl, pk_mul], nI_s1, gr_n (by omega) (by omega), cl_n (by omega), c2, gr_n (by omega) (by omega), gr_n (by omega) (by omega), cl_n (by omega), cl_n (by omega), ht _ c0, c4]
    rw [agF] at qq
    cases e : agF (fun j => decide (tm (oj j) = mn j)) j with
    | false =>
      rw [e] at qq
      rw [if_pos (show bI false = (0 : Int32) from rfl)]
      exact qq
    | true =>
      rw [e] at qq
      rw [if_neg (show ¬ bI true = (0 : Int32) by decide)]
      by_cases e2 : tm (oj j) = mn j
      · rw [if_pos e2]
        rw [decide_eq_true e2] at qq
        exact qq
      · rw [if_neg e2]
        rw [decide_eq_false e2] at qq
        exact qq
theorem x_agr {ν κ : Mem} {q n : Nat} {oj : Nat → Nat} {mn tm : Nat → Int32} (h : senO ν κ q n oj mn) (ht : ∀ o, o < n → ν 29 o = tm o) : fX2_agreesWith 29 ν = some (bI (agF (fun j => decide (tm (oj j) = mn j)) q), ν) := by
  have := h.1
  obtain ⟨f, hf⟩ := FU_s 100 (by decide)
  unfold fX2_agreesWith
  rw [lb_e, lb_e]
  exact x_agL h ht q 0 FU (by omega) (by omega)
theorem m_agr {ν κ : Mem} {q n : Nat} {oj : Nat → Nat} {mn tm : Nat → Int32} (h : senO ν κ q n oj mn) (ht : ∀ o, o < n → κ 14 o = tm o) : fX8_isAsSeen_L9 FU 1 0 κ = some (bI (agF (fun j => decide (tm (oj j) = mn j)) q), κ) := by
  have := h.1
  obtain ⟨f, hf⟩ := FU_s 100 (by decide)
  exact m_agL h ht q 0 FU (by omega) (by omega)
theorem st_ftL {n H q : Nat} {D : Nat → Nat → Int32} {hs : Nat → Nat} {ps st : Int32} {P R : List Nat} {oj : Nat → Nat} {mn : Nat → Int32} (x1 : Int32) (ok : DOK n H D hs) (hP : P ∈ perms n) (hR : R ∈ perms n) : ∀ (r c f1 f2 : Nat) (μ κ : Mem) (x4 x5 x6 : Int32), c + r = 5 ^ n → r < f1 → r < f2 → nxtS μ n H D P (pcnt n c) ps st → wlkR κ n H D P ps st → senO μ κ q n oj mn → ∃ rr ν ξ, fX7_fits_L41 f1 x1 (nI n) (nI (fct n)) x4 x5 x6 (nI (pcnt n c)) μ = some (rr, ν) ∧ fX8_fits_L33 f2 x1 (nI (num n R)) x4 x5 x6 (nI c) κ = some (rr, ξ) ∧ (∀ b, b < 24 ∨ 29 < b → ν b = μ b) ∧ (∀ b, b ≠ 0 → b ≠ 1 → b ≠ 14 → ξ b = κ b) ∧ (∀ j, j ≠ 29 → j ≠ 30 → j ≠ 31 → j ≠ 32 → j ≠ 33 → ξ 0 j = κ 0 j) ∧ (∀ j, (j < 25 ∨ 25 + n ≤ j) → ξ 1 j = κ 1 j) ∧ rowM ξ 25 n R
  | 0, c, f1 + 1, f2 + 1, μ, κ, x4, x5, x6, h1, _, _, ht, hw, hs0 => by
    have hn := ok.n5
    have h5 := pw5l hn
    have hF := fct_le n (by omega)
    have e : c = 5 ^ n := by omega
    have hle : nI (5 ^ n) ≤ nI c := by rw [e]; exact Int32.le_refl _
    have ek : pcnt n c = fct n := by rw [e]; exact pcnt_all hn
    have hle2 : nI (fct n) ≤ nI (pcnt n c) := by rw [ek]; exact Int32.le_refl _
    obtain ⟨ξ, b1, b2, b3, b4⟩ := m_relay (κ := κ) (r := 25) hw.1.1 hn (by decide) hR
    have b1 : fX8_laysCode (25 : Int32) (nI (num n R)) κ = _ := b1
    rw [fX7_fits_L41, if_pos hle2, fX8_fits_L33, m_codes hw.1.1 hn, bi_e, if_pos hle, b1, bi_e]
    unfold fX8_fits_J135
    have fr : (∀ b, b ≠ 0 → b ≠ 1 → b ≠ 14 → ξ b = κ b) ∧ (∀ j, j ≠ 29 → j ≠ 30 → j ≠ 31 → j ≠ 32 → j ≠ 33 → ξ 0 j = κ 0 j) ∧ (∀ j, (j < 25 ∨ 25 + n ≤ j) → ξ 1 j = κ 1 j) ∧ rowM ξ 25 n R := ⟨fun b _ hb _ => b2 b hb, fun j _ _ _ _ _ => by rw [b2 0 (by decide)], b3, b4⟩
    by_cases e0 : x1 = 0
    · rw [if_pos e0, if_pos e0]; exact ⟨_, _, _, rfl, rfl, fun b _ => rfl, fr⟩
    · rw [if_neg e0, if_neg e0]
      by_cases e1 : x1 = 1
      · rw [if_pos e1, if_pos e1]; exact ⟨_, _, _, rfl, rfl, fun b _ => rfl, fr⟩
      · rw [if_neg e1, if_neg e1]; exact ⟨_, _, _, rfl, rfl, fun b _ => rfl, fr⟩
  | r + 1, c, f1 + 1, f2 + 1, μ, κ, x4, x5, x6, h1, h2, h3, ht, hw, hs0 => by
    have hn := ok.n5
    have h5 := pw5l hn
    have hF := fct_le n (by omega)
    have hc : c < 5 ^ n := by omega
    have hlt : ¬ nI (5 ^ n) ≤ nI c := by rw [le_nI (by omega) (by omega)]; omega
    cases ho : okP n (dg n c) with
    | false =>
      have b1 := (m_lays (κ := κ) (r := 25) hw.1.1 hn (by decide) hc).2 ho
      have b1 : fX8_laysCode (25 : Int32) (nI c) κ = _ := b1
      have e := pc_no ho
      obtain ⟨rr, ν, ξ, q1, q2, q3⟩ := st_ftL (R := R) (oj := oj) (mn := mn) x1 ok hP hR r (c + 1) (f1 + 1) f2 μ κ x4 x5 x6 (by omega) (by omega) (by omega) (by rw [e]; exact ht) hw hs0
      rw [e] at q1
      refine ⟨rr, ν, ξ, q1, ?_, q3⟩
      rw [fX8_fits_L33, m_codes hw.1.1 hn, bi_e, if_neg hlt, b1, bi_e, if_pos rfl]
      unfold fX8_fits_J101
      rw [lb_e, nI_s1]
      exact q2
    | true =>
      obtain ⟨p1, p2, p3⟩ := pc_ok hn hc ho
      have hQ := prm_mem hn p2
      have hnum : num n (prm n (pcnt n c)) = c := by rw [p1]; exact num_dg n (by omega) c hc
      have hfQ : fixO n H D hs P (prm n (pcnt n c)) := ⟨hn, ok.hh, hP, hQ⟩
      obtain ⟨m2, m3, c1, c2, c3, c4, c5⟩ := x_rf hfQ (ht p2)
      obtain ⟨ν, g1, g2, g3⟩ := x_next hn p2 c4.cs
      obtain ⟨k1, b1, b2, b3, b4⟩ := (m_lays (κ := κ) (r := 25) hw.1.1 hn (by decide) hc).1 ho
      have b1 : fX8_laysCode (25 : Int32) (nI c) κ = _ := b1
      rw [← p1] at b4
      obtain ⟨hw1, hst1⟩ := wlkR_l hw b2 b3 b4
      obtain ⟨k2, d1, d2, d3, d4⟩ := m_whole hfQ hw1 hst1
      have hw2 : wlkM k2 n H D P (prm n (pcnt n c)) ps := wlkM_f hw1 d2 (d3 3 (by decide) (by decide) (by decide) (by decide) (by decide)) (d3 5 (by decide) (by decide) (by decide) (by decide) (by decide))
      have hst2 : k2 1 31 = st := by rw [d2 1 (by decide) (by decide)]; exact hst1
      have hxn : fX7_numberOf 25 (nI n) m3 = some (nI c, m3) := by rw [x_number c4.cs hn, hnum]
      have hs1 : senO m3 k2 q n oj mn := senO_f hs0 (c3 31 (by decide) (by decide) (by decide)) (c3 32 (by decide) (by decide) (by decide)) (c3 33 (by decide) (by decide) (by decide)) (by rw [d3 39 (by decide) (by decide) (by decide) (by decide) (by decide), b2 0 (by decide)]) (by rw [d2 15 (by decide) (by decide), b2 15 (by decide)])
      have hs2 : senO ν k2 q n oj mn := senO_f hs1 (g2 31 (by decide)) (g2 32 (by decide)) (g2 33 (by decide)) rfl rfl
      have ax := x_agr hs1 (fun o ho => c5.2.2.2.2.2.2.2 o ho (all_tb n (by omega) o ho))
      have am := m_agr hs1 (fun o ho => d4.2.2.2.2.2 o ho (all_tb n (by omega) o ho))
      have fin : ∀ z4 z5 z6, ∃ rr ν' ξ', fX7_fits_L41 f1 x1 (nI n) (nI (fct n)) z4 z5 z6 (nI (pcnt n c + 1)) ν = some (rr, ν') ∧ fX8_fits_L33 f2 x1 (nI (num n R)) z4 z5 z6 (nI (c + 1)) k2 = some (rr, ξ') ∧ (∀ b, b < 24 ∨ 29 < b → ν' b = μ b) ∧ (∀ b, b ≠ 0 → b ≠ 1 → b ≠ 14 → ξ' b = κ b) ∧ (∀ j, j ≠ 29 → j ≠ 30 → j ≠ 31 → j ≠ 32 → j ≠ 33 → ξ' 0 j = κ 0 j) ∧ (∀ j, (j < 25 ∨ 25 + n ≤ j) → ξ' 1 j = κ 1 j) ∧ rowM ξ' 25 n R := by
        intro z4 z5 z6
        obtain ⟨rr, ν', ξ', q1, q2, q3, q4, q5, q6, q7⟩ := st_ftL (R := R) (oj := oj) (mn := mn) x1 ok hP hR r (c + 1) f1 f2 ν k2 z4 z5 z6 (by omega) (by omega) (by omega) (by rw [p3]; exact fun hk => c4.row g2 (g3 hk)) (wlkR_of hw2 hst2) hs2
        rw [p3] at q1
        exact ⟨rr, ν', ξ', q1, q2, fun b hb => by rw [q3 b hb, g2 b (by omega), c3 b (by omega) (by omega) (by omega)], fun b e0 e1 e2 => by rw [q4 b e0 e1 e2, d2 b e0 e2, b2 b e1], fun j j1 j2 j3 j4 j5 => by rw [q5 j j1 j2 j3 j4 j5, d3 j j1 j2 j3 j4 j5, b2 0 (by decide)], fun j hj => by rw [q6 j hj, d2 1 (by decide) (by decide), b3 j hj], q7⟩
      have hlt2 : ¬ nI (fct n) ≤ nI (pcnt n c) := by rw [le_nI (by omega) (by omega)]; omega
      have mAs : fX8_isAsSeen k1 = some (bI (agF (fun j => decide ((tQ D hs n ps st P (prm n (pcnt n c)) (2 ^ n - 1)).2.1 (oj j) = mn j)) q), k2) := by
        unfold fX8_isAsSeen
        rw [lb_e, d1, bi_e, lb_e, am]
      rw [fX7_fits_L41, if_neg hlt2, c1, bv_e, c2, bv_e, ax, bi_e]
      rw [fX8_fits_L33, m_codes hw.1.1 hn, bi_e, if_neg hlt, b1, bi_e, if_neg one_ne, mAs, bi_e]
      unfold fX7_fits_J99 fX7_fits_J122 fX7_fits_J128 fX8_fits_J71 fX8_fits_J95 fX8_fits_J101
      simp only [lb_e, nI_s1]
      rw [hxn, bi_e, g1, bv_e, hw2.1.1]
      cases agF (fun j => decide ((tQ D hs n ps st P (prm n (pcnt n c)) (2 ^ n - 1)).2.1 (oj j) = mn j)) q with
      | false =>
        rw [if_pos (show bI false = (0 : Int32) from rfl), if_pos (show bI false = (0 : Int32) from rfl)]
        exact fin _ _ _
      | true =>
        rw [if_neg (show ¬ bI true = (0 : Int32) by decide), if_neg (show ¬ bI true = (0 : Int32) by decide)]
        by_cases en : n = 0
        · have en' : nI n = (0 : Int32) := by rw [en]; rfl
          simp only [if_pos en', bv_e]
          by_cases e4 : x4 = 0
          · rw [if_pos e4, if_pos e4]; exact fin _ _ _
          · rw [if_neg e4, if_neg e4]; exact fin _ _ _
        · have en' : ¬ nI n = (0 : Int32) := nI_ne0 (by omega) (by omega)
          have m0 : fX8_at (25 : Int32) (0 : Int32) k2 = some (nI (rw_ (prm n (pcnt n c)) 0), k2) := m_at (r := 25) (i := 0) hw2.2.2.2.1 (by omega) (by decide)
          have x0 : m3 25 (0 : Int32).toNatClampNeg = nI (rw_ (prm n (pcnt n c)) 0) := c4.cs 0 (by omega)
          have gr0 : ∀ y : Option (Int32 × Mem), gr (0 : Int32) 5 y = y := fun y => gr_n (k := 0) (by decide) (by decide)
          simp only [if_neg en', gr0, x0, m0, bi_e, bv_e]
          by_cases e4 : x4 = 0
          · rw [if_pos e4, if_pos e4]; exact fin _ _ _
          · rw [if_neg e4, if_neg e4]; exact fin _ _ _
theorem st_fits : ST_fits Inv := by
  intro μ κ h x
  obtain ⟨n, H, D, hs, P, R, ps, st, g⟩ := h.main
  have hn := g.ok.n5
  have h5 := pw5l hn
  unfold fX7_fits fX8_fits
  rw [x_within, bi_e, if_10, m_i2, bi_e, if_10]
  by_cases hc : (0 : Int32) ≤ x ∧ x ≤ 2
  · rw [if_pos hc, if_pos hc]
    obtain ⟨f, hf⟩ := FU_s 3200 (by decide)
    obtain ⟨qn, oj, mn, hs0⟩ := senO_of hn g.nm h.sen
    obtain ⟨m1, a1, a2, a3⟩ := x_trff g.fix g.shp
    have hs1 : senO m1 κ qn n oj mn := senO_f hs0 (a2 31 (by omega)) (a2 32 (by omega)) (a2 33 (by omega)) rfl rfl
    have q : fX8_codeOf (25 : Int32) κ = _ := m_code (r := 25) g.nm g.qm hn (by decide)
    obtain ⟨rr, ν, ξ, q1, q2, q3, q4, q5, q6, q7⟩ := st_ftL (R := R) x g.ok g.hP g.hR (5 ^ n) 0 FU FU m1 κ 0 (-4) 0 (by omega) (by omega) (by omega) (fun _ => a3) (wlkR_of g.wlk g.sm) hs1
    have q1 : fX7_fits_L41 FU x (nI n) (nI (fct n)) 0 (-4) 0 0 m1 = _ := q1
    have q2 : fX8_fits_L33 FU x (nI (num n R)) 0 (-4) 0 0 κ = _ := q2
    rw [lb_e, g.dx.1, x_arr hn, bi_e, lb_e, lb_e, lb_e, a1, bv_e, lb_e, q1, q, bi_e, lb_e, lb_e, lb_e, lb_e, q2]
    refine ⟨_, _, _, rfl, rfl, h.m (fun b hb => by rw [q3 b (by omega), a2 b (by omega)]) (AgM0.n q4 q5) (fun j h1 h2 => q6 j (by omega)) ⟨n, H, D, hs, P, R, ps, st, ?_⟩⟩
    have hb : ∀ b, b < 24 → ν b = μ b := fun b hb => by rw [q3 b (by omega), a2 b (by omega)]
    exact g.f2 (fun b _ h2 => hb b (by omega)) (AgM0.n q4 q5) q6 q7
  · rw [if_neg hc, if_neg hc]; exact ⟨_, _, _, rfl, rfl, h⟩
