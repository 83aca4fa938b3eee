/-! packing: the trip that has been ridden, whatever its packing -/
def rdS (μ : Mem) (n H : Nat) (D : Nat → Nat → Int32) (hs : Nat → Nat) (R : List Nat) (ps st : Int32) : Prop := (datX μ 3 n D) ∧ (roaX μ 3 H D) ∧ (μ 24 6 = nI n) ∧ (μ 24 7 = ps) ∧ (μ 24 8 = st) ∧ (rowX μ 25 n R) ∧ (μ 24 10 = tG D hs n ps R (2 ^ n - 1)) ∧ (μ 24 11 = tR D hs n ps R (2 ^ n - 1)) ∧ (∀ i, i < n → μ 27 i = bareV D hs n ps st (rw_ R) (2 ^ n - 1) i)
theorem rdS.d {μ : Mem} {n H : Nat} {D : Nat → Nat → Int32} {hs : Nat → Nat} {R : List Nat} {ps st : Int32} (h : rdS μ n H D hs R ps st) : datX μ 3 n D := h.1
theorem rdS.r {μ : Mem} {n H : Nat} {D : Nat → Nat → Int32} {hs : Nat → Nat} {R : List Nat} {ps st : Int32} (h : rdS μ n H D hs R ps st) : roaX μ 3 H D := h.2.1
theorem rdS.s6 {μ : Mem} {n H : Nat} {D : Nat → Nat → Int32} {hs : Nat → Nat} {R : List Nat} {ps st : Int32} (h : rdS μ n H D hs R ps st) : μ 24 6 = nI n := h.2.2.1
theorem rdS.s7 {μ : Mem} {n H : Nat} {D : Nat → Nat → Int32} {hs : Nat → Nat} {R : List Nat} {ps st : Int32} (h : rdS μ n H D hs R ps st) : μ 24 7 = ps := h.2.2.2.1
theorem rdS.s8 {μ : Mem} {n H : Nat} {D : Nat → Nat → Int32} {hs : Nat → Nat} {R : List Nat} {ps st : Int32} (h : rdS μ n H D hs R ps st) : μ 24 8 = st := h.2.2.2.2.1
theorem rdS.cs {μ : Mem} {n H : Nat} {D : Nat → Nat → Int32} {hs : Nat → Nat} {R : List Nat} {ps st : Int32} (h : rdS μ n H D hs R ps st) : rowX μ 25 n R := h.2.2.2.2.2.1
theorem rdS.s10 {μ : Mem} {n H : Nat} {D : Nat → Nat → Int32} {hs : Nat → Nat} {R : List Nat} {ps st : Int32} (h : rdS μ n H D hs R ps st) : μ 24 10 = tG D hs n ps R (2 ^ n - 1) := h.2.2.2.2.2.2.1
theorem rdS.s11 {μ : Mem} {n H : Nat} {D : Nat → Nat → Int32} {hs : Nat → Nat} {R : List Nat} {ps st : Int32} (h : rdS μ n H D hs R ps st) : μ 24 11 = tR D hs n ps R (2 ^ n - 1) := h.2.2.2.2.2.2.2.1
theorem rdS.bt {μ : Mem} {n H : Nat} {D : Nat → Nat → Int32} {hs : Nat → Nat} {R : List Nat} {ps st : Int32} (h : rdS μ n H D hs R ps st) : ∀ i, i < n → μ 27 i = bareV D hs n ps st (rw_ R) (2 ^ n - 1) i := h.2.2.2.2.2.2.2.2
theorem rdS.f {μ ν : Mem} {n H : Nat} {D : Nat → Nat → Int32} {hs : Nat → Nat} {R : List Nat} {ps st : Int32} (h : rdS μ n H D hs R ps st) (hb : ∀ q, q ≠ 26 → q ≠ 30 → ν q = μ q) : rdS ν n H D hs R ps st := by
  have e3 := hb 3 (by decide) (by decide)
  have e24 := hb 24 (by decide) (by decide)
  refine ⟨datX_f e3 (hb 5 (by decide) (by decide)) h.d, roaX_f e3 (hb 4 (by decide) (by decide)) h.r, by rw [e24]; exact h.s6, by rw [e24]; exact h.s7, by rw [e24]; exact h.s8, fun i hi => by rw [hb 25 (by decide) (by decide)]; exact h.cs i hi, by rw [e24]; exact h.s10, by rw [e24]; exact h.s11, fun i hi => by rw [hb 27 (by decide) (by decide)]; exact h.bt i hi⟩
theorem x_rdS {μ : Mem} {n H : Nat} {D : Nat → Nat → Int32} {hs : Nat → Nat} {R : List Nat} {ps st : Int32} (h5 : n ≤ 5) (hh : hsOk n H D hs) (hR : R ∈ perms n) (d : datX μ 3 n D) (r : roaX μ 3 H D) (s6 : μ 24 6 = nI n) (s7 : μ 24 7 = ps) (s8 : μ 24 8 = st) (cs : rowX μ 25 n R) : ∃ ν, fX6_ride μ = some ν ∧ (∀ b, b ≠ 24 → b ≠ 27 → ν b = μ b) ∧ (∀ j, j ≠ 10 → j ≠ 11 → ν 24 j = μ 24 j) ∧ rdS ν n H D hs R ps st := by
  have hs2 := all_lt n
  have hcR := cl_of h5 hR hs2
  have e := csa h5 hR
  obtain ⟨m1, a1, a2, a3, a4, a5, a6⟩ := x_rideC (μ := μ) (hs := hs) (cs := csl n R (2 ^ n - 1)) (k := (csl n R (2 ^ n - 1)).length) d r hh (by rw [e.2]; exact s6) s7 s8 (fun i hi => by rw [e.1]; exact cs i (by omega)) hcR
  refine ⟨m1, a1, a2, a3, datX_f (a2 3 (by decide) (by decide)) (a2 5 (by decide) (by decide)) d, roaX_f (a2 3 (by decide) (by decide)) (a2 4 (by decide) (by decide)) r, by rw [a3 6 (by decide) (by decide)]; exact s6, by rw [a3 7 (by decide) (by decide)]; exact s7, by rw [a3 8 (by decide) (by decide)]; exact s8, fun i hi => by rw [a2 25 (by decide) (by decide)]; exact cs i hi, a4, a5, fun i hi => ?_⟩
  have q := a6 i (by omega)
  rw [e.1] at q
  exact q
theorem x_sf {μ : Mem} {n H : Nat} {D : Nat → Nat → Int32} {hs : Nat → Nat} {P R : List Nat} {ps st : Int32} (hn : n ≤ 5) (hh : hsOk n H D hs) (hP : P ∈ perms n) (hR : R ∈ perms n) (h : rdS μ n H D hs R ps st) (hl : rowX μ 26 n P) : ∃ m1 ν, fX6_stow μ = some m1 ∧ fX6_finish m1 = some ν ∧ (∀ b, b ≠ 24 → b ≠ 28 → b ≠ 29 → ν b = μ b) ∧ rdS ν n H D hs R ps st ∧ resX ν D hs n ps st P R (2 ^ n - 1) := by
  have e := csa hn hR
  have ep := csa hn hP
  obtain ⟨m1, ν, a1, a2, a3, a4, a5⟩ := x_stfin (μ := μ) (P := P) ⟨hn, hh, hP, hR⟩ (all_lt n) h.d ⟨by rw [e.2]; exact h.s6, h.s7, h.s8, fun i hi => by rw [e.1]; exact h.cs i (by omega), fun i hi => by rw [ep.1]; exact hl i (by omega)⟩ h.s10 h.s11 (fun i hi => by rw [e.1]; exact h.bt i (by omega))
  exact ⟨m1, ν, a1, a2, a3, ⟨datX_f (a3 3 (by decide) (by decide) (by decide)) (a3 5 (by decide) (by decide) (by decide)) h.d, roaX_f (a3 3 (by decide) (by decide) (by decide)) (a3 4 (by decide) (by decide) (by decide)) h.r, by rw [a4 6 (by decide)]; exact h.s6, by rw [a4 7 (by decide)]; exact h.s7, by rw [a4 8 (by decide)]; exact h.s8, fun i hi => by rw [a3 25 (by decide) (by decide) (by decide)]; exact h.cs i hi, a5.1, a5.2.1, fun i hi => by rw [a3 27 (by decide) (by decide) (by decide)]; exact h.bt i hi⟩, a5⟩
/-! the best that has been met -/
abbrev BS : Type := Int32 × Int32 × Int32 × Int32
noncomputable def bsS (D : Nat → Nat → Int32) (hs : Nat → Nat) (n : Nat) (ps st : Int32) (R : List Nat) (b : BS) (P : List Nat) : BS := if b.1 < tP D hs n ps st P R (2 ^ n - 1) ∨ (tP D hs n ps st P R (2 ^ n - 1) = b.1 ∧ ¬ b.2.1 ≤ tH D hs n ps st P R (2 ^ n - 1)) then (tP D hs n ps st P R (2 ^ n - 1), tH D hs n ps st P R (2 ^ n - 1), nI (num n R), nI (num n P)) else b
noncomputable def bsL (D : Nat → Nat → Int32) (hs : Nat → Nat) (n : Nat) (ps st : Int32) (R : List Nat) (b : BS) : Nat → BS
  | 0 => b
  | k + 1 => bsS D hs n ps st R (bsL D hs n ps st R b k) (prm n k)
def chX (μ : Mem) (b : BS) : Prop := (μ 30 0 = 0 ∧ b.1 = -1) ∨ (μ 30 0 = 1 ∧ μ 30 1 = b.1 ∧ μ 30 2 = b.2.1 ∧ μ 30 3 = b.2.2.1 ∧ μ 30 4 = b.2.2.2)
def chM (κ : Mem) (b : BS) : Prop := κ 0 34 = b.1 ∧ κ 0 35 = b.2.1 ∧ κ 0 36 = b.2.2.1 ∧ κ 0 37 = b.2.2.2
theorem chX_f {μ ν : Mem} {b : BS} (h : chX μ b) (e : ν 30 = μ 30) : chX ν b := by unfold chX; rw [e]; exact h
theorem ch_cond {μ : Mem} {b : BS} (h : chX μ b) {p t : Int32} (hp : (-1 : Int32) < p) : (μ 30 0 = 0 ∨ μ 30 1 < p ∨ (p = μ 30 1 ∧ ¬ μ 30 2 ≤ t)) ↔ (b.1 < p ∨ (p = b.1 ∧ ¬ b.2.1 ≤ t)) := by
  rcases h with ⟨c1, c2⟩ | ⟨c1, c2, c3, -⟩
  · exact ⟨fun _ => Or.inl (by rw [c2]; exact hp), fun _ => Or.inl c1⟩
  · rw [c1, c2, c3]
    exact ⟨fun h => h.resolve_left one_ne, Or.inr⟩
theorem tP_pos {n H : Nat} {D : Nat → Nat → Int32} {hs : Nat → Nat} (ok : DOK n H D hs) (ps st : Int32) (P R : List Nat) : (-1 : Int32) < tP D hs n ps st P R (2 ^ n - 1) := by
  obtain ⟨a, ha, e⟩ := tP_nb (s := 2 ^ n - 1) ok ps st P R
  rw [e]
  exact (nI_nle_neg (by omega)).2.2
theorem bsS_ne {n H : Nat} {D : Nat → Nat → Int32} {hs : Nat → Nat} (ok : DOK n H D hs) (ps st : Int32) (R : List Nat) (b : BS) (P : List Nat) : ¬ (bsS D hs n ps st R b P).1 = -1 := by
  have hp := tP_pos ok ps st P R
  have hne : ¬ tP D hs n ps st P R (2 ^ n - 1) = -1 := fun e => by rw [e] at hp; exact Int32.lt_irrefl hp
  unfold bsS
  by_cases e0 : b.1 = -1
  · rw [if_pos (Or.inl (by rw [e0]; exact hp))]; exact hne
  · split
    · exact hne
    · exact e0
theorem bsL_ne {n H : Nat} {D : Nat → Nat → Int32} {hs : Nat → Nat} (ok : DOK n H D hs) (ps st : Int32) (R : List Nat) (b : BS) : ∀ {k : Nat}, 0 < k → ¬ (bsL D hs n ps st R b k).1 = -1
  | k + 1, _ => by rw [bsL]; exact bsS_ne ok ps st R _ _
theorem x_tpL {n H : Nat} {D : Nat → Nat → Int32} {hs : Nat → Nat} {R : List Nat} {ps st : Int32} (ok : DOK n H D hs) (hR : R ∈ perms n) (b : BS) : ∀ (r k fu : Nat) (μ : Mem), k + r = fct n → r < fu → rdS μ n H D hs R ps st → (k < fct n → rowX μ 26 n (prm n k)) → chX μ (bsL D hs n ps st R b k) → ∃ ν, fX7_tryPackings_L26 fu (nI n) (nI (fct n)) (nI k) μ = some ν ∧ (∀ q, q < 24 ∨ 30 < q → ν q = μ q) ∧ rdS ν n H D hs R ps st ∧ chX ν (bsL D hs n ps st R b (fct n))
  | 0, k, fu + 1, μ, h1, _, hr, hl, hc => by
    have e : k = fct n := by omega
    subst e
    refine ⟨μ, ?_, fun _ _ => rfl, hr, hc⟩
    rw [fX7_tryPackings_L26, if_pos (Int32.le_refl _)]
  | r + 1, k, fu + 1, μ, h1, h2, hr, hl, hc => by
    have hn := ok.n5
    have hF := fct_le n (by omega)
    have hk : k < fct n := by omega
    have hP := prm_mem hn hk
    obtain ⟨m1, m2, a1, a2, a3, a4, a5⟩ := x_sf hn ok.hh hP hR hr (hl hk)
    have hl2 : rowX m2 26 n (prm n k) := fun i hi => by rw [a3 26 (by decide) (by decide) (by decide)]; exact hl hk i hi
    have hc2 := chX_f hc (a3 30 (by decide) (by decide) (by decide))
    have hx := x_number a4.cs hn
    have hy := x_number hl2 hn
    have hcond := ch_cond (t := tH D hs n ps st (prm n k) R (2 ^ n - 1)) hc2 (tP_pos ok ps st (prm n k) R)
    have go : ∀ m : Mem, (∀ q, q ≠ 30 → m q = m2 q) → chX m (bsL D hs n ps st R b (k + 1)) → ∃ ν, fX7_tryPackings_J112 (fun x1 x2 x3 μ => fX7_tryPackings_L26 fu x1 x2 x3 μ) (nI n) (nI (fct n)) (nI k) m = some ν ∧ (∀ q, q < 24 ∨ 30 < q → ν q = μ q) ∧ rdS ν n H D hs R ps st ∧ chX ν (bsL D hs n ps st R b (fct n)) := by
      intro m hm hcm
      obtain ⟨ν, g1, g2, g3⟩ := x_next (μ := m) (a := 26) hn hk (fun i hi => by rw [hm 26 (by decide)]; exact hl2 i hi)
      obtain ⟨w, q1, q2, q3, q4⟩ := x_tpL ok hR b r (k + 1) fu ν (by omega) (by omega) (a4.f (fun q e1 e2 => by rw [g2 q e1, hm q e2])) g3 (chX_f hcm (g2 30 (by decide)))
      refine ⟨w, ?_, fun q hq => by rw [q2 q hq, g2 q (by omega), hm q (by omega), a3 q (by omega) (by omega) (by omega)], q3, q4⟩
      unfold fX7_tryPackings_J112
      rw [g1, bv_e, lb_e, nI_s1]
      exact q1
    have hlt : ¬ nI (fct n) ≤ nI k := by rw [le_nI (by omega) (by omega)]; omega
    rw [fX7_tryPackings_L26, if_neg hlt, a1, bv_e, a2, bv_e, x_beat, bi_e, if_10, hx, bi_e, hy, bi_e, a5.2.2.2.1, a5.2.2.2.2.2.2.1]
    by_cases hb : (m2 30 0 = 0 ∨ m2 30 1 < tP D hs n ps st (prm n k) R (2 ^ n - 1) ∨ (tP D hs n ps st (prm n k) R (2 ^ n - 1) = m2 30 1 ∧ ¬ m2 30 2 ≤ tH D hs n ps st (prm n k) R (2 ^ n - 1)))
    · obtain ⟨m3, b1, b2, b3⟩ := x_becm (tP D hs n ps st (prm n k) R (2 ^ n - 1)) (tH D hs n ps st (prm n k) R (2 ^ n - 1)) (nI (num n R)) (nI (num n (prm n k))) m2
      rw [if_pos hb, b1, bv_e]
      refine go m3 b2 ?_
      rw [bsL, bsS, if_pos (hcond.1 hb)]
      exact Or.inr b3
    · rw [if_neg hb]
      refine go m2 (fun _ _ => rfl) ?_
      rw [bsL, bsS, if_neg (fun c => hb (hcond.2 c))]
      exact hc2
theorem x_tp {μ : Mem} {n H : Nat} {D : Nat → Nat → Int32} {hs : Nat → Nat} {R : List Nat} {ps st : Int32} (ok : DOK n H D hs) (hR : R ∈ perms n) {b : BS} (hr : rdS μ n H D hs R ps st) (hc : chX μ b) : ∃ ν, fX7_tryPackings μ = some ν ∧ (∀ q, q < 24 ∨ 30 < q → ν q = μ q) ∧ rdS ν n H D hs R ps st ∧ chX ν (bsL D hs n ps st R b (fct n)) := by
  have hn := ok.n5
  have hF := fct_le n (by omega)
  obtain ⟨f, hf⟩ := FU_s 200 (by decide)
  obtain ⟨m, b1, b2, b3⟩ := x_lay (a := 26) hn μ
  rw [← (prm_len n (by omega)).2] at b3
  obtain ⟨ν, q1, q2, q3⟩ := x_tpL ok hR b (fct n) 0 FU m (by omega) (by omega) (hr.f (fun q e1 _ => b2 q e1)) (fun _ => b3) (chX_f hc (b2 30 (by decide)))
  have q1 : fX7_tryPackings_L26 FU (nI n) (nI (fct n)) 0 m = _ := q1
  unfold fX7_tryPackings
  rw [lb_e, hr.d.1, x_arr hn, bi_e, b1, bv_e, lb_e, q1]
  exact ⟨ν, rfl, fun q hq => by rw [q2 q hq, b2 q (by omega)], q3⟩
/-! the reference -/
theorem m_J38 {κ : Mem} {n : Nat} {P R : List Nat} (x1 x2 : Int32) (hn : n ≤ 5) (h5 : κ 0 5 = nI n) (hP : rowM κ 20 n P) (hR : rowM κ 25 n R) : ∃ ξ, fX8_weighs_J38 x1 x2 κ = some ξ ∧ (∀ b, b ≠ 0 → ξ b = κ b) ∧ (∀ j, j < 34 ∨ 37 < j → ξ 0 j = κ 0 j) ∧ chM ξ (x2, x1, nI (num n R), nI (num n P)) := by
  have q1 : fX8_codeOf (25 : Int32) (wr (wr κ 0 34 x2) 0 35 x1) = _ := m_code (r := 25) (P := R) (by simp only [wr_i, Nat.reduceEqDiff, false_and, and_false, and_self, and_true, true_and, if_false, if_true, reduceIte, ne_eq, not_true_eq_false, not_false_eq_true]; exact h5) (fun i hi => by rw [wr_f _ _ _ _ (by decide), wr_f _ _ _ _ (by decide)]; exact hR i hi) hn (by decide)
  have q2 : fX8_codeOf (20 : Int32) (wr (wr (wr κ 0 34 x2) 0 35 x1) 0 36 (nI (num n R))) = _ := m_code (r := 20) (P := P) (by simp only [wr_i, Nat.reduceEqDiff, false_and, and_false, and_self, and_true, true_and, if_false, if_true, reduceIte, ne_eq, not_true_eq_false, not_false_eq_true]; exact h5) (fun i hi => by rw [wr_f _ _ _ _ (by decide), wr_f _ _ _ _ (by decide), wr_f _ _ _ _ (by decide)]; exact hP i hi) hn (by decide)
  unfold fX8_weighs_J38 fX8_weighs_J68
  rw [lb_e, lb_e, q1, bi_e, lb_e, q2, bi_e, lb_e]
  refine ⟨_, rfl, fun b hb => by rw [wr_f _ _ _ _ hb, wr_f _ _ _ _ hb, wr_f _ _ _ _ hb, wr_f _ _ _ _ hb], fun j hj => by rw [wr_o (by omega), wr_o (by omega), wr_o (by omega), wr_o (by omega)], ?_, ?_, ?_, ?_⟩
  all_goals simp only [wr_i, Nat.reduceEqDiff, false_and, and_false, and_self, and_true, true_and, if_false, if_true, reduceIte, ne_eq, not_true_eq_false, not_false_eq_true]
theorem m_weighs {κ : Mem} {n H : Nat} {D : Nat → Nat → Int32} {hs : Nat → Nat} {P R : List Nat} {ps st : Int32} {b : BS} (hf : fixO n H D hs P R) (hw : wlkM κ n H D P R ps) (hst : κ 1 31 = st) (hb : chM κ b) : ∃ ξ, fX8_weighs κ = some ξ ∧ (∀ q, q ≠ 0 → q ≠ 14 → ξ q = κ q) ∧ (∀ j, j < 29 ∨ 37 < j → ξ 0 j = κ 0 j) ∧ chM ξ (bsS D hs n ps st R b P) := by
  have hn := hf.1
  obtain ⟨k1, d1, d⟩ := m_whole hf hw hst
  obtain ⟨d2, d3, d4⟩ := d
  have hw2 : wlkM k1 n H D P R ps := wlkM_f hw d2 (d3 3 (by decide) (by decide) (by decide) (by decide) (by decide)) (d3 5 (by decide) (by decide) (by decide) (by decide) (by decide))
  have hp : fX8_penniesOf (nI (2 ^ n - 1)) k1 = some (tP D hs n ps st P R (2 ^ n - 1), k1) := m_penN hf hw (all_lt n) ⟨d2, d3, d4⟩ (2 ^ n - 1) (pow5 n (by omega)).1
  have c1 : chM k1 b := by
    unfold chM
    rw [d3 34 (by decide) (by decide) (by decide) (by decide) (by decide), d3 35 (by decide) (by decide) (by decide) (by decide) (by decide), d3 36 (by decide) (by decide) (by decide) (by decide) (by decide), d3 37 (by decide) (by decide) (by decide) (by decide) (by decide)]
    exact hb
  obtain ⟨ξ, g1, g2, g3, g4⟩ := m_J38 (tH D hs n ps st P R (2 ^ n - 1)) (tP D hs n ps st P R (2 ^ n - 1)) hn hw2.1.1 hw2.2.2.1 hw2.2.2.2.1
  unfold fX8_weighs
  rw [d1, bi_e, m_every hw2.1.1 hn, bi_e, hp, bi_e, c1.1, c1.2.1, g1]
  have yes : ∃ ζ, some ξ = some ζ ∧ (∀ q, q ≠ 0 → q ≠ 14 → ζ q = κ q) ∧ (∀ j, j < 29 ∨ 37 < j → ζ 0 j = κ 0 j) ∧ chM ζ (tP D hs n ps st P R (2 ^ n - 1), tH D hs n ps st P R (2 ^ n - 1), nI (num n R), nI (num n P)) := ⟨ξ, rfl, fun q h1 h2 => by rw [g2 q h1, d2 q h1 h2], fun j hj => by rw [g3 j (by omega), d3 j (by omega) (by omega) (by omega) (by omega) (by omega)], g4⟩
  have no : ∃ ζ, fX8_weighs_J68 k1 = some ζ ∧ (∀ q, q ≠ 0 → q ≠ 14 → ζ q = κ q) ∧ (∀ j, j < 29 ∨ 37 < j → ζ 0 j = κ 0 j) ∧ chM ζ b := ⟨k1, rfl, d2, fun j hj => d3 j (by omega) (by omega) (by omega) (by omega) (by omega), c1⟩
  unfold bsS
  by_cases e1 : b.1 < tP D hs n ps st P R (2 ^ n - 1)
  · rw [if_pos e1, if_pos (Or.inl e1)]; exact yes
  · rw [if_neg e1]
    by_cases e2 : tP D hs n ps st P R (2 ^ n - 1) = b.1
    · rw [if_pos e2]
      by_cases e3 : b.2.1 ≤ tH D hs n ps st P R (2 ^ n - 1)
      · rw [if_pos e3, if_neg (fun c => c.elim e1 (fun c => c.2 e3))]; exact no
      · rw [if_neg e3, if_pos (Or.inr ⟨e2, e3⟩)]; exact yes
    · rw [if_neg e2, if_neg (fun c => c.elim e1 (fun c => e2 c.1))]; exact no
/-- a walk's world but for the packing -/
def wlkQ (κ : Mem) (n H : Nat) (D : Nat → Nat → Int32) (R : List Nat) (ps st : Int32) : Prop := datM κ n D ∧ roaM κ H D ∧ rowM κ 25 n R ∧ κ 1 30 + 10 = ps ∧ κ 1 31 = st
theorem wlkQ_of {κ : Mem} {n H : Nat} {D : Nat → Nat → Int32} {P R : List Nat} {ps st : Int32} (h : wlkM κ n H D P R ps) (hst : κ 1 31 = st) : wlkQ κ n H D R ps st := ⟨h.1, h.2.1, h.2.2.2.1, h.2.2.2.2, hst⟩
theorem wlkQ_l {κ ξ : Mem} {n H : Nat} {D : Nat → Nat → Int32} {R Q : List Nat} {ps st : Int32} (h : wlkQ κ n H D R ps st) (kb : ∀ b, b ≠ 1 → ξ b = κ b) (k1 : ∀ j, (j < 20 ∨ 20 + n ≤ j) → ξ 1 j = κ 1 j) (hm : rowM ξ 20 n Q) : wlkM ξ n H D Q R ps ∧ ξ 1 31 = st := by
  obtain ⟨h1, h2, h3, h4, h5⟩ := h
  have hn := h1.2.1
  refine ⟨⟨⟨by rw [kb 0 (by decide)]; exact h1.1, hn, fun o ho => by rw [k1 _ (by omega), kb 4 (by decide), k1 _ (by omega), k1 _ (by omega), k1 _ (by omega)]; exact h1.2.2 o ho⟩, roaM_f (by rw [kb 0 (by decide)]) (kb 2 (by decide)) (kb 3 (by decide)) h2, hm, fun i hi => by rw [k1 _ (by omega)]; exact h3 i hi, by rw [k1 _ (by omega)]; exact h4⟩, by rw [k1 _ (by omega)]; exact h5⟩
theorem m_apL {n H : Nat} {D : Nat → Nat → Int32} {hs : Nat → Nat} {R P0 : List Nat} {ps st : Int32} (ok : DOK n H D hs) (hR : R ∈ perms n) (hP0 : P0 ∈ perms n) (b : BS) : ∀ (r c fu : Nat) (κ : Mem), c + r = 5 ^ n → r < fu → wlkQ κ n H D R ps st → chM κ (bsL D hs n ps st R b (pcnt n c)) → ∃ ξ, fX8_allPacks_L9 fu (nI (num n P0)) (nI c) κ = some ξ ∧ (∀ q, q ≠ 0 → q ≠ 1 → q ≠ 14 → ξ q = κ q) ∧ (∀ j, j < 29 ∨ 37 < j → ξ 0 j = κ 0 j) ∧ (∀ j, (j < 20 ∨ 20 + n ≤ j) → ξ 1 j = κ 1 j) ∧ rowM ξ 20 n P0 ∧ chM ξ (bsL D hs n ps st R b (fct n))
  | 0, c, fu + 1, κ, h1, _, hw, hc => by
    have hn := ok.n5
    have h5 := pw5l hn
    have e : c = 5 ^ n := by omega
    have hle : nI (5 ^ n) ≤ nI c := by rw [e]; exact Int32.le_refl _
    rw [e, pcnt_all hn] at hc
    obtain ⟨ξ, b1, b2, b3, b4⟩ := m_relay (κ := κ) (r := 20) hw.1.1 hn (by decide) hP0
    have b1 : fX8_laysCode (20 : Int32) (nI (num n P0)) κ = _ := b1
    rw [fX8_allPacks_L9, m_codes hw.1.1 hn, bi_e, if_pos hle, b1, bi_e]
    exact ⟨ξ, rfl, fun q _ h _ => b2 q h, fun j _ => by rw [b2 0 (by decide)], b3, b4, by unfold chM; rw [b2 0 (by decide)]; exact hc⟩
  | r + 1, c, fu + 1, κ, h1, h2, hw, hc => by
    have hn := ok.n5
    have h5 := pw5l hn
    have hc5 : c < 5 ^ n := by omega
    have hlt : ¬ nI (5 ^ n) ≤ nI c := by rw [le_nI (by omega) (by omega)]; omega
    cases ho : okP n (dg n c) with
    | false =>
      have b1 := (m_lays (κ := κ) (r := 20) hw.1.1 hn (by decide) hc5).2 ho
      have b1 : fX8_laysCode (20 : Int32) (nI c) κ = _ := b1
      have e := pc_no ho
      obtain ⟨ξ, q1, q2⟩ := m_apL ok hR hP0 b r (c + 1) fu κ (by omega) (by omega) hw (by rw [e]; exact hc)
      refine ⟨ξ, ?_, q2⟩
      rw [fX8_allPacks_L9, m_codes hw.1.1 hn, bi_e, if_neg hlt, b1, bi_e, if_pos rfl]
      unfold fX8_allPacks_J31
      rw [lb_e, nI_s1]
      exact q1
    | true =>
      obtain ⟨p1, p2, p3⟩ := pc_ok hn hc5 ho
      have hQ := prm_mem hn p2
      obtain ⟨k1, b1, b2, b3, b4⟩ := (m_lays (κ := κ) (r := 20) hw.1.1 hn (by decide) hc5).1 ho
      have b1 : fX8_laysCode (20 : Int32) (nI c) κ = _ := b1
      rw [← p1] at b4
      obtain ⟨hw1, hst1⟩ := wlkQ_l hw b2 b3 b4
      obtain ⟨k2, d1, d2, d3, d4⟩ := m_weighs (hs := hs) ⟨hn, ok.hh, hQ, hR⟩ hw1 hst1 (b := bsL D hs n ps st R b (pcnt n c)) (by unfold chM; rw [b2 0 (by decide)]; exact hc)
      have hw2 : wlkM k2 n H D (prm n (pcnt n c)) R ps := wlkM_f hw1 d2 (d3 3 (by omega)) (d3 5 (by omega))
      have hst2 : k2 1 31 = st := by rw [d2 1 (by decide) (by decide)]; exact hst1
      obtain ⟨ξ, q1, q2, q3, q4, q5⟩ := m_apL ok hR hP0 b r (c + 1) fu k2 (by omega) (by omega) (wlkQ_of hw2 hst2) (by rw [p3]; exact d4)
      refine ⟨ξ, ?_, fun q e0 e1 e2 => by rw [q2 q e0 e1 e2, d2 q e0 e2, b2 q e1], fun j hj => by rw [q3 j hj, d3 j hj, b2 0 (by decide)], fun j hj => by rw [q4 j hj, d2 1 (by decide) (by decide), b3 j hj], q5⟩
      rw [fX8_allPacks_L9, m_codes hw.1.1 hn, bi_e, if_neg hlt, b1, bi_e, if_neg one_ne, d1, bv_e]
      unfold fX8_allPacks_J31
      rw [lb_e, nI_s1]
      exact q1
theorem m_ap {κ : Mem} {n H : Nat} {D : Nat → Nat → Int32} {hs : Nat → Nat} {P R : List Nat} {ps st : Int32} {b : BS} (ok : DOK n H D hs) (hP : P ∈ perms n) (hR : R ∈ perms n) (hw : wlkM κ n H D P R ps) (hst : κ 1 31 = st) (hb : chM κ b) : ∃ ξ, fX8_allPacks κ = some ξ ∧ (∀ q, q ≠ 0 → q ≠ 1 → q ≠ 14 → ξ q = κ q) ∧ (∀ j, j < 29 ∨ 37 < j → ξ 0 j = κ 0 j) ∧ (∀ j, ξ 1 j = κ 1 j) ∧ chM ξ (bsL D hs n ps st R b (fct n)) := by
  have hn := ok.n5
  have h5 := pw5l hn
  obtain ⟨f, hf⟩ := FU_s 3200 (by decide)
  obtain ⟨ξ, q1, q2, q3, q4, q5, q6⟩ := m_apL ok hR hP b (5 ^ n) 0 FU κ (by omega) (by omega) (wlkQ_of hw hst) hb
  have q1 : fX8_allPacks_L9 FU (nI (num n P)) 0 κ = _ := q1
  have q : fX8_codeOf (20 : Int32) κ = _ := m_code (r := 20) hw.1.1 hw.2.2.1 hn (by decide)
  unfold fX8_allPacks
  rw [q, bi_e, lb_e, q1]
  refine ⟨ξ, rfl, q2, q3, fun j => ?_, q6⟩
  by_cases e : j < 20 ∨ 20 + n ≤ j
  · exact q4 j e
  · have h1 := q5 (j - 20) (by omega)
    have h2 := hw.2.2.1 (j - 20) (by omega)
    rw [show 20 + (j - 20) = j by omega] at h1 h2
    rw [h1, h2]
theorem AgM0.k {κ ξ : Mem} (hb : ∀ b, b ≠ 0 → b ≠ 1 → b ≠ 14 → ξ b = κ b) (h0 : ∀ j, j < 29 ∨ 37 < j → ξ 0 j = κ 0 j) : AgM0 κ ξ := by
  refine ⟨?_, ?_, ?_, ?_, ?_, ?_, ?_, ?_, ?_, ?_, ?_, ?_, ?_, ?_, ?_, ?_, ?_⟩
  all_goals first | exact h0 _ (by decide) | exact hb _ (by decide) (by decide) (by decide)
/-- take() of all, with the choice cleared ahead of it -/
theorem x_tkall {μ : Mem} {n H : Nat} {D : Nat → Nat → Int32} {hs : Nat → Nat} {ps st : Int32} {P R : List Nat} (hf : fixO n H D hs P R) (hx : shpX μ n H D hs P R ps st) : ∃ m1 ν, fX0_clear μ = some m1 ∧ fX7_allBits m1 = some (nI (2 ^ n - 1), m1) ∧ m1 3 7 = st ∧ fX6_take (nI (2 ^ n - 1)) st m1 = some ν ∧ (∀ b, b < 24 ∨ 30 < b → ν b = μ b) ∧ ν 30 0 = 0 ∧ ν 24 6 = nI n ∧ ν 24 7 = ps ∧ ν 24 8 = st ∧ rowX ν 25 n R ∧ datX ν 3 n D ∧ roaX ν 3 H D := by
  have hn := hf.1
  obtain ⟨m1, c1, c2, c3⟩ := x_clr μ
  have hx1 : shpX m1 n H D hs P R ps st := shpX_f hx (fun b hb => c2 b (by omega))
  obtain ⟨ν, a1, a2, a3, a4⟩ := x_take st hx1.1.1 hn hx1.2.2.2.1 hx1.2.2.1 hf.2.2.2 hf.2.2.1 (all_lt n)
  obtain ⟨t1, t2, t3, t4, t5⟩ := a4
  have e := csa hn hf.2.2.2
  refine ⟨m1, ν, c1, x_every hx1.1.1 hn, hx1.2.2.2.2.2, a1, fun b hb => by rw [a2 b (by omega) (by omega) (by omega), c2 b (by omega)], by rw [a2 30 (by decide) (by decide) (by decide)]; exact c3, by rw [t1, e.2], by rw [t2]; exact hx1.2.2.2.2.1, t3, fun i hi => by rw [t4 i (by omega), e.1], datX_f (a2 3 (by decide) (by decide) (by decide)) (a2 5 (by decide) (by decide) (by decide)) hx1.1, roaX_f (a2 3 (by decide) (by decide) (by decide)) (a2 4 (by decide) (by decide) (by decide)) hx1.2.1⟩
theorem st_packing : ST_packing Inv := by
  intro μ κ h x
  obtain ⟨n, H, D, hs, P, R, ps, st, g⟩ := h.main
  have hn := g.ok.n5
  unfold fX7_packing fX8_packing
  rw [x_within, bi_e, if_10, m_i2, bi_e, if_10]
  by_cases hc : (0 : Int32) ≤ x ∧ x ≤ 2
  · rw [if_pos hc, if_pos hc]
    obtain ⟨m1, m2, a1, a2, a3, a4, a5, a6, a7, a8, a9, a10, a11, a12⟩ := x_tkall g.fix g.shp
    obtain ⟨m3, b1, b2, b3, b4⟩ := x_rdS hn g.ok.hh g.hR a11 a12 a7 a8 a9 a10
    obtain ⟨b, hb⟩ : ∃ b : BS, b = (-1, 1000000, κ 0 36, κ 0 37) := ⟨_, rfl⟩
    obtain ⟨ν, c1, c2, c3, c4⟩ := x_tp g.ok g.hR (b := b) b4 (Or.inl ⟨by rw [b2 30 (by decide) (by decide)]; exact a6, by rw [hb]⟩)
    have hw : wlkM (wr (wr κ 0 34 (-1)) 0 35 1000000) n H D P R ps := wlkM_f g.wlk (fun b hb _ => by rw [wr_f _ _ _ _ hb, wr_f _ _ _ _ hb]) (by simp only [wr_i, Nat.reduceEqDiff, false_and, and_false, and_self, and_true, true_and, if_false, if_true, reduceIte, ne_eq, not_true_eq_false, not_false_eq_true]) (by simp only [wr_i, Nat.reduceEqDiff, false_and, and_false, and_self, and_true, true_and, if_false, if_true, reduceIte, ne_eq, not_true_eq_false, not_false_eq_true])
    obtain ⟨ξ, d1, d2, d3, d4, d5⟩ := m_ap (st := st) (b := b) g.ok g.hP g.hR hw (by rw [wr_f _ _ _ _ (by decide), wr_f _ _ _ _ (by decide)]; exact g.sm) (by rw [hb]; refine ⟨?_, ?_, ?_, ?_⟩ <;> simp only [wr_i, Nat.reduceEqDiff, false_and, and_false, and_self, and_true, true_and, if_false, if_true, reduceIte, ne_eq, not_true_eq_false, not_false_eq_true])
    rw [a1, bv_e, a2, bi_e, a3, a4, bv_e, b1, bv_e, c1, bv_e, lb_e, lb_e, d1, bv_e]
    unfold fX8_packing_J57
    have hI : Inv ν ξ := by
      refine h.f (fun q hq => by rw [c2 q (by omega), b2 q (by omega) (by omega), a5 q (by omega)]) (AgM0.k (fun q e0 e1 e2 => by rw [d2 q e0 e1 e2, wr_f _ _ _ _ e0, wr_f _ _ _ _ e0]) (fun j hj => by rw [d3 j hj, wr_o (by omega), wr_o (by omega)])) (fun j hj => by rw [d4 j, wr_f _ _ _ _ (by decide), wr_f _ _ _ _ (by decide)])
    rcases c4 with ⟨e1, e2⟩ | ⟨e1, e2, e3, e4, e5⟩
    · exact absurd e2 (bsL_ne g.ok ps st R b (fct_le n (by omega)).2)
    · by_cases e : x = 0
      · rw [if_pos e, if_pos e, e2, d5.1]; exact ⟨_, _, _, rfl, rfl, hI⟩
      · rw [if_neg e, if_neg e]
        by_cases e : x = 1
        · rw [if_pos e, if_pos e, e3, d5.2.1]; exact ⟨_, _, _, rfl, rfl, hI⟩
        · rw [if_neg e, if_neg e, e5, d5.2.2.2]; exact ⟨_, _, _, rfl, rfl, hI⟩
  · rw [if_neg hc, if_neg hc]; exact ⟨_, _, _, rfl, rfl, h⟩
