/-! read -/
theorem x_cell {μ : Mem} {k j : Nat} (hk : k < 4) (hj : j < 40) : fX3_cell (nI k) (nI j) μ = some (μ (38 + k) j, μ) := by
  unfold fX3_cell
  simp only [gr_n hk (show 4 < 2 ^ 31 by decide), gr_n hj (show 40 < 2 ^ 31 by decide), cl_n (show k < 2 ^ 31 by omega), cl_n (show j < 2 ^ 31 by omega)]
  rcases (show k = 0 ∨ k = 1 ∨ k = 2 ∨ k = 3 by omega) with rfl | rfl | rfl | rfl <;> rfl
def rdA (μ : Mem) (k fo i : Nat) : Nat := (μ (38 + k) (fo + 2 * i)).toNatClampNeg
def rdB (μ : Mem) (k fo i : Nat) : Nat := (μ (38 + k) (fo + 2 * i + 1)).toNatClampNeg
def rsw (μ : Mem) (k fo : Nat) (R : List Nat) : Nat → List Nat
  | 0 => R
  | i + 1 => swp (rsw μ k fo R i) (rdA μ k fo i) (rdB μ k fo i)
def rdG (μ : Mem) (k fo n i : Nat) : Prop := (∃ o, o < n ∧ μ (38 + k) (fo + 2 * i) = nI o) ∧ (∃ o, o < n ∧ μ (38 + k) (fo + 2 * i + 1) = nI o)
theorem rdG_v {μ : Mem} {k fo n i : Nat} (hn : n ≤ 5) (h : rdG μ k fo n i) : rdA μ k fo i < n ∧ μ (38 + k) (fo + 2 * i) = nI (rdA μ k fo i) ∧ rdB μ k fo i < n ∧ μ (38 + k) (fo + 2 * i + 1) = nI (rdB μ k fo i) := by
  obtain ⟨⟨a, ha, ea⟩, ⟨b, hb, eb⟩⟩ := h
  unfold rdA rdB
  rw [ea, eb, cl_n (by omega), cl_n (by omega)]
  exact ⟨ha, rfl, hb, rfl⟩
theorem rsw_mem {μ : Mem} {k fo n : Nat} {R : List Nat} (hn : n ≤ 5) (hR : R ∈ perms n) : ∀ w, (∀ j, j < w → rdG μ k fo n j) → rsw μ k fo R w ∈ perms n
  | 0, _ => hR
  | w + 1, h => by
    obtain ⟨v1, -, v3, -⟩ := rdG_v hn (h w (by omega))
    exact pm_swp n (by omega) _ (rsw_mem hn hR w (fun j hj => h j (by omega))) _ v1 _ v3
theorem n2i (i : Nat) : (2 : Int32) * nI i = nI (2 * i) := by rw [show (2 : Int32) = nI 2 from rfl, pk_mul]
theorem x_rdE {μ0 : Mem} {n k fo w : Nat} {R : List Nat} (hn : n ≤ 5) (hk : k < 4) (hR : R ∈ perms n) (x5 : Int32) (hw : fo + 2 * w ≤ 40) (hg : ∀ j, j < w → rdG μ0 k fo n j) : ∀ (r i fu : Nat) (μ : Mem), i + r = w → r < fu → μ 3 5 = nI n → (∀ b, 37 < b → μ b = μ0 b) → rowX μ 7 n (rsw μ0 k fo R i) → ∃ m, fX7_read_L133 fu (nI k) (nI fo) x5 (nI w) (nI i) μ = some (nI w, wr m 0 10 x5) ∧ (∀ b, b ≠ 7 → m b = μ b) ∧ rowX m 7 n (rsw μ0 k fo R w)
  | 0, i, fu + 1, μ, h1, _, h3, hb, hr => by
    have e : i = w := by omega
    subst e
    refine ⟨μ, ?_, fun _ _ => rfl, hr⟩
    rw [fX7_read_L133, if_pos (Int32.le_refl _), lb_e]
  | r + 1, i, fu + 1, μ, h1, h2, h3, hb, hr => by
    obtain ⟨v1, v2, v3, v4⟩ := rdG_v hn (hg i (by omega))
    obtain ⟨m1, a1, a2, a3⟩ := x_exch (a := 7) h3 (by decide) hr hn (rsw_mem hn hR i (fun j hj => hg j (by omega))) v1 v3
    obtain ⟨m, q1, q2, q3⟩ := x_rdE hn hk hR x5 hw hg r (i + 1) fu m1 (by omega) (by omega) (by rw [a2 3 (by decide)]; exact h3) (fun b hb' => by rw [a2 b (by omega), hb b hb']) a3
    refine ⟨m, ?_, fun b hb' => by rw [q2 b hb', a2 b hb'], q3⟩
    have hlt : ¬ nI w ≤ nI i := by rw [le_nI (by omega) (by omega)]; omega
    rw [fX7_read_L133, if_neg hlt, n2i, nI_add, nI_s1, x_cell hk (by omega), bi_e, x_cell hk (by omega), bi_e, hb _ (by omega), v2, v4, a1, bi_e, lb_e, nI_s1]
    exact q1
theorem nn_z {z a : Nat} (hz : z ≤ 40) (ha : a < 1000) : (∃ o, o < z ∧ nI a = nI o) ↔ a < z := by
  constructor
  · rintro ⟨o, ho, e⟩
    rw [eq_nI (by omega) (by omega)] at e
    omega
  · intro h
    exact ⟨a, h, rfl⟩
theorem x_fpY {μ : Mem} {k z l fo i : Nat} (hk : k < 4) (h43 : μ 43 k = nI z) (hz : z ≤ 40) (h42 : μ 42 k = nI l) (hf : fo + 2 * i + 1 < 1000) : fX3_faultOfPair (nI k) (nI l) (nI fo) (nI i) μ = some (if fo + 2 * i + 1 < z then 0 else 2, μ) := by
  unfold fX3_faultOfPair fX3_faultOfPair_J42
  have e : (nI fo).toInt64 + (2 : Int64) * (nI i).toInt64 = (nI (fo + 2 * i)).toInt64 := by rw [nI_l (by omega), nI_l (by omega), nI_l (by omega), show (2 : Int64) = lN 2 from rfl, lN_mul, lN_add]
  have e2 : (nI (fo + 2 * i)).toInt64 + 1 = (nI (fo + 2 * i + 1)).toInt64 := by rw [nI_l (by omega), nI_l (by omega), lN_1]
  rw [lb_e, e, e2, x_faZ hk h43 hz h42, bi_e, if_pos rfl, x_faZ hk h43 hz h42, bi_e, if_pos rfl]
  simp only [ix_n hz, nn_z hz (show fo + 2 * i < 1000 by omega), nn_z hz hf]
  by_cases h1 : fo + 2 * i + 1 < z
  · rw [if_pos h1, if_pos (show fo + 2 * i < z by omega), if_pos rfl]
  · rw [if_neg h1]
    by_cases h2 : fo + 2 * i < z
    · rw [if_pos h2, if_pos rfl]
    · rw [if_neg h2, if_neg (by decide)]
theorem irm2 {a : Nat} (ha : a < 1000) : irm (nI a) (2 : Int32) = nI (a % 2) := by
  unfold irm; rw [show (2 : Int32) = nI 2 from rfl, pk_rem (by omega) (by omega) (by omega)]
theorem m_rdI {κ : Mem} {k z l fo N a fu : Nat} (x6 : Int32) (hk : k < 4) (hz : z ≤ 40) (hl : l < 3) (h18 : κ 18 k = nI z) (h17 : κ 17 k = nI l) (hfo : fo < 100) (hN : N ≤ 20) (ha : a < 2 * N) : fX8_read_L55 (fu + 1) (nI k) (nI l) (nI fo) (nI N) 0 x6 (nI a) κ = fX8_read_J125 (fun x1 x2 x3 x4 x5 x6 x7 μ => fX8_read_L55 fu x1 x2 x3 x4 x5 x6 x7 μ) (nI k) (nI l) (nI fo) (nI N) x6 (nI a) (if fo + a < z then 0 else 2) κ := by
  have e4 : ¬ nI l = (-4 : Int32) := by rcases (show l = 0 ∨ l = 1 ∨ l = 2 by omega) with rfl | rfl | rfl <;> decide
  have e : (nI fo).toInt64 + (nI a).toInt64 = (nI (fo + a)).toInt64 := by rw [nI_l (by omega), nI_l (by omega), nI_l (by omega), lN_add]
  have hlt : ¬ nI (2 * N) ≤ nI a := by rw [le_nI (by omega) (by omega)]; omega
  rw [fX8_read_L55, n2i, if_neg hlt, if_pos rfl]
  simp only [gr_n hk (show 4 < 2 ^ 31 by decide), cl_n (show k < 2 ^ 31 by omega)]
  rw [h17, if_neg e4, if_pos rfl, e, h18, m_iv, bi_e, if_10]
  simp only [n1_le (show z < 2 ^ 30 by omega), nn_z hz (show fo + a < 1000 by omega)]
  by_cases h : fo + a < z
  · rw [if_pos h, if_pos h]
  · rw [if_neg h, if_neg h]
theorem Inv.t44 {μ κ : Mem} (h : Inv μ κ) (x : Int32) : Inv (wr μ 0 10 x) (wr κ 0 44 x) := by
  have ex : ∀ b, b ≠ 0 → wr μ 0 10 x b = μ b := fun b hb => wr_f _ _ _ _ hb
  have em : ∀ b, b ≠ 0 → wr κ 0 44 x b = κ b := fun b hb => wr_f _ _ _ _ hb
  obtain ⟨n, H, D, hs, P, R, ps, st, g⟩ := h.main
  refine ⟨⟨n, H, D, hs, P, R, ps, st, g.f (fun b h1 h2 => ex b (by omega)) (wr_o (by omega)) (wr_o (by omega)) (em 2 (by decide)) (em 3 (by decide)) (em 4 (by decide)) (fun j _ => by rw [em 1 (by decide)])⟩, fun k hk => (h.img k hk).f hk (fun b hb => ex b (by omega)) (wr_o (by omega)) (wr_o (by omega)) (em 2 (by decide)) (em 3 (by decide)) (em 4 (by decide)) (em 16 (by decide)) (fun j _ _ => by rw [em 1 (by decide)]), h.sen.f (ex 31 (by decide)) (ex 32 (by decide)) (ex 33 (by decide)) (wr_o (by omega)) (wr_o (by omega)) (em 15 (by decide)), h.tap.f (by rw [ex 1 (by decide)]) (ex 2 (by decide)) (wr_o (by omega)) (em 11 (by decide)), fun k hk => (h.sht k hk).f (by rw [ex 43 (by decide)]) (by rw [ex 42 (by decide)]) (ex _ (by omega)) (by rw [em 17 (by decide)]) (by rw [em 18 (by decide)]) (fun i _ => by rw [em 19 (by decide)]), ?_, ?_, by rw [em 12 (by decide)]; exact h.cut, by rw [em 13 (by decide)]; exact h.ltr⟩
  · rw [wr_o (by omega), wr_o (by omega)]; exact h.flt
  · rw [wr_s, wr_s]
theorem st_rdL {n H : Nat} {D : Nat → Nat → Int32} {hs : Nat → Nat} {P R : List Nat} {ps st : Int32} {μ κ0 : Mem} {k z l fo N : Nat} (h : Inv μ κ0) (g : Pg μ κ0 3 0 n H D hs P R ps st) (hk : k < 4) (h43 : μ 43 k = nI z) (hz : z ≤ 40) (h42 : μ 42 k = nI l) (hl : l < 3) (h18 : κ0 18 k = nI z) (h17 : κ0 17 k = nI l) (hcl : ∀ i, i < 40 → μ (38 + k) i = κ0 19 (40 * k + i)) (hfo : fo < z) (hN : N ≤ 20) (h96 : ∀ j, j < 32 → κ0 1 (96 + j) = κ0 1 j) : ∀ (r i f1 f2 : Nat) (κ : Mem), i + r = N → r + 1 < f1 → 2 * r + 2 < f2 → fo + 2 * i ≤ z → (∀ j, j < i → rdG μ k fo n j) → (∀ b, b ≠ 1 → κ b = κ0 b) → (∀ j, (j < 25 ∨ 25 + n ≤ j) → κ 1 j = κ0 1 j) → rowM κ 25 n (rsw μ k fo R i) → ∃ rr ν ξ, fX7_read_L40 f1 (nI k) (nI l) (nI fo) (nI N) 0 (nI i) (nI i) μ = some (rr, ν) ∧ fX8_read_L55 f2 (nI k) (nI l) (nI fo) (nI N) 0 (nI i) (nI (2 * i)) κ = some (rr, ξ) ∧ Inv ν ξ := by
  have hn := g.ok.n5
  obtain ⟨fq, hfq⟩ := FU_s 100 (by decide)
  have fin : ∀ (w : Nat) (q : Int32) (κ : Mem), fo + 2 * w ≤ 40 → (∀ j, j < w → rdG μ k fo n j) → (∀ b, b ≠ 1 → κ b = κ0 b) → (∀ j, (j < 25 ∨ 25 + n ≤ j) → κ 1 j = κ0 1 j) → rowM κ 25 n (rsw μ k fo R w) → ∃ rr ν ξ, fX7_read_J130 (nI k) (nI fo) q (nI w) μ = some (rr, ν) ∧ fX8_read_J198 q (nI w) κ = some (rr, ξ) ∧ Inv ν ξ := by
    intro w q κ hw hg kb k1 hm
    obtain ⟨m, a1, a2, a3⟩ := x_rdE hn hk g.hR q hw hg w 0 FU μ (by omega) (by omega) g.dx.1 (fun _ _ => rfl) g.qx
    have a1 : fX7_read_L133 FU (nI k) (nI fo) q (nI w) 0 μ = _ := a1
    unfold fX7_read_J130 fX8_read_J198
    rw [lb_e, a1, lb_e]
    exact ⟨_, _, _, rfl, rfl, (h.rowR g a2 a3 kb k1 hm (rsw_mem hn g.hR w hg)).t44 q⟩
  intro r
  induction r with
  | zero =>
    intro i f1 f2 κ h1 hf1 hf2 hi hg kb k1 hm
    obtain ⟨f1, rfl⟩ : ∃ f, f1 = f + 1 := ⟨f1 - 1, by omega⟩
    obtain ⟨f2, rfl⟩ : ∃ f, f2 = f + 1 := ⟨f2 - 1, by omega⟩
    have e : i = N := by omega
    subst e
    rw [fX7_read_L40, if_pos (Int32.le_refl _), fX8_read_L55, n2i, if_pos (Int32.le_refl _)]
    exact fin i 0 κ (by omega) hg kb k1 hm
  | succ r ih =>
    intro i f1 f2 κ h1 hf1 hf2 hi hg kb k1 hm
    obtain ⟨f1, rfl⟩ : ∃ f, f1 = f + 1 + 1 := ⟨f1 - 2, by omega⟩
    obtain ⟨f2, rfl⟩ : ∃ f, f2 = f + 1 + 1 + 1 := ⟨f2 - 3, by omega⟩
    have hlt : ¬ nI N ≤ nI i := by rw [le_nI (by omega) (by omega)]; omega
    have k18 : κ 18 k = nI z := by rw [kb 18 (by decide)]; exact h18
    have k17 : κ 17 k = nI l := by rw [kb 17 (by decide)]; exact h17
    have k5 : κ 0 5 = nI n := by rw [kb 0 (by decide)]; exact g.nm
    have two : ¬ (2 : Int32) = 0 := by decide
    have j2 : ∀ a, (fX8_read_J198 2 (nI i) κ = fX8_read_L55 (f2 + 1) (nI k) (nI l) (nI fo) (nI N) 2 (nI i) a κ) := by
      intro a
      rw [fX8_read_L55, if_neg two, ite_self]
    rw [fX7_read_L40, if_neg hlt, if_pos rfl, x_fpY hk h43 hz h42 (by omega), bi_e]
    rw [m_rdI (nI i) hk hz hl k18 k17 (by omega) hN (by omega)]
    by_cases hp : fo + 2 * i + 1 < z
    · have e19 : κ 19 = κ0 19 := kb 19 (by decide)
      have c0 : μ (38 + k) (fo + 2 * i) = κ 19 (40 * k + fo + 2 * i) := by rw [e19, hcl _ (by omega), Nat.add_assoc]
      have c1 : μ (38 + k) (fo + 2 * i + 1) = κ 19 (40 * k + fo + (2 * i + 1)) := by rw [e19, hcl _ (by omega), show 40 * k + (fo + 2 * i + 1) = 40 * k + fo + (2 * i + 1) by omega]
      have two' : ¬ (2 : Int32) = (0 : Int32) := by decide
      rw [if_pos hp, if_pos rfl, n2i, nI_add, nI_s1, x_cell hk (by omega), bi_e]
      rw [if_pos (show fo + 2 * i < z by omega)]
      have s1 : fX8_read_J125 (fun x1 x2 x3 x4 x5 x6 x7 μ => fX8_read_L55 (f2 + 1 + 1) x1 x2 x3 x4 x5 x6 x7 μ) (nI k) (nI l) (nI fo) (nI N) (nI i) (nI (2 * i)) 0 κ = fX8_read_L55 (f2 + 1 + 1) (nI k) (nI l) (nI fo) (nI N) 0 (nI i) (nI (2 * i + 1)) κ := by
        unfold fX8_read_J125 fX8_read_J192
        rw [if_pos rfl, gd_t two', irm2 (by omega), if_neg (by rw [show (1 : Int32) = nI 1 from rfl, eq_nI (by omega) (by omega)]; omega), lb_e, nI_s1]
      rw [s1, m_rdI (nI i) hk hz hl k18 k17 (by omega) hN (by omega), if_pos (show fo + (2 * i + 1) < z by omega)]
      unfold fX8_read_J125 fX8_read_J192
      have eq1 : ((40 : Int32) * nI k + nI fo) + nI (2 * i + 1) = nI (40 * k + fo + (2 * i + 1)) := by rw [show (40 : Int32) = nI 40 from rfl, pk_mul, nI_add, nI_add]
      have eq2 : nI (40 * k + fo + (2 * i + 1)) - 1 = nI (40 * k + fo + 2 * i) := by rw [show 40 * k + fo + (2 * i + 1) = (40 * k + fo + 2 * i) + 1 by omega, nI_sm1]
      rw [if_pos rfl, gd_t two', irm2 (by omega), if_pos (by rw [show (2 * i + 1) % 2 = 1 by omega]; rfl), lb_e, eq1, eq2, gr_n (by omega) (by decide), gr_n (by omega) (by decide), cl_n (by omega), cl_n (by omega), ← c0, ← c1]
      have bad : fX8_changes (25 : Int32) (μ (38 + k) (fo + 2 * i)) (μ (38 + k) (fo + 2 * i + 1)) κ = some (-1, κ) → ∃ rr ν ξ, fX7_read_J115 (nI i) μ = some (rr, ν) ∧ (bi (fX8_changes (25 : Int32) (μ (38 + k) (fo + 2 * i)) (μ (38 + k) (fo + 2 * i + 1)) κ) fun v3 m2 => if (0 : Int32) ≤ v3 then (lb (nI i + (1 : Int32)) fun (y4 : Int32) => lb (nI (2 * i + 1) + (1 : Int32)) fun (y1 : Int32) => fX8_read_L55 (f2 + 1) (nI k) (nI l) (nI fo) (nI N) 0 y4 y1 m2) else (bv (fX8_copies (96 : Int32) (0 : Int32) m2) fun m5 => some (((-20 : Int32) - nI i), m5))) = some (rr, ξ) ∧ Inv ν ξ := by
        intro hc
        obtain ⟨ξ, d1, d2, d3, d4⟩ := m_copies (a := 96) (b := 0) (by decide) (by decide) (by decide) κ
        have d1 : fX8_copies (96 : Int32) (0 : Int32) κ = _ := d1
        rw [hc, bi_e, if_neg (by decide), d1, bv_e]
        unfold fX7_read_J115
        refine ⟨_, _, _, rfl, rfl, h.f (fun _ _ => rfl) (AgM0.o (fun b hb => by rw [d2 b hb, kb b hb])) (fun j hj => ?_)⟩
        by_cases e : j < 32
        · have := d4 j e
          rw [Nat.zero_add] at this
          rw [this, k1 _ (by omega), h96 j e]
        · rw [d3 j (by omega), k1 j (by omega)]
      rcases cases_n (μ (38 + k) (fo + 2 * i)) (n := n) (by omega) with ⟨o, ho, eo⟩ | hx
      · rcases cases_n (μ (38 + k) (fo + 2 * i + 1)) (n := n) (by omega) with ⟨p, hp', ep⟩ | hy
        · have hgi : rdG μ k fo n i := ⟨⟨o, ho, eo⟩, ⟨p, hp', ep⟩⟩
          have eA : rdA μ k fo i = o := by unfold rdA; rw [eo, cl_n (by omega)]
          have eB : rdB μ k fo i = p := by unfold rdB; rw [ep, cl_n (by omega)]
          obtain ⟨k2, b1, b2, b3, b4⟩ := m_chg (κ := κ) (r := 25) k5 hm hn (by decide) (rsw_mem hn g.hR i hg) ho hp'
          have b1 : fX8_changes (25 : Int32) (nI o) (nI p) κ = _ := b1
          obtain ⟨rr, ν, ξ, q1, q2, q3⟩ := ih (i + 1) (f1 + 1) (f2 + 1) k2 (by omega) (by omega) (by omega) (by omega) (fun j hj => by
            by_cases e : j = i
            · rw [e]; exact hgi
            · exact hg j (by omega)) (fun b hb => by rw [b2 b hb, kb b hb]) (fun j hj => by rw [b3 j hj, k1 j hj]) (by rw [rsw, eA, eB]; exact b4)
          have hnn : (0 : Int32) ≤ nI (num n (swp (rsw μ k fo R i) o p)) := by
            have h5 := pm_num n (by omega) _ (pm_swp n (by omega) _ (rsw_mem hn g.hR i hg) o ho p hp')
            have h6 := pw5l hn
            rw [show (0 : Int32) = nI 0 from rfl, le_nI (by omega) (by omega)]; omega
          unfold fX7_read_J124
          rw [x_isOrder g.dx.1 hn, if_pos ⟨o, ho, eo⟩, bi_e, if_neg one_ne, x_cell hk (by omega), bi_e, eo, ep, x_isY g.dx.1 hn hp', bi_e, if_neg one_ne, lb_e, lb_e, nI_s1, b1, bi_e, if_pos hnn, lb_e, lb_e, nI_s1, show 2 * i + 1 + 1 = 2 * (i + 1) by omega]
          exact ⟨rr, ν, ξ, q1, q2, q3⟩
        · rw [x_isOrder g.dx.1 hn, if_pos ⟨o, ho, eo⟩, bi_e, if_neg one_ne, x_cell hk (by omega), bi_e, x_isN g.dx.1 hn hy, bi_e, if_pos rfl]
          exact bad (m_chgN (r := 25) k5 hn (Or.inr hy))
      · rw [x_isN g.dx.1 hn hx, bi_e, if_pos rfl]
        exact bad (m_chgN (r := 25) k5 hn (Or.inl hx))
    · rw [if_neg hp, if_neg two]
      have cx : fX7_read_J124 (fun x1 x2 x3 x4 x5 x6 x7 μ => fX7_read_L40 (f1 + 1) x1 x2 x3 x4 x5 x6 x7 μ) (nI k) (nI l) (nI fo) (nI N) 2 (nI i) (nI i) μ = fX7_read_J130 (nI k) (nI fo) 2 (nI i) μ := by
        unfold fX7_read_J124
        rw [lb_e]
        dsimp only
        rw [fX7_read_L40, if_neg two, ite_self]
      rw [cx]
      by_cases h2 : fo + 2 * i < z
      · have two' : ¬ (2 : Int32) = (0 : Int32) := by decide
        rw [if_pos h2]
        have s1 : fX8_read_J125 (fun x1 x2 x3 x4 x5 x6 x7 μ => fX8_read_L55 (f2 + 1 + 1) x1 x2 x3 x4 x5 x6 x7 μ) (nI k) (nI l) (nI fo) (nI N) (nI i) (nI (2 * i)) 0 κ = fX8_read_L55 (f2 + 1 + 1) (nI k) (nI l) (nI fo) (nI N) 0 (nI i) (nI (2 * i + 1)) κ := by
          unfold fX8_read_J125 fX8_read_J192
          rw [if_pos rfl, gd_t two', irm2 (by omega), if_neg (by rw [show (1 : Int32) = nI 1 from rfl, eq_nI (by omega) (by omega)]; omega), lb_e, nI_s1]
        rw [s1, m_rdI (nI i) hk hz hl k18 k17 (by omega) hN (by omega), if_neg (show ¬ fo + (2 * i + 1) < z by omega)]
        unfold fX8_read_J125 fX8_read_J192
        rw [if_neg two, lb_e]
        dsimp only
        rw [← j2]
        exact fin i 2 κ (by omega) hg kb k1 hm
      · rw [if_neg h2]
        unfold fX8_read_J125 fX8_read_J192
        rw [if_neg two, lb_e]
        dsimp only
        rw [fX8_read_L55, if_neg two, ite_self]
        exact fin i 2 κ (by omega) hg kb k1 hm
/-- the first cell has a fault -/
theorem st_rd0 {μ κ : Mem} {k N : Nat} {y f q : Int32} (h : Inv μ κ) (hN : N ≤ 20) (hq : ¬ q = 0) (hx : fX3_faultOfPair (nI k) y f 0 μ = some (q, μ)) (hm : ∀ fu, 0 < N → fX8_read_L55 (fu + 1) (nI k) y f (nI N) 0 0 0 κ = fX8_read_J125 (fun x1 x2 x3 x4 x5 x6 x7 μ => fX8_read_L55 fu x1 x2 x3 x4 x5 x6 x7 μ) (nI k) y f (nI N) 0 0 q κ) : ∃ rr ν ξ, fX7_read_L40 FU (nI k) y f (nI N) 0 0 0 μ = some (rr, ν) ∧ fX8_read_L55 FU (nI k) y f (nI N) 0 0 0 κ = some (rr, ξ) ∧ Inv ν ξ := by
  obtain ⟨fq, hfq⟩ := FU_s 100 (by decide)
  have e133 : ∀ q : Int32, fX7_read_J130 (nI k) f q 0 μ = some (0, wr μ 0 10 q) := by
    intro q
    unfold fX7_read_J130
    rw [lb_e, hfq, fX7_read_L133, if_pos (Int32.le_refl _), lb_e]
  by_cases h0 : N = 0
  · subst h0
    rw [hfq, fX7_read_L40, if_pos (by decide), fX8_read_L55, if_pos (by decide), e133]
    unfold fX8_read_J198
    rw [lb_e]
    exact ⟨_, _, _, rfl, rfl, h.t44 0⟩
  · have hlt : ¬ nI N ≤ (0 : Int32) := by rw [show (0 : Int32) = nI 0 from rfl, le_nI (by omega) (by omega)]; omega
    rw [show FU = (fq + 99) + 1 + 1 by omega, hm _ (by omega), fX7_read_L40, if_neg hlt, if_pos rfl, hx, bi_e, if_neg hq]
    unfold fX7_read_J124 fX8_read_J125 fX8_read_J192
    rw [if_neg hq, lb_e, lb_e]
    dsimp only
    rw [fX7_read_L40, if_neg hq, ite_self, fX8_read_L55, if_neg hq, ite_self, e133]
    unfold fX8_read_J198
    rw [lb_e]
    exact ⟨_, _, _, rfl, rfl, h.t44 q⟩
theorem st_read : ST_read Inv := by
  intro μ κ h x y f v
  unfold fX7_read fX8_read fX7_read_J29 fX8_read_J37
  simp only [x_within, bi_e, if_10, m_i3, m_i2, m_i20]
  by_cases hx : (0 : Int32) ≤ x ∧ x ≤ 3
  · simp only [if_pos hx]
    by_cases hy : (0 : Int32) ≤ y ∧ y ≤ 2
    · simp only [if_pos hy]
      by_cases hv : (0 : Int32) ≤ v ∧ v ≤ 20
      · simp only [if_pos hv]
        obtain ⟨k, hk, rfl⟩ := (wn (n := 3) (by decide)).1 hx
        obtain ⟨N, hN, rfl⟩ := (wn (n := 20) (by decide)).1 hv
        obtain ⟨κc, d1, d2, d3, d4⟩ := m_copies (a := 0) (b := 96) (by decide) (by decide) (by decide) κ
        have d1 : fX8_copies (0 : Int32) (96 : Int32) κ = _ := d1
        have hc : Inv μ κc := h.f (fun _ _ => rfl) (AgM0.o d2) (fun j hj => d3 j (by omega))
        rw [d1, bv_e]
        simp only [lb_e]
        have e0 : f.toInt64 + (2 : Int64) * (0 : Int32).toInt64 = f.toInt64 := by rw [show (2 : Int64) * (0 : Int32).toInt64 = 0 by decide, Int64.add_zero]
        have e1 : f.toInt64 + (0 : Int32).toInt64 = f.toInt64 := by rw [show (0 : Int32).toInt64 = 0 by decide, Int64.add_zero]
        have hlt : 0 < N → ¬ (2 : Int32) * nI N ≤ 0 := fun h0 => by rw [n2i, show (0 : Int32) = nI 0 from rfl, le_nI (by omega) (by omega)]; omega
        have hk4 : k < 4 := by omega
        rcases hc.sht k (by omega) with ⟨a1, a2⟩ | ⟨z, l, a1, a2, a3, a4, a5, a6, a7⟩
        · refine st_rd0 (q := 1) hc (by omega) one_ne ?_ (fun fu h0 => ?_)
          · unfold fX3_faultOfPair fX3_faultOfPair_J42
            rw [lb_e, e0, x_faN (by omega) a1, bi_e, if_neg one_ne]
          · rw [fX8_read_L55, if_neg (hlt h0), if_pos rfl, gr_n hk4 (by decide), cl_n (by omega), a2, if_pos rfl]
        · have e4 : ¬ nI l = (-4 : Int32) := by rcases (show l = 0 ∨ l = 1 ∨ l = 2 by omega) with rfl | rfl | rfl <;> decide
          by_cases hly : nI l = y
          · by_cases hf : ∃ o, o < z ∧ f = nI o
            · obtain ⟨fo, hfo, rfl⟩ := hf
              subst hly
              obtain ⟨fq, hfq⟩ := FU_s 100 (by decide)
              obtain ⟨n, H, D, hs, P, R, ps, st, g⟩ := hc.main
              exact st_rdL hc g hk4 a3 a1 a5 a2 a4 a6 a7 hfo (by omega) (fun j hj => by
                rw [d4 j hj, Nat.zero_add, d3 j (by omega)]) N 0 FU FU κc (by omega) (by omega) (by omega) (by omega) (fun j hj => absurd hj (by omega)) (fun _ _ => rfl) (fun _ _ => rfl) g.qm
            · refine st_rd0 (q := 2) hc (by omega) (by decide) ?_ (fun fu h0 => ?_)
              · unfold fX3_faultOfPair fX3_faultOfPair_J42
                rw [lb_e, e0, x_faZ (by omega) a3 a1 a5, if_pos hly]
                simp only [ix_n a1, if_neg hf]
                rw [bi_e, if_neg (by decide)]
              · rw [fX8_read_L55, if_neg (hlt h0), if_pos rfl]
                simp only [gr_n hk4 (show 4 < 2 ^ 31 by decide), cl_n (show k < 2 ^ 31 by omega)]
                rw [a6, if_neg e4, if_pos hly, e1, a4, m_iv, bi_e, if_10]
                simp only [n1_le (show z < 2 ^ 30 by omega), if_neg hf]
          · refine st_rd0 (q := 3) hc (by omega) (by decide) ?_ (fun fu h0 => ?_)
            · unfold fX3_faultOfPair fX3_faultOfPair_J42
              rw [lb_e, e0, x_faZ (by omega) a3 a1 a5, if_neg hly, bi_e, if_neg (by decide)]
            · rw [fX8_read_L55, if_neg (hlt h0), if_pos rfl]
              simp only [gr_n hk4 (show 4 < 2 ^ 31 by decide), cl_n (show k < 2 ^ 31 by omega)]
              rw [a6, if_neg e4, if_neg hly]
      · simp only [if_neg hv]; exact ⟨_, _, _, rfl, rfl, h⟩
    · simp only [if_neg hy]; exact ⟨_, _, _, rfl, rfl, h⟩
  · simp only [if_neg hx]; exact ⟨_, _, _, rfl, rfl, h⟩
