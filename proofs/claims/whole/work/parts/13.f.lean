theorem w_lt (a b : Int32) : (a.toInt64 < b.toInt64) = (a < b) := by
  apply propext
  rw [Int64.lt_iff_toInt_lt, Int32.lt_iff_toInt_lt, Int32.toInt_toInt64, Int32.toInt_toInt64]
theorem x_faN {μ : Mem} {k : Nat} (hk : k < 4) (h : μ 43 k = -1) (y : Int32) (i : Int64) : fX3_faultAt (nI k) y i μ = some (1, μ) := by
  unfold fX3_faultAt
  rw [gr_n hk (by decide), cl_n (by omega), h, if_neg (by decide)]
theorem x_faZ {μ : Mem} {k z l : Nat} (hk : k < 4) (h43 : μ 43 k = nI z) (hz : z ≤ 40) (h42 : μ 42 k = nI l) (y : Int32) (i : Int64) : fX3_faultAt (nI k) y i μ = some (if nI l = y then (if (0 : Int64) ≤ i ∧ i < (nI z).toInt64 then 0 else 2) else 3, μ) := by
  unfold fX3_faultAt fX3_faultAt_J41 fX3_faultAt_J46
  simp only [gr_n hk (show 4 < 2 ^ 31 by decide), cl_n (show k < 2 ^ 31 by omega), h43, h42, cmp_lt]
  rw [if_pos (by rw [show (0 : Int32) = nI 0 from rfl, le_nI (by omega) (by omega)]; omega)]
  by_cases e : nI l = y
  · rw [if_pos e, if_pos e]
    by_cases h1 : i < 0
    · rw [if_pos h1, if_neg (fun c => absurd c.1 (Int64.not_le.mpr h1))]
    · rw [if_neg h1]
      by_cases h2 : i < (nI z).toInt64
      · rw [if_pos h2, if_pos ⟨Int64.not_lt.mp h1, h2⟩]
      · rw [if_neg h2, if_neg (fun c => h2 c.2)]
  · rw [if_neg e, if_neg e]
theorem ix_n {x : Int32} {z : Nat} (hz : z ≤ 40) : ((0 : Int64) ≤ x.toInt64 ∧ x.toInt64 < (nI z).toInt64) ↔ ∃ o, o < z ∧ x = nI o := by
  rw [l0, w_le, w_lt]
  constructor
  · intro h
    rcases cases_n x (n := z) (by omega) with g | g | g
    · exact g
    · exact absurd h.1 (Int32.not_le.mpr g)
    · exact absurd h.2 (Int32.not_lt.mpr g)
  · rintro ⟨o, ho, rfl⟩
    exact ⟨by rw [show (0 : Int32) = nI 0 from rfl, le_nI (by omega) (by omega)]; omega, by rw [lt_nI (by omega) (by omega)]; omega⟩
def layV (l : Nat) (v : Int32) : Int32 := if l = 0 then v.toInt8.toInt32 else if l = 1 then v.toInt16.toInt32 else v
theorem x_put {μ : Mem} {k i l : Nat} (hk : k < 4) (hi : i < 40) (hl : l < 3) (h42 : μ 42 k = nI l) (v : Int32) : fX3_put (nI k) (nI i) v μ = some (wr μ (38 + k) i (layV l v)) := by
  unfold fX3_put fX3_put_J67 layV
  simp only [gr_n hk (show 4 < 2 ^ 31 by decide), gr_n hi (show 40 < 2 ^ 31 by decide), cl_n (show k < 2 ^ 31 by omega), cl_n (show i < 2 ^ 31 by omega), h42, lb_e]
  rcases (show l = 0 ∨ l = 1 ∨ l = 2 by omega) with rfl | rfl | rfl <;> rcases (show k = 0 ∨ k = 1 ∨ k = 2 ∨ k = 3 by omega) with rfl | rfl | rfl | rfl <;> rfl
theorem m_layJ {κ : Mem} {k i : Nat} (hk : k < 4) (hi : i < 40) (v : Int32) : fX8_lay_J99 (((40 : Int32) * nI k) + nI i) v κ = some (1, wr κ 19 (40 * k + i) v) := by
  unfold fX8_lay_J99
  rw [show (40 : Int32) = nI 40 from rfl, pk_mul, nI_add, gr_n (by omega) (by decide), lb_e, cl_n (by omega)]
theorem st_lay : ST_lay Inv := by
  intro μ κ h x y v
  unfold fX7_lay fX8_lay
  simp only [x_within, bi_e, if_10, m_i3]
  by_cases hc : (0 : Int32) ≤ x ∧ x ≤ 3
  · simp only [if_pos hc]
    obtain ⟨k, hk, rfl⟩ := (wn (n := 3) (by decide)).1 hc
    simp only [gr_n (show k < 4 by omega) (show 4 < 2 ^ 31 by decide), cl_n (show k < 2 ^ 31 by omega)]
    rcases h.sht k (by omega) with ⟨a1, a2⟩ | ⟨z, l, a1, a2, a3, a4, a5, a6, a7⟩
    · rw [x_faN (by omega) a1, bi_e, if_neg (by decide), a2, if_pos rfl]
      exact ⟨_, _, _, rfl, rfl, h⟩
    · have e4 : ¬ nI l = (-4 : Int32) := by rcases (show l = 0 ∨ l = 1 ∨ l = 2 by omega) with rfl | rfl | rfl <;> decide
      rw [x_faZ (by omega) a3 (by omega) a5, bi_e, a5, if_pos rfl, a6, if_neg e4, m_iv, bi_e, if_10, a4]
      simp only [ix_n a1, n1_le (show z < 2 ^ 30 by omega)]
      by_cases hd : ∃ o, o < z ∧ y = nI o
      · rw [if_pos hd, if_pos rfl, if_pos hd]
        obtain ⟨i, hi, rfl⟩ := hd
        have key : ∀ w, w = layV l v → ∃ r ν ξ, some ((1 : Int32), wr μ (38 + k) i (layV l v)) = some (r, ν) ∧ some ((1 : Int32), wr κ 19 (40 * k + i) w) = some (r, ξ) ∧ Inv ν ξ := by
          rintro w rfl
          refine ⟨_, _, _, rfl, rfl, h.sh (fun b hb => wr_f _ _ _ _ (by omega)) (fun b _ _ hb => wr_f _ _ _ _ hb) (fun j hj => ?_)⟩
          by_cases e : j = k
          · subst e
            refine Or.inr ⟨z, l, a1, a2, by rw [wr_f _ _ _ _ (by omega)]; exact a3, by simp only [wr_i, Nat.reduceEqDiff, false_and, and_false, and_self, and_true, true_and, if_false, if_true, reduceIte, ne_eq, not_true_eq_false, not_false_eq_true]; exact a4, by rw [wr_f _ _ _ _ (by omega)]; exact a5, by simp only [wr_i, Nat.reduceEqDiff, false_and, and_false, and_self, and_true, true_and, if_false, if_true, reduceIte, ne_eq, not_true_eq_false, not_false_eq_true]; exact a6, fun q hq => ?_⟩
            rw [wr_i, wr_i]
            by_cases e2 : q = i
            · rw [if_pos ⟨rfl, e2⟩, if_pos ⟨rfl, by omega⟩]
            · rw [if_neg (fun c => e2 c.2), if_neg (fun c => e2 (by omega))]; exact a7 q hq
          · exact (h.sht j hj).f (by rw [wr_f _ _ _ _ (by omega)]) (by rw [wr_f _ _ _ _ (by omega)]) (wr_f _ _ _ _ (by omega)) (by rw [wr_f _ _ _ _ (by decide)]) (by rw [wr_f _ _ _ _ (by decide)]) (fun q hq => wr_o (by omega))
        rw [x_put (by omega) (by omega) a2 a5, bv_e, a6, sx8, sx16, m_layJ (by omega) (by omega), m_layJ (by omega) (by omega), m_layJ (by omega) (by omega)]
        rcases (show l = 0 ∨ l = 1 ∨ l = 2 by omega) with rfl | rfl | rfl
        · rw [if_pos (by decide)]; exact key _ rfl
        · rw [if_neg (by decide), if_pos (by decide)]; exact key _ rfl
        · rw [if_neg (by decide), if_neg (by decide)]; exact key _ rfl
      · rw [if_neg hd, if_neg hd, if_neg (by decide)]
        exact ⟨_, _, _, rfl, rfl, h⟩
  · simp only [if_neg hc]; exact ⟨_, _, _, rfl, rfl, h⟩
theorem x_become {sh sg : Nat} (hd : sh + 4 < sg ∨ sg + 4 < sh) (μ : Mem) : ∃ ν, fX4_become sh sg μ = some ν ∧ (∀ b, b < sh ∨ sh + 4 < b → ν b = μ b) ∧ (∀ j, 4 ≤ j → j ≤ 7 → ν sh j = μ sg j) ∧ (∀ i, i < 12 → ν (sh + 1) i = μ (sg + 1) i) ∧ (∀ i, i < 25 → ν (sh + 2) i = μ (sg + 2) i) ∧ (∀ i, i < 5 → ν (sh + 3) i = μ (sg + 3) i) ∧ (∀ i, i < 5 → ν (sh + 4) i = μ (sg + 4) i) := by
  unfold fX4_become
  rw [gd_t (by decide), lb_e, gd_t (by decide), lb_e, gd_t (by decide), lb_e, gd_t (by decide), lb_e, lb_e, lb_e, lb_e, lb_e]
  refine ⟨_, rfl, ?_, ?_, ?_, ?_, ?_, ?_⟩
  · intro b hb
    rw [wr_f _ _ _ _ (by omega), wr_f _ _ _ _ (by omega), wr_f _ _ _ _ (by omega), wr_f _ _ _ _ (by omega), wrA_f _ _ _ (by omega), wrA_f _ _ _ (by omega), wrA_f _ _ _ (by omega), wrA_f _ _ _ (by omega)]
  · intro j h1 h2
    rcases (show j = 4 ∨ j = 5 ∨ j = 6 ∨ j = 7 by omega) with rfl | rfl | rfl | rfl
    · rw [wr_o (by omega), wr_o (by omega), wr_o (by omega), wr_s, wrA_f _ _ _ (by omega), wrA_f _ _ _ (by omega), wrA_f _ _ _ (by omega), wrA_f _ _ _ (by omega)]
    · rw [wr_o (by omega), wr_o (by omega), wr_s, wr_f _ _ _ _ (by omega), wrA_f _ _ _ (by omega), wrA_f _ _ _ (by omega), wrA_f _ _ _ (by omega), wrA_f _ _ _ (by omega)]
    · rw [wr_o (by omega), wr_s, wr_f _ _ _ _ (by omega), wr_f _ _ _ _ (by omega), wrA_f _ _ _ (by omega), wrA_f _ _ _ (by omega), wrA_f _ _ _ (by omega), wrA_f _ _ _ (by omega)]
    · rw [wr_s, wr_f _ _ _ _ (by omega), wr_f _ _ _ _ (by omega), wr_f _ _ _ _ (by omega), wrA_f _ _ _ (by omega), wrA_f _ _ _ (by omega), wrA_f _ _ _ (by omega), wrA_f _ _ _ (by omega)]
  · intro i hi
    rw [wr_f _ _ _ _ (by omega), wr_f _ _ _ _ (by omega), wr_f _ _ _ _ (by omega), wr_f _ _ _ _ (by omega), wrA_f _ _ _ (by omega), wrA_f _ _ _ (by omega), wrA_f _ _ _ (by omega)]
    show (if sh + 1 = sh + 1 then va_cpy _ _ 0 0 12 i else _) = _
    rw [if_pos rfl, pk_cpy_in (by omega) (by omega)]
    rw [Nat.sub_zero, Nat.zero_add]
  · intro i hi
    rw [wr_f _ _ _ _ (by omega), wr_f _ _ _ _ (by omega), wr_f _ _ _ _ (by omega), wr_f _ _ _ _ (by omega), wrA_f _ _ _ (by omega), wrA_f _ _ _ (by omega)]
    show (if sh + 2 = sh + 2 then va_cpy _ _ 0 0 25 i else _) = _
    rw [if_pos rfl, pk_cpy_in (by omega) (by omega), wrA_f _ _ _ (by omega)]
    rw [Nat.sub_zero, Nat.zero_add]
  · intro i hi
    rw [wr_f _ _ _ _ (by omega), wr_f _ _ _ _ (by omega), wr_f _ _ _ _ (by omega), wr_f _ _ _ _ (by omega), wrA_f _ _ _ (by omega)]
    show (if sh + 3 = sh + 3 then va_cpy _ _ 0 0 5 i else _) = _
    rw [if_pos rfl, pk_cpy_in (by omega) (by omega), wrA_f _ _ _ (by omega), wrA_f _ _ _ (by omega)]
    rw [Nat.sub_zero, Nat.zero_add]
  · intro i hi
    rw [wr_f _ _ _ _ (by omega), wr_f _ _ _ _ (by omega), wr_f _ _ _ _ (by omega), wr_f _ _ _ _ (by omega)]
    show (if sh + 4 = sh + 4 then va_cpy _ _ 0 0 5 i else _) = _
    rw [if_pos rfl, pk_cpy_in (by omega) (by omega), wrA_f _ _ _ (by omega), wrA_f _ _ _ (by omega), wrA_f _ _ _ (by omega)]
    rw [Nat.sub_zero, Nat.zero_add]
theorem m_cpL {a b : Nat} (ha : a + 32 ≤ 160) (hb : b + 32 ≤ 160) (hd : a + 32 ≤ b ∨ b + 32 ≤ a) : ∀ (r i fu : Nat) (κ : Mem), i + r = 32 → r < fu → (∀ j, j < i → κ 1 (b + j) = κ 1 (a + j)) → ∃ ξ, fX8_copies_L2 fu (nI a) (nI b) (nI i) κ = some ξ ∧ (∀ c, c ≠ 1 → ξ c = κ c) ∧ (∀ j, (j < b ∨ b + 32 ≤ j) → ξ 1 j = κ 1 j) ∧ ∀ j, j < 32 → ξ 1 (b + j) = κ 1 (a + j)
  | 0, i, fu + 1, κ, h1, _, h => by
    have e : i = 32 := by omega
    subst e
    refine ⟨κ, ?_, fun b _ => rfl, fun j _ => rfl, h⟩
    rw [fX8_copies_L2, if_pos (by decide)]
  | r + 1, i, fu + 1, κ, h1, h2, h => by
    obtain ⟨ξ, a1, a2, a3, a4⟩ := m_cpL ha hb hd r (i + 1) fu (wr κ 1 (b + i) (κ 1 (a + i))) (by omega) (by omega) (fun j hj => by
      rw [wr_i, wr_o (show ¬ (1 = 1 ∧ a + j = b + i) by omega)]
      by_cases e : j = i
      · subst e; rw [if_pos ⟨rfl, rfl⟩]
      · rw [if_neg (fun c => e (by omega))]; exact h j (by omega))
    refine ⟨ξ, ?_, fun c hc => by rw [a2 c hc, wr_f _ _ _ _ hc], fun j hj => by rw [a3 j hj, wr_o (by omega)], fun j hj => by rw [a4 j hj, wr_o (by omega)]⟩
    rw [fX8_copies_L2, if_neg (by rw [show (32 : Int32) = nI 32 from rfl, le_nI (by omega) (by omega)]; omega), nI_add, nI_add, gr_n (by omega) (by omega), gr_n (by omega) (by omega), lb_e, lb_e, nI_s1, cl_n (by omega), cl_n (by omega)]
    exact a1
theorem m_copies {a b : Nat} (ha : a + 32 ≤ 160) (hb : b + 32 ≤ 160) (hd : a + 32 ≤ b ∨ b + 32 ≤ a) (κ : Mem) : ∃ ξ, fX8_copies (nI a) (nI b) κ = some ξ ∧ (∀ c, c ≠ 1 → ξ c = κ c) ∧ (∀ j, (j < b ∨ b + 32 ≤ j) → ξ 1 j = κ 1 j) ∧ ∀ j, j < 32 → ξ 1 (b + j) = κ 1 (a + j) := by
  obtain ⟨q, hq⟩ := FU_s 32 (by decide)
  obtain ⟨ξ, h⟩ := m_cpL ha hb hd 32 0 FU κ (by omega) (by omega) (fun j hj => absurd hj (by omega))
  unfold fX8_copies
  rw [lb_e, show (0 : Int32) = nI 0 from rfl]
  exact ⟨ξ, h⟩
/-- the same data at another place -/
theorem Pg.cp {μ κ ν ξ : Mem} {sh pg sg pq n H : Nat} {D : Nat → Nat → Int32} {hs : Nat → Nat} {P R : List Nat} {ps st : Int32} (g : Pg μ κ sg pg n H D hs P R ps st) (f4 : ∀ j, 4 ≤ j → j ≤ 7 → ν sh j = μ sg j) (e1 : ∀ i, i < 12 → ν (sh + 1) i = μ (sg + 1) i) (e2 : ∀ i, i < 25 → ν (sh + 2) i = μ (sg + 2) i) (e3 : ∀ i, i < 5 → ν (sh + 3) i = μ (sg + 3) i) (e4 : ∀ i, i < 5 → ν (sh + 4) i = μ (sg + 4) i) (kb : ∀ b, b ≠ 1 → b ≠ 16 → ξ b = κ b) (k1 : ∀ j, j < 32 → ξ 1 (j + pq) = κ 1 (j + pg)) : Pg ν ξ sh pq n H D hs P R ps st := by
  have hn := g.ok.n5
  have h6 := g.ok.h6
  refine ⟨g.ok, g.hP, g.hR, g.pk, g.sk, ⟨by rw [f4 5 (by decide) (by decide)]; exact g.dx.1, hn, fun o w ho hw => by rw [e2 _ (by omega)]; exact g.dx.2.2 o w ho hw⟩, ⟨by rw [f4 4 (by decide) (by decide)]; exact g.rx.1, h6, fun i hi => by rw [e1 _ (by omega), e1 _ (by omega)]; exact g.rx.2.2 i hi⟩, fun i hi => by rw [e3 _ (by omega)]; exact g.px i hi, fun i hi => by rw [e4 _ (by omega)]; exact g.qx i hi, by rw [f4 6 (by decide) (by decide)]; exact g.ux, by rw [f4 7 (by decide) (by decide)]; exact g.sx, by rw [kb 0 (by decide) (by decide)]; exact g.nm, ⟨by rw [kb 0 (by decide) (by decide)]; exact g.rm.1, h6, by rw [kb 2 (by decide) (by decide), kb 3 (by decide) (by decide)]; exact g.rm.2.2⟩, by rw [kb 4 (by decide) (by decide)]; exact g.dm, fun o ho => by rw [k1 _ (by omega), k1 _ (by omega), k1 _ (by omega), k1 _ (by omega)]; exact g.c0 o ho, fun i hi => ?_, fun i hi => ?_, by rw [k1 _ (by omega)]; exact g.um, by rw [k1 _ (by omega)]; exact g.sm⟩
  · rw [show 20 + pq + i = (20 + i) + pq by omega, k1 _ (by omega), show (20 + i) + pg = 20 + pg + i by omega]; exact g.pm i hi
  · rw [show 25 + pq + i = (25 + i) + pq by omega, k1 _ (by omega), show (25 + i) + pg = 25 + pg + i by omega]; exact g.qm i hi
theorem Inv.im {μ κ ν ξ : Mem} (h : Inv μ κ) (hx : ∀ b, b < 8 ∨ (17 < b ∧ b ≠ 35) → ν b = μ b) (hb : ∀ b, b ≠ 1 → b ≠ 16 → ξ b = κ b) (h1 : ∀ j, j < 32 → ξ 1 j = κ 1 j) (hi : ∀ k, k < 2 → imgI ν ξ k) : Inv ν ξ := by
  obtain ⟨n, H, D, hs, P, R, ps, st, g⟩ := h.main
  have hz : ξ 0 = κ 0 := hb 0 (by decide) (by decide)
  refine ⟨⟨n, H, D, hs, P, R, ps, st, g.f (fun b _ _ => hx b (by omega)) (by rw [hz]) (by rw [hz]) (hb _ (by decide) (by decide)) (hb _ (by decide) (by decide)) (hb _ (by decide) (by decide)) (fun j hj => h1 j hj)⟩, hi, h.sen.f (hx _ (by omega)) (hx _ (by omega)) (hx _ (by omega)) (by rw [hz]) (by rw [hz]) (hb _ (by decide) (by decide)), h.tap.f (by rw [hx _ (by omega)]) (hx _ (by omega)) (by rw [hz]) (hb _ (by decide) (by decide)), fun k hk => (h.sht k hk).f (by rw [hx _ (by omega)]) (by rw [hx _ (by omega)]) (hx _ (by omega)) (by rw [hb _ (by decide) (by decide)]) (by rw [hb _ (by decide) (by decide)]) (fun i _ => by rw [hb _ (by decide) (by decide)]), ?_, ?_, by rw [hb _ (by decide) (by decide)]; exact h.cut, by rw [hb _ (by decide) (by decide)]; exact h.ltr⟩
  · rw [hx 0 (by omega), hz]; exact h.flt
  · rw [hx 0 (by omega), hz]; exact h.trn
theorem nar1 : vp_nar .boolean (1 : Int32) = 1 := by decide
theorem nar0 : vp_nar .boolean (0 : Int32) = 0 := by decide
theorem st_keep : ST_keep Inv := by
  intro μ κ h x
  obtain ⟨n, H, D, hs, P, R, ps, st, g⟩ := h.main
  unfold fX7_keep fX8_keep fX7_keep_J25 fX8_keep_J37
  simp only [x_within, bi_e, if_10, m_i1]
  by_cases hc : (0 : Int32) ≤ x ∧ x ≤ 1
  · simp only [if_pos hc]
    obtain ⟨k, hk, rfl⟩ := (wn (n := 1) (by decide)).1 hc
    obtain ⟨ν, a1, a2, a3, a4, a5, a6, a7⟩ := x_become (sh := 8 + 5 * k) (sg := 3) (by omega) μ
    obtain ⟨ξ, b1, b2, b3, b4⟩ := m_copies (a := 0) (b := 32 * (k + 1)) (by omega) (by omega) (by omega) κ
    have b1 : fX8_copies (0 : Int32) ((32 : Int32) * (nI k + 1)) κ = some ξ := by
      rw [nI_s1, show (32 : Int32) = nI 32 from rfl, pk_mul]; exact b1
    have i0 : (μ 35 k = 0 ∧ κ 16 k = 0) ∨ (μ 35 k = 1 ∧ κ 16 k = 1) := by
      rcases h.img k (by omega) with a | a
      · exact Or.inl a
      · exact Or.inr ⟨a.1, a.2.1⟩
    have key : Inv (wr ν 35 k 1) (wr ξ 16 k 1) := by
      refine h.im (fun b hb => by rw [wr_f _ _ _ _ (by omega), a2 b (by omega)]) (fun b h1 h2 => by rw [wr_f _ _ _ _ h2, b2 b h1]) (fun j hj => by rw [wr_f _ _ _ _ (by decide), b3 j (by omega)]) (fun q hq => ?_)
      by_cases e : q = k
      · subst e
        refine Or.inr ⟨wr_s _ _ _ _, wr_s _ _ _ _, n, H, D, hs, P, R, ps, st, g.cp (fun j h1 h2 => ?_) ?_ ?_ ?_ ?_ (fun b h1 h2 => by rw [wr_f _ _ _ _ h2, b2 b h1]) (fun j hj => ?_)⟩
        · rw [wr_f _ _ _ _ (by omega)]; exact a3 j h1 h2
        · intro i hi; rw [wr_f _ _ _ _ (by omega)]; exact a4 i hi
        · intro i hi; rw [wr_f _ _ _ _ (by omega)]; exact a5 i hi
        · intro i hi; rw [wr_f _ _ _ _ (by omega)]; exact a6 i hi
        · intro i hi; rw [wr_f _ _ _ _ (by omega)]; exact a7 i hi
        · rw [wr_f _ _ _ _ (by decide), Nat.add_comm, b4 j hj, Nat.zero_add]; rfl
      · unfold imgI
        rw [wr_o (by omega), wr_o (by omega), a2 35 (by omega), b2 16 (by decide)]
        rcases h.img q hq with c | ⟨c1, c2, n', H', D', hs', P', R', ps', st', c⟩
        · exact Or.inl c
        · exact Or.inr ⟨c1, c2, n', H', D', hs', P', R', ps', st', c.f (fun b h1 h2 => by rw [wr_f _ _ _ _ (by omega), a2 b (by omega)]) (by rw [wr_f _ _ _ _ (by decide), b2 0 (by decide)]) (by rw [wr_f _ _ _ _ (by decide), b2 0 (by decide)]) (by rw [wr_f _ _ _ _ (by decide), b2 2 (by decide)]) (by rw [wr_f _ _ _ _ (by decide), b2 3 (by decide)]) (by rw [wr_f _ _ _ _ (by decide), b2 4 (by decide)]) (fun j hj => by rw [wr_f _ _ _ _ (by decide), b3 _ (by omega)])⟩
    have hb16 : ξ 16 k = κ 16 k := by rw [b2 16 (by decide)]
    rw [b1, bv_e]
    simp only [gr_n (show k < 2 by omega) (show 2 < 2 ^ 31 by decide), cl_n (show k < 2 ^ 31 by omega), lb_e, nar1]
    rcases (show k = 0 ∨ k = 1 by omega) with rfl | rfl
    · have a1 : fX4_become 8 3 μ = some ν := a1
      rw [if_pos rfl, if_pos rfl, a1, bv_e, bv_e]
      rcases i0 with ⟨c1, c2⟩ | ⟨c1, c2⟩
      · rw [if_pos c1, if_pos (by rw [hb16]; exact c2)]; exact ⟨_, _, _, rfl, rfl, key⟩
      · rw [if_neg (by rw [c1]; decide), if_neg (by rw [hb16, c2]; decide)]; exact ⟨_, _, _, rfl, rfl, key⟩
    · have a1 : fX4_become 13 3 μ = some ν := a1
      rw [if_neg (show ¬ (1 : Nat) = 0 by decide), if_neg (show ¬ (1 : Nat) = 0 by decide), if_pos (show (1 : Nat) = 1 from rfl), if_pos (show (1 : Nat) = 1 from rfl), a1, bv_e, bv_e]
      rcases i0 with ⟨c1, c2⟩ | ⟨c1, c2⟩
      · rw [if_pos c1, if_pos (by rw [hb16]; exact c2)]; exact ⟨_, _, _, rfl, rfl, key⟩
      · rw [if_neg (by rw [c1]; decide), if_neg (by rw [hb16, c2]; decide)]; exact ⟨_, _, _, rfl, rfl, key⟩
  · simp only [if_neg hc]; exact ⟨_, _, _, rfl, rfl, h⟩
theorem st_undo : ST_undo Inv := by
  intro μ κ h x
  unfold fX7_undo fX8_undo
  simp only [x_within, bi_e, if_10, m_i1]
  by_cases hc : (0 : Int32) ≤ x ∧ x ≤ 1
  · simp only [if_pos hc]
    obtain ⟨k, hk, rfl⟩ := (wn (n := 1) (by decide)).1 hc
    simp only [gr_n (show k < 2 by omega) (show 2 < 2 ^ 31 by decide), cl_n (show k < 2 ^ 31 by omega)]
    rcases h.img k (by omega) with ⟨c1, c2⟩ | ⟨c1, c2, n, H, D, hs, P, R, ps, st, g⟩
    · rw [if_pos c1, if_pos c2]; exact ⟨_, _, _, rfl, rfl, h⟩
    · rw [if_neg (show ¬ μ 35 k = 0 by rw [c1]; decide), if_neg (show ¬ κ 16 k = 0 by rw [c2]; decide)]
      obtain ⟨ν, a1, a2, a3, a4, a5, a6, a7⟩ := x_become (sh := 3) (sg := 8 + 5 * k) (by omega) μ
      obtain ⟨ξ, b1, b2, b3, b4⟩ := m_copies (a := 32 * (k + 1)) (b := 0) (by omega) (by omega) (by omega) κ
      have b1 : fX8_copies ((32 : Int32) * (nI k + 1)) (0 : Int32) κ = some ξ := by
        rw [nI_s1, show (32 : Int32) = nI 32 from rfl, pk_mul]; exact b1
      have g' : Pg ν ξ 3 0 n H D hs P R ps st := g.cp a3 a4 a5 a6 a7 (fun b h1 h2 => b2 b h1) (fun j hj => by
        have := b4 j hj
        rw [Nat.zero_add, Nat.add_comm] at this
        exact this)
      have key : Inv ν ξ := h.m (fun b hb => a2 b (by omega)) (AgM0.o b2) (fun j h1 h2 => b3 j (by omega)) ⟨n, H, D, hs, P, R, ps, st, g'⟩
      have sm : ξ 1 31 = st := g'.sm
      rw [b1, bv_e]
      have e1 : ν 3 7 = st := g'.sx
      rcases (show k = 0 ∨ k = 1 by omega) with rfl | rfl
      · have a1 : fX4_become 3 8 μ = some ν := a1
        rw [if_pos rfl, a1, bv_e, e1]; exact ⟨_, _, _, rfl, congrArg (fun v => some (v, ξ)) sm, key⟩
      · have a1 : fX4_become 3 13 μ = some ν := a1
        rw [if_neg (by decide), if_pos rfl, a1, bv_e, e1]; exact ⟨_, _, _, rfl, congrArg (fun v => some (v, ξ)) sm, key⟩
  · simp only [if_neg hc]; exact ⟨_, _, _, rfl, rfl, h⟩
