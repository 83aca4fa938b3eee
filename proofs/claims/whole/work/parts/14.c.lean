/-! soonest -/
theorem wlk_n {κ : Mem} {n H : Nat} {D : Nat → Nat → Int32} {P R : List Nat} {ps : Int32} (h : wlkM κ n H D P R ps) : κ 0 5 = nI n := h.1.1
/-- a walk's world but for the round -/
def wlkR (κ : Mem) (n H : Nat) (D : Nat → Nat → Int32) (P : List Nat) (ps st : Int32) : Prop := datM κ n D ∧ roaM κ H D ∧ rowM κ 20 n P ∧ κ 1 30 + 10 = ps ∧ κ 1 31 = st
theorem wlkR_of {κ : Mem} {n H : Nat} {D : Nat → Nat → Int32} {P R : List Nat} {ps st : Int32} (h : wlkM κ n H D P R ps) (hst : κ 1 31 = st) : wlkR κ n H D P ps st := ⟨h.1, h.2.1, h.2.2.1, h.2.2.2.2, hst⟩
/-- the round is laid -/
theorem wlkR_l {κ ξ : Mem} {n H : Nat} {D : Nat → Nat → Int32} {P Q : List Nat} {ps st : Int32} (h : wlkR κ n H D P ps st) (kb : ∀ b, b ≠ 1 → ξ b = κ b) (k1 : ∀ j, (j < 25 ∨ 25 + n ≤ j) → ξ 1 j = κ 1 j) (hm : rowM ξ 25 n Q) : wlkM ξ n H D P Q ps ∧ ξ 1 31 = st := by
  obtain ⟨h1, h2, h3, h4, h5⟩ := h
  have hn := h1.2.1
  refine ⟨⟨⟨by rw [kb 0 (by decide)]; exact h1.1, hn, fun o ho => by rw [k1 _ (by omega), kb 4 (by decide), k1 _ (by omega), k1 _ (by omega), k1 _ (by omega)]; exact h1.2.2 o ho⟩, roaM_f (by rw [kb 0 (by decide)]) (kb 2 (by decide)) (kb 3 (by decide)) h2, fun i hi => by rw [k1 _ (by omega)]; exact h3 i hi, hm, by rw [k1 _ (by omega)]; exact h4⟩, by rw [k1 _ (by omega)]; exact h5⟩
/-- the row of the round was changed, and laid again -/
theorem Pg.f2 {μ κ ν ξ : Mem} {n H : Nat} {D : Nat → Nat → Int32} {hs : Nat → Nat} {P R : List Nat} {ps st : Int32} (g : Pg μ κ 3 0 n H D hs P R ps st) (hb : ∀ b, 3 ≤ b → b ≤ 7 → ν b = μ b) (hm : AgM0 κ ξ) (k1 : ∀ j, (j < 25 ∨ 25 + n ≤ j) → ξ 1 j = κ 1 j) (hr : rowM ξ 25 n R) : Pg ν ξ 3 0 n H D hs P R ps st := by
  have hn := g.ok.n5
  refine g.f hb hm.f3 hm.f5 hm.b2 hm.b3 hm.b4 (fun j hj => ?_)
  show ξ 1 j = κ 1 j
  by_cases e : j < 25 ∨ 25 + n ≤ j
  · exact k1 j e
  · have h1 := hr (j - 25) (by omega)
    have h2 := g.qm (j - 25) (by omega)
    rw [show 25 + (j - 25) = j by omega] at h1
    rw [show 25 + 0 + (j - 25) = j by omega] at h2
    rw [h1, h2]
theorem x_trff {μ : Mem} {n H : Nat} {D : Nat → Nat → Int32} {hs : Nat → Nat} {ps st : Int32} {P R : List Nat} (hf : fixO n H D hs P R) (hx : shpX μ n H D hs P R ps st) : ∃ ν, fX7_takeRoundsFromFirst μ = some ν ∧ (∀ b, b < 24 ∨ 28 < b → ν b = μ b) ∧ trS ν n H D P (prm n 0) ps st := by
  have hn := hf.1
  obtain ⟨m1, m2, a1, a2, a3, a4⟩ := x_tkst st hf hx
  obtain ⟨ν, b1, b2, b3⟩ := x_lay (a := 25) hn m2
  rw [← (prm_len n (by omega)).2] at b3
  unfold fX7_takeRoundsFromFirst
  rw [x_every hx.1.1 hn, bi_e, hx.2.2.2.2.2, a1, bv_e, a2, bv_e, a4.d.1, b1, bv_e]
  exact ⟨ν, rfl, fun b hb => by rw [b2 b (by omega), a3 b (by omega) (by omega) (by omega) (by omega)], a4.row b2 b3⟩
theorem pw5l {n : Nat} (hn : n ≤ 5) : 5 ^ n ≤ 3125 := pw5b n (by omega)
theorem fct_le : ∀ n, n < 6 → fct n ≤ 120 ∧ 0 < fct n := by decide
/-- the trip's calls, where the k-th round is next -/
def nxtS (μ : Mem) (n H : Nat) (D : Nat → Nat → Int32) (P : List Nat) (k : Nat) (ps st : Int32) : Prop := k < fct n → trS μ n H D P (prm n k) ps st
theorem st_snL {n H : Nat} {D : Nat → Nat → Int32} {hs : Nat → Nat} {ps : Int32} {sk : Nat} {P R : List Nat} (x1 : Int32) (ok : DOK n H D hs) (hP : P ∈ perms n) (hR : R ∈ perms n) (hsk : sk ≤ 60) : ∀ (r c f1 f2 : Nat) (μ κ : Mem) (x4 x5 y3 y4 : Int32), c + r = 5 ^ n → r < f1 → r < f2 → nxtS μ n H D P (pcnt n c) ps (nI sk) → wlkR κ n H D P ps (nI sk) → ((pcnt n c = 0 ∧ y3 = 1000000) ∨ (0 < pcnt n c ∧ x4 = y3 ∧ x5 = y4)) → ∃ rr ν ξ, fX7_soonest_L37 f1 x1 (nI n) (nI (fct n)) x4 x5 (nI (pcnt n c)) μ = some (rr, ν) ∧ fX8_soonest_L29 f2 x1 (nI (num n R)) y3 y4 (nI c) κ = some (rr, ξ) ∧ (∀ b, b < 24 ∨ 29 < b → ν b = μ b) ∧ (∀ b, b ≠ 0 → b ≠ 1 → b ≠ 14 → ξ b = κ b) ∧ (∀ j, j ≠ 29 → j ≠ 30 → j ≠ 31 → j ≠ 32 → j ≠ 33 → ξ 0 j = κ 0 j) ∧ (∀ j, (j < 25 ∨ 25 + n ≤ j) → ξ 1 j = κ 1 j) ∧ rowM ξ 25 n R
  | 0, c, f1 + 1, f2 + 1, μ, κ, x4, x5, y3, y4, h1, _, _, ht, hw, hv => by
    have hn := ok.n5
    have h5 := pw5l hn
    have hF := fct_le n (by omega)
    have e : c = 5 ^ n := by omega
    have hle : nI (5 ^ n) ≤ nI c := by rw [e]; exact Int32.le_refl _
    have ek : pcnt n c = fct n := by rw [e]; exact pcnt_all hn
    have hle2 : nI (fct n) ≤ nI (pcnt n c) := by rw [ek]; exact Int32.le_refl _
    obtain ⟨ξ, b1, b2, b3, b4⟩ := m_relay (κ := κ) (r := 25) hw.1.1 hn (by decide) hR
    have b1 : fX8_laysCode (25 : Int32) (nI (num n R)) κ = _ := b1
    rw [fX7_soonest_L37, if_pos hle2, fX8_soonest_L29, m_codes hw.1.1 hn, bi_e, if_pos hle, b1, bi_e]
    unfold fX7_soonest_J124 fX8_soonest_J107
    have fr : (∀ b, b ≠ 0 → b ≠ 1 → b ≠ 14 → ξ b = κ b) ∧ (∀ j, j ≠ 29 → j ≠ 30 → j ≠ 31 → j ≠ 32 → j ≠ 33 → ξ 0 j = κ 0 j) ∧ (∀ j, (j < 25 ∨ 25 + n ≤ j) → ξ 1 j = κ 1 j) ∧ rowM ξ 25 n R := ⟨fun b _ hb _ => b2 b hb, fun j _ _ _ _ _ => by rw [b2 0 (by decide)], b3, b4⟩
    rcases hv with ⟨h, -⟩ | ⟨-, rfl, rfl⟩
    · omega
    by_cases e0 : x1 = 0
    · rw [if_pos e0, if_pos e0]; exact ⟨_, _, _, rfl, rfl, fun b _ => rfl, fr⟩
    · rw [if_neg e0, if_neg e0]; exact ⟨_, _, _, rfl, rfl, fun b _ => rfl, fr⟩
  | r + 1, c, f1 + 1, f2 + 1, μ, κ, x4, x5, y3, y4, h1, h2, h3, ht, hw, hv => by
    have hn := ok.n5
    have h5 := pw5l hn
    have hF := fct_le n (by omega)
    have hc : c < 5 ^ n := by omega
    have hlt : ¬ nI (5 ^ n) ≤ nI c := by rw [le_nI (by omega) (by omega)]; omega
    cases ho : okP n (dg n c) with
    | false =>
      have b1 := (m_lays (κ := κ) (r := 25) hw.1.1 hn (by decide) hc).2 ho
      have b1 : fX8_laysCode (25 : Int32) (nI c) κ = _ := b1
      have e := pc_no ho
      obtain ⟨rr, ν, ξ, q1, q2, q3⟩ := st_snL (R := R) x1 ok hP hR hsk r (c + 1) (f1 + 1) f2 μ κ x4 x5 y3 y4 (by omega) (by omega) (by omega) (by rw [e]; exact ht) hw (by rw [e]; exact hv)
      rw [e] at q1
      refine ⟨rr, ν, ξ, q1, ?_, q3⟩
      rw [fX8_soonest_L29, m_codes hw.1.1 hn, bi_e, if_neg hlt, b1, bi_e, if_pos rfl]
      unfold fX8_soonest_J83
      rw [lb_e, nI_s1]
      exact q2
    | true =>
      obtain ⟨p1, p2, p3⟩ := pc_ok hn hc ho
      have hQ := prm_mem hn p2
      have hnum : num n (prm n (pcnt n c)) = c := by rw [p1]; exact num_dg n (by omega) c hc
      have hfQ : fixO n H D hs P (prm n (pcnt n c)) := ⟨hn, ok.hh, hP, hQ⟩
      obtain ⟨m2, m3, c1, c2, c3, c4, c5⟩ := x_rf hfQ (ht p2)
      obtain ⟨ν, g1, g2, g3⟩ := x_next hn p2 c4.cs
      obtain ⟨k1, b1, b2, b3, b4⟩ := (m_lays (κ := κ) (r := 25) hw.1.1 hn (by decide) hc).1 ho
      have b1 : fX8_laysCode (25 : Int32) (nI c) κ = _ := b1
      rw [← p1] at b4
      obtain ⟨hw1, hst1⟩ := wlkR_l hw b2 b3 b4
      obtain ⟨k2, d1, d2, d3, -⟩ := m_whole hfQ hw1 hst1
      have hw2 : wlkM k2 n H D P (prm n (pcnt n c)) ps := wlkM_f hw1 d2 (d3 3 (by decide) (by decide) (by decide) (by decide) (by decide)) (d3 5 (by decide) (by decide) (by decide) (by decide) (by decide))
      have hst2 : k2 1 31 = nI sk := by rw [d2 1 (by decide) (by decide)]; exact hst1
      obtain ⟨hm, hh1, hh2, hh3⟩ := tH_nb (ps := ps) (P := P) ok hQ (all_lt n) sk
      obtain ⟨T, hT⟩ : ∃ T, T = tH D hs n ps (nI sk) P (prm n (pcnt n c)) (2 ^ n - 1) := ⟨_, rfl⟩
      have hxn : fX7_numberOf 25 (nI n) m3 = some (nI c, m3) := by rw [x_number c4.cs hn, hnum]
      have fin : ∀ z4 z5, ∃ rr ν' ξ', fX7_soonest_L37 f1 x1 (nI n) (nI (fct n)) z4 z5 (nI (pcnt n c + 1)) ν = some (rr, ν') ∧ fX8_soonest_L29 f2 x1 (nI (num n R)) z4 z5 (nI (c + 1)) k2 = some (rr, ξ') ∧ (∀ b, b < 24 ∨ 29 < b → ν' b = μ b) ∧ (∀ b, b ≠ 0 → b ≠ 1 → b ≠ 14 → ξ' b = κ b) ∧ (∀ j, j ≠ 29 → j ≠ 30 → j ≠ 31 → j ≠ 32 → j ≠ 33 → ξ' 0 j = κ 0 j) ∧ (∀ j, (j < 25 ∨ 25 + n ≤ j) → ξ' 1 j = κ 1 j) ∧ rowM ξ' 25 n R := by
        intro z4 z5
        obtain ⟨rr, ν', ξ', q1, q2, q3, q4, q5, q6, q7⟩ := st_snL (R := R) x1 ok hP hR hsk r (c + 1) f1 f2 ν k2 z4 z5 z4 z5 (by omega) (by omega) (by omega) (by rw [p3]; exact fun hk => c4.row g2 (g3 hk)) (wlkR_of hw2 hst2) (Or.inr ⟨by omega, rfl, rfl⟩)
        rw [p3] at q1
        exact ⟨rr, ν', ξ', q1, q2, fun b hb => by rw [q3 b hb, g2 b (by omega), c3 b (by omega) (by omega) (by omega)], fun b e0 e1 e2 => by rw [q4 b e0 e1 e2, d2 b e0 e2, b2 b e1], fun j j1 j2 j3 j4 j5 => by rw [q5 j j1 j2 j3 j4 j5, d3 j j1 j2 j3 j4 j5, b2 0 (by decide)], fun j hj => by rw [q6 j hj, d2 1 (by decide) (by decide), b3 j hj], q7⟩
      have hlt2 : ¬ nI (fct n) ≤ nI (pcnt n c) := by rw [le_nI (by omega) (by omega)]; omega
      rw [fX7_soonest_L37, if_neg hlt2, c1, bv_e, c2, bv_e]
      rw [fX8_soonest_L29, m_codes hw.1.1 hn, bi_e, if_neg hlt, b1, bi_e, if_neg one_ne, d1, bi_e]
      unfold fX7_soonest_J74 fX7_soonest_J96 fX8_soonest_J68 fX8_soonest_J82 fX8_soonest_J83
      simp only [lb_e, nI_s1]
      rw [hxn, bi_e, g1, bv_e, c5.2.2.2.1, ← hT]
      rw [← hT] at hh3
      rcases hv with ⟨e0, rfl⟩ | ⟨e0, rfl, rfl⟩
      · have hbig : ¬ (1000000 : Int32) ≤ T := by rw [hh3, show (1000000 : Int32) = nI 1000000 from rfl, le_nI (by omega) (by omega)]; omega
        rw [if_pos (show nI (pcnt n c) = 0 by rw [e0]; rfl), if_neg hbig, if_neg hbig]
        exact fin _ _
      · rw [if_neg (show ¬ nI (pcnt n c) = 0 from nI_ne0 e0 (by omega))]
        by_cases e1 : x4 ≤ T
        · rw [if_pos e1, if_pos e1, if_pos e1]; exact fin _ _
        · rw [if_neg e1, if_neg e1, if_neg e1]; exact fin _ _
theorem st_soonest : ST_soonest Inv := by
  intro μ κ h x
  obtain ⟨n, H, D, hs, P, R, ps, st, g⟩ := h.main
  have hn := g.ok.n5
  have h5 := pw5l hn
  unfold fX7_soonest fX8_soonest
  rw [x_within, bi_e, if_10, m_i1, bi_e, if_10]
  by_cases hc : (0 : Int32) ≤ x ∧ x ≤ 1
  · rw [if_pos hc, if_pos hc]
    obtain ⟨f, hf⟩ := FU_s 3200 (by decide)
    obtain ⟨sk, hsk, rfl⟩ := g.sk
    obtain ⟨m1, a1, a2, a3⟩ := x_trff g.fix g.shp
    have q : fX8_codeOf (25 : Int32) κ = _ := m_code (r := 25) g.nm g.qm hn (by decide)
    obtain ⟨rr, ν, ξ, q1, q2, q3, q4, q5, q6, q7⟩ := st_snL (R := R) x g.ok g.hP g.hR hsk (5 ^ n) 0 FU FU m1 κ 0 0 1000000 0 (by omega) (by omega) (by omega) (fun _ => a3) (wlkR_of g.wlk g.sm) (Or.inl ⟨rfl, rfl⟩)
    have q1 : fX7_soonest_L37 FU x (nI n) (nI (fct n)) 0 0 0 m1 = _ := q1
    have q2 : fX8_soonest_L29 FU x (nI (num n R)) 1000000 0 0 κ = _ := q2
    rw [lb_e, g.dx.1, x_arr hn, bi_e, lb_e, lb_e, a1, bv_e, lb_e, q1, q, bi_e, lb_e, lb_e, lb_e, q2]
    refine ⟨_, _, _, rfl, rfl, h.m (fun b hb => by rw [q3 b (by omega), a2 b (by omega)]) (AgM0.n q4 q5) (fun j h1 h2 => q6 j (by omega)) ⟨n, H, D, hs, P, R, ps, nI sk, ?_⟩⟩
    have hb : ∀ b, b < 24 → ν b = μ b := fun b hb => by rw [q3 b (by omega), a2 b (by omega)]
    exact g.f2 (fun b _ h2 => hb b (by omega)) (AgM0.n q4 q5) q6 q7
  · rw [if_neg hc, if_neg hc]; exact ⟨_, _, _, rfl, rfl, h⟩
