/-- the bits that are paid -/
noncomputable def tB (D : Nat → Nat → Int32) (hs : Nat → Nat) (n : Nat) (ps st : Int32) (P R : List Nat) (s : Nat) : Nat := mcl (mcl s (tS D hs n ps st P R s)) (tQ D hs n ps st P R s).2.2.2
theorem tB_lt {D : Nat → Nat → Int32} {hs : Nat → Nat} {n s : Nat} {ps st : Int32} {P R : List Nat} (hn : n ≤ 5) (hs2 : s < 2 ^ n) : tB D hs n ps st P R s < 32 := by
  have := pow5 n (by omega)
  exact Nat.lt_of_lt_of_le (mcl_lt (mcl_lt hs2)) this.2
theorem x_paid {ν : Mem} {n H s : Nat} {D : Nat → Nat → Int32} {hs : Nat → Nat} {ps st : Int32} {P R : List Nat} (hf : fixO n H D hs P R) (hs2 : s < 2 ^ n) (hr : resX ν D hs n ps st P R s) (ht : trpX ν (csl n R s).length (csl n R s) (csl n P s) ps st) : fX6_paidBits ν = some (nI (tB D hs n ps st P R s), ν) := by
  obtain ⟨l1, l2, -⟩ := tS_lt (D := D) (hs := hs) (ps := ps) (st := st) (P := P) hf.1 hf.2.2.2 hs2
  exact x_pb (cl_of hf.1 hf.2.2.2 hs2) ht.1 ht.2.2.2.1 l1 l2 hr.2.2.2.2.1 hr.2.2.2.2.2.1
theorem lk_x {μ : Mem} {n had v : Nat} {D : Nat → Nat → Int32} {K w : Int32} (hd : datX μ 3 n D) (hh : had < 32) (hv : v < 11) : ∀ (r m fu : Nat), m + r = 2 ^ n → r < fu → fX7_luck_L58 fu (nI v) K w (nI had) (nI (2 ^ n - 1)) (lN (lkT (fun q => decide (¬ bsum (D 3) (q &&& had) n < K)) v n m)) (nI m) μ = (bl (fX7_partOfFraction (lN (lkT (fun q => decide (¬ bsum (D 3) (q &&& had) n < K)) v n (2 ^ n))) (lN (10 ^ n)) w μ) fun v4 m3 => some (v4, m3))
  | 0, m, fu + 1, h1, _ => by
    have hn := hd.2.1
    have hp := pow5 n (by omega)
    have h0 := Nat.two_pow_pos n
    have e : m = 2 ^ n := by omega
    have q : fX7_power (10 : Int64) (nI n) μ = _ := x_pow 10 n (by omega) μ
    rw [fX7_luck_L58, if_pos (by rw [lt_nI (by omega) (by omega)]; omega), hd.1, q, bl_e, e]
  | r + 1, m, fu + 1, h1, h2 => by
    have hn := hd.2.1
    have hp := pow5 n (by omega)
    have hm : m < 2 ^ n := by omega
    have hm5 : m < 32 := by omega
    have ha := bt_an m hm5 had hh
    have q := lk_x hd hh hv (K := K) (w := w) r (m + 1) fu (by omega) (by omega)
    have hpc := ppc_n n (by omega) m hm
    have hpl := ppc_le m n
    have hpc5 := popc_le m
    rw [fX7_luck_L58, if_neg (by rw [lt_nI (by omega) (by omega)]; omega), ha.1, x_pen hd ha.2, bi_e]
    by_cases e : bsum (D 3) (m &&& had) n < K
    · rw [if_pos e]
      unfold fX7_luck_J119
      rw [lb_e, nI_s1]
      rw [lkT, if_neg (by simpa using e), Nat.add_zero] at q
      exact q
    · rw [if_neg e, bc_ok m hm5, bi_e, ten_sub hv, x_pow _ _ (by omega), bl_e, hd.1, pk_sub (by omega), nI_l (by omega), x_pow _ _ (by omega), bl_e, lb_e]
      unfold fX7_luck_J119
      rw [lb_e, nI_s1, lN_mul, lN_add]
      rw [lkT, if_pos (by simpa using e), lkW_p, hpc] at q
      exact q
theorem lk_mi (k78 : Int32 → Int32 → Int32 → Int64 → Int64 → Int32 → Mem → Option (Int64 × Mem)) {κ : Mem} {n v m : Nat} {K w : Int32} {T B : Int64} (hn : κ 0 5 = nI n) (h5 : n ≤ 5) (hm : m < 32) (hv : v < 11) : ∀ (r i fu : Nat), i + r = n → r < fu → fX8_luck_L93 k78 fu (nI v) K w T B (nI m) (lN (lkW v m i)) (nI i) κ = (bi (fX8_penniesOf (nI m) κ) fun v2 m1 => if v2 < K then (fX8_luck_J152 k78 (nI v) K w B (nI m) T (0 : Int64) m1) else (fX8_luck_J152 k78 (nI v) K w B (nI m) T (lN (lkW v m n)) m1))
  | 0, i, fu + 1, h1, _ => by
    have e : i = n := by omega
    subst e
    rw [fX8_luck_L93, hn, if_pos (by rw [le_nI (by omega) (by omega)]; omega)]
  | r + 1, i, fu + 1, h1, h2 => by
    have q := lk_mi k78 (K := K) (w := w) (T := T) (B := B) hn h5 hm hv r (i + 1) fu (by omega) (by omega)
    rw [fX8_luck_L93, hn, if_neg (by rw [le_nI (by omega) (by omega)]; omega)]
    unfold fX8_luck_J125
    rw [lkW] at q
    by_cases e : m.testBit i = true
    · rw [if_pos ((bt_t m hm i (by omega)).2 e), lb_e, lb_e, nI_s1, ten_sub hv, lN_mul]
      rw [if_pos e] at q
      exact q
    · rw [if_neg (fun c => e ((bt_t m hm i (by omega)).1 c)), lb_e, lb_e, nI_s1, nI_l (by omega), lN_mul]
      rw [if_neg e] at q
      exact q
theorem lk_m {κ : Mem} {n had v : Nat} {D : Nat → Nat → Int32} {K w : Int32} {B : Int64} (hn : κ 0 5 = nI n) (h5 : n ≤ 5) (hv : v < 11) (hpen : ∀ m, m < 2 ^ n → fX8_penniesOf (nI m) κ = some (bsum (D 3) (m &&& had) n, κ)) : ∀ (r m fu : Nat), m + r = 2 ^ n → r < fu → fX8_luck_L78 fu (nI v) K w (lN (lkT (fun q => decide (¬ bsum (D 3) (q &&& had) n < K)) v n m)) B (nI m) κ = (bl (fX8_lowest (lN (lkT (fun q => decide (¬ bsum (D 3) (q &&& had) n < K)) v n (2 ^ n))) B w κ) fun v4 m3 => some (v4, m3))
  | 0, m, fu + 1, h1, _ => by
    have hp := pow5 n (by omega)
    have h0 := Nat.two_pow_pos n
    have e : m = 2 ^ n := by omega
    rw [fX8_luck_L78, m_every hn h5, bi_e, if_pos (by rw [lt_nI (by omega) (by omega)]; omega), e]
  | r + 1, m, fu + 1, h1, h2 => by
    have hp := pow5 n (by omega)
    have hm : m < 2 ^ n := by omega
    have q := lk_m hn h5 hv hpen (K := K) (w := w) (B := B) r (m + 1) fu (by omega) (by omega)
    obtain ⟨f, hf⟩ := FU_s 100 (by decide)
    have qi := lk_mi (fun x1 x2 x3 x4 x6 x8 μ => fX8_luck_L78 fu x1 x2 x3 x4 x6 x8 μ) (K := K) (w := w) (T := lN (lkT (fun q => decide (¬ bsum (D 3) (q &&& had) n < K)) v n m)) (B := B) hn h5 (show m < 32 by omega) hv n 0 FU (by omega) (by omega)
    rw [fX8_luck_L78, m_every hn h5, bi_e, if_neg (by rw [lt_nI (by omega) (by omega)]; omega), lb_e, lb_e]
    refine Eq.trans qi ?_
    rw [hpen m hm, bi_e]
    unfold fX8_luck_J152
    by_cases e : bsum (D 3) (m &&& had) n < K
    · rw [if_pos e, lb_e, lb_e, nI_s1, Int64.add_zero]
      rw [lkT, if_neg (by simpa using e), Nat.add_zero] at q
      exact q
    · rw [if_neg e, lb_e, lb_e, nI_s1, lN_add]
      rw [lkT, if_pos (by simpa using e)] at q
      exact q
theorem lk_p {κ : Mem} {n v : Nat} {K w : Int32} {T : Int64} (hn : κ 0 5 = nI n) (h5 : n ≤ 5) : ∀ (r i fu : Nat), i + r = n → r < fu → fX8_luck_L52 fu (nI v) K w T (lN (10 ^ i)) (nI i) κ = fX8_luck_L78 FU (nI v) K w T (lN (10 ^ n)) 0 κ
  | 0, i, fu + 1, h1, _ => by
    have e : i = n := by omega
    subst e
    rw [fX8_luck_L52, hn, if_pos (by rw [le_nI (by omega) (by omega)]; omega), lb_e]
  | r + 1, i, fu + 1, h1, h2 => by
    have q := lk_p (v := v) (K := K) (w := w) (T := T) hn h5 r (i + 1) fu (by omega) (by omega)
    rw [fX8_luck_L52, hn, if_neg (by rw [le_nI (by omega) (by omega)]; omega), lb_e, lb_e, nI_s1, show (10 : Int64) = lN 10 from rfl, lN_mul, ← Nat.pow_succ]
    exact q
theorem paid_eq {D : Nat → Nat → Int32} {n S L : Nat} (hn : n ≤ 5) (g : Nat → Int32) (m : Nat) : bsum g (mcl (mcl m S) L) n = bsum g (m &&& mcl (mcl (2 ^ n - 1) S) L) n := by
  refine bsum_cg g n (fun i hi => ?_)
  rw [mcl_b _ _ (by omega), mcl_b _ _ (by omega), Nat.testBit_and, mcl_b _ _ (by omega), mcl_b _ _ (by omega), all_tb n (by omega) i hi]
  cases m.testBit i <;> simp
theorem st_luck : ST_luck Inv := by
  intro μ κ h x y z
  obtain ⟨n, H, D, hs, P, R, ps, st, g⟩ := h.main
  have hn := g.ok.n5
  have hp := pow5 n (by omega)
  unfold fX7_luck fX8_luck fX7_luck_J29 fX8_luck_J34
  rw [x_within, bi_e, if_10, m_i10, bi_e, if_10, x_within, bi_e, if_10, m_i45, bi_e, if_10, x_within, bi_e, if_10, m_i1, bi_e, if_10]
  by_cases hc : (0 : Int32) ≤ x ∧ x ≤ 10
  · rw [if_pos hc, if_pos hc]
    obtain ⟨v, hv, rfl⟩ := (wn (n := 10) (by decide)).1 hc
    by_cases hd : (0 : Int32) ≤ y ∧ y ≤ 45
    · rw [if_pos hd, if_pos hd]
      by_cases he : (0 : Int32) ≤ z ∧ z ≤ 1
      · rw [if_pos he, if_pos he]
        obtain ⟨f, hf⟩ := FU_s 100 (by decide)
        obtain ⟨ν, a1, a2, a3, a4⟩ := x_round g.fix g.shp
        obtain ⟨ξ, b1, b4⟩ := m_whole (κ := κ) g.fix g.wlk g.sm
        have hpd := x_paid g.fix (all_lt n) a3 a4
        have hpen : ∀ m, m < 2 ^ n → fX8_penniesOf (nI m) ξ = some (bsum (D 3) (m &&& tB D hs n ps st P R (2 ^ n - 1)) n, ξ) := by
          intro m hm
          rw [m_penN g.fix g.wlk (all_lt n) b4 m (by omega), paid_eq (D := D) hn]; rfl
        obtain ⟨b2, b3, b4⟩ := b4
        have key := h.tr (fun b hb => a2 b (by omega)) b2 b3
        have hdx : datX ν 3 n D := datX_f (a2 3 (by omega)) (a2 5 (by omega)) g.dx
        have hnm : ξ 0 5 = nI n := by rw [b3 5 (by decide) (by decide) (by decide) (by decide) (by decide)]; exact g.nm
        have q1 := lk_x (K := y) (w := z) hdx (tB_lt (D := D) (hs := hs) (ps := ps) (st := st) (P := P) (R := R) hn (all_lt n)) hv (2 ^ n) 0 FU (by omega) (by omega)
        have q2 := lk_m (K := y) (w := z) (B := lN (10 ^ n)) hnm hn hv hpen (2 ^ n) 0 FU (by omega) (by omega)
        have q3 := lk_p (v := v) (K := y) (w := z) (T := lN 0) hnm hn n 0 FU (by omega) (by omega)
        have hT : lkT (fun q => decide (¬ bsum (D 3) (q &&& tB D hs n ps st P R (2 ^ n - 1)) n < y)) v n (2 ^ n) < 2 ^ 24 := by
          have h1 := lkT_le hv (fun q => decide (¬ bsum (D 3) (q &&& tB D hs n ps st P R (2 ^ n - 1)) n < y)) n (2 ^ n)
          have h2 : ∀ n, n < 6 → 2 ^ n * 10 ^ n < 2 ^ 24 := by decide
          exact Nat.lt_of_le_of_lt h1 (h2 n (by omega))
        have h10 : ∀ n, n < 6 → 10 ^ n < 2 ^ 24 ∧ 0 < 10 ^ n := by decide
        obtain ⟨r, r1, r2⟩ := lowest_eq hT (h10 n (by omega)).1 (h10 n (by omega)).2 z ν ξ
        rw [a1, bv_e, hpd, bi_e, x_every hdx.1 hn, bi_e, b1, bi_e, lb_e, lb_e, lb_e, lb_e, lb_e]
        have q1' : fX7_luck_L58 FU (nI v) y z (nI (tB D hs n ps st P R (2 ^ n - 1))) (nI (2 ^ n - 1)) 0 0 ν = some (r, ν) := by
          refine Eq.trans q1 ?_
          rw [r1, bl_e]
        have q2' : fX8_luck_L52 FU (nI v) y z 0 1 0 ξ = some (r, ξ) := by
          refine Eq.trans q3 (Eq.trans q2 ?_)
          rw [r2, bl_e]
        rw [q1', q2']
        exact ⟨_, _, _, rfl, rfl, key⟩
      · rw [if_neg he, if_neg he]; exact ⟨_, _, _, rfl, rfl, h⟩
    · rw [if_neg hd, if_neg hd]; exact ⟨_, _, _, rfl, rfl, h⟩
  · rw [if_neg hc, if_neg hc]; exact ⟨_, _, _, rfl, rfl, h⟩
/-! leave -/
theorem nI_ne_m4 {a : Nat} (ha : a < 1000) : ¬ nI a = (-4 : Int32) := by
  intro h
  have := congrArg Int32.toInt h
  rw [nI_toInt (by omega), show (-4 : Int32).toInt = -4 from by decide] at this
  omega
theorem nI_nle_neg {a : Nat} (ha : a < 1000) : ¬ nI a ≤ (-4 : Int32) ∧ ¬ nI a ≤ (-1 : Int32) ∧ (-1 : Int32) < nI a := by
  rw [i_le, i_le, i_lt, nI_toInt (by omega), show (-4 : Int32).toInt = -4 from by decide, show (-1 : Int32).toInt = -1 from by decide]
  omega
theorem st_lvL {n H : Nat} {D : Nat → Nat → Int32} {hs : Nat → Nat} {ps st : Int32} {P R : List Nat} (x1 : Int32) (ok : DOK n H D hs) (hf : fixO n H D hs P R) : ∀ (r i f1 f2 : Nat) (μ κ : Mem) (x4 x5 x2 x3 : Int32), i + r = n → r < f1 → r < f2 → shpX μ n H D hs P R ps st → wlkM κ n H D P R ps → κ 1 31 = st → ((x4 = -4 ∧ x5 = -4 ∧ x2 = -1 ∧ x3 = -4) ∨ (∃ o, o < 5 ∧ x4 = nI o ∧ x3 = nI o ∧ x5 = x2)) → ∃ rr ν ξ, fX7_leave_L39 f1 x1 (nI (2 ^ n - 1)) (nI (tB D hs n ps st P R (2 ^ n - 1))) x4 x5 (nI i) μ = some (rr, ν) ∧ fX8_leave_L20 f2 x1 x2 x3 (nI i) κ = some (rr, ξ) ∧ (∀ b, b < 24 ∨ 30 < b → ν b = μ b) ∧ (∀ b, b ≠ 0 → b ≠ 14 → ξ b = κ b) ∧ (∀ j, j ≠ 29 → j ≠ 30 → j ≠ 31 → j ≠ 32 → j ≠ 33 → ξ 0 j = κ 0 j)
  | 0, i, f1 + 1, f2 + 1, μ, κ, x4, x5, x2, x3, h1, _, _, hx, hw, hst, hv => by
    have hn := ok.n5
    have e : i = n := by omega
    subst e
    have hle : nI i ≤ nI i := Int32.le_refl _
    rw [fX7_leave_L39, hx.1.1, if_pos hle, fX8_leave_L20, hw.1.1, if_pos hle]
    unfold fX7_leave_J124 fX8_leave_J141 fX8_leave_J146
    rcases hv with ⟨rfl, rfl, rfl, rfl⟩ | ⟨o, ho, rfl, rfl, rfl⟩
    · rw [if_pos rfl]
      by_cases e : x1 = 0
      · rw [if_pos e]; exact ⟨_, _, _, rfl, rfl, fun b _ => rfl, fun b _ _ => rfl, fun j _ _ _ _ _ => rfl⟩
      · rw [if_neg e]; exact ⟨_, _, _, rfl, rfl, fun b _ => rfl, fun b _ _ => rfl, fun j _ _ _ _ _ => rfl⟩
    · rw [if_neg (nI_ne_m4 (by omega))]
      by_cases e : x1 = 0
      · rw [if_pos e, if_pos e]; exact ⟨_, _, _, rfl, rfl, fun b _ => rfl, fun b _ _ => rfl, fun j _ _ _ _ _ => rfl⟩
      · rw [if_neg e, if_neg e]; exact ⟨_, _, _, rfl, rfl, fun b _ => rfl, fun b _ _ => rfl, fun j _ _ _ _ _ => rfl⟩
  | r + 1, i, f1 + 1, f2 + 1, μ, κ, x4, x5, x2, x3, h1, h2, h3, hx, hw, hst, hv => by
    have hn := ok.n5
    have hp := pow5 n (by omega)
    have hs3 : mcl (2 ^ n - 1) (2 ^ i) < 2 ^ n := mcl_lt (all_lt n)
    have hbit := bt_pow i (by omega)
    obtain ⟨ν, a1, a2, a3, a4⟩ := x_goSome st hf hx hs3
    have hx2 : shpX ν n H D hs P R ps st := shpX_f hx (fun b hb => a2 b (Or.inl hb))
    have hand := bt_an _ (tB_lt (D := D) (hs := hs) (ps := ps) (st := st) (P := P) (R := R) hn (all_lt n)) (mcl (2 ^ n - 1) (2 ^ i)) (by omega)
    obtain ⟨k1, b1, b4⟩ := m_whole hf hw hst
    have hq := m_penN hf hw (all_lt n) b4 _ (show mcl (2 ^ n - 1) (2 ^ i) < 32 by omega)
    obtain ⟨b2, b3, -⟩ := b4
    have hw2 : wlkM k1 n H D P R ps := wlkM_f hw b2 (b3 3 (by decide) (by decide) (by decide) (by decide) (by decide)) (b3 5 (by decide) (by decide) (by decide) (by decide) (by decide))
    obtain ⟨k2, k3, c1, c2, c3, c4, c5, c6⟩ := m_clgo st hf hw2 hs3
    have hq2 := m_penN hf hw2 hs3 c6 _ (show mcl (2 ^ n - 1) (2 ^ i) < 32 by omega)
    obtain ⟨d1, d2, -⟩ := c6
    have hw3 : wlkM k3 n H D P R ps := wlkM_f hw2 d1 (d2 3 (by decide) (by decide) (by decide) (by decide) (by decide)) (d2 5 (by decide) (by decide) (by decide) (by decide) (by decide))
    have hst3 : k3 1 31 = st := by rw [d1 1 (by decide) (by decide), b2 1 (by decide) (by decide)]; exact hst
    have e31 : k2 1 (31 : Int32).toNatClampNeg = st := by rw [c2 1 (by decide), b2 1 (by decide) (by decide)]; exact hst
    have hpeq : bsum (D 3) (mcl (mcl (mcl (2 ^ n - 1) (2 ^ i)) (tS D hs n ps st P R (2 ^ n - 1))) (tQ D hs n ps st P R (2 ^ n - 1)).2.2.2) n = bsum (D 3) (tB D hs n ps st P R (2 ^ n - 1) &&& mcl (2 ^ n - 1) (2 ^ i)) n := by
      rw [paid_eq (D := D) hn, Nat.and_comm]; rfl
    have hq2 : fX8_penniesOf (nI (mcl (2 ^ n - 1) (2 ^ i))) k3 = some (tP D hs n ps st P R (mcl (2 ^ n - 1) (2 ^ i)), k3) := hq2
    obtain ⟨p, hp1, hp2⟩ := tP_nb (s := mcl (2 ^ n - 1) (2 ^ i)) ok ps st P R
    have hcl : nI (2 ^ n - 1) &&& (nI (2 ^ i) ^^^ (-1 : Int32)) = nI (mcl (2 ^ n - 1) (2 ^ i)) := (bt_cl _ hp.1 _ hbit).1
    have fin : ∀ y4 y5 y2 y3, ((y4 = -4 ∧ y5 = -4 ∧ y2 = -1 ∧ y3 = -4) ∨ (∃ o, o < 5 ∧ y4 = nI o ∧ y3 = nI o ∧ y5 = y2)) → ∃ rr ν' ξ', fX7_leave_L39 f1 x1 (nI (2 ^ n - 1)) (nI (tB D hs n ps st P R (2 ^ n - 1))) y4 y5 (nI (i + 1)) ν = some (rr, ν') ∧ fX8_leave_L20 f2 x1 y2 y3 (nI (i + 1)) k3 = some (rr, ξ') ∧ (∀ b, b < 24 ∨ 30 < b → ν' b = μ b) ∧ (∀ b, b ≠ 0 → b ≠ 14 → ξ' b = κ b) ∧ (∀ j, j ≠ 29 → j ≠ 30 → j ≠ 31 → j ≠ 32 → j ≠ 33 → ξ' 0 j = κ 0 j) := by
      intro y4 y5 y2 y3 hy
      obtain ⟨rr, ν', ξ', q1, q2, q3, q4, q5⟩ := st_lvL x1 ok hf r (i + 1) f1 f2 ν k3 y4 y5 y2 y3 (by omega) (by omega) (by omega) hx2 hw3 hst3 hy
      exact ⟨rr, ν', ξ', q1, q2, fun b hb => by rw [q3 b hb, a2 b (by omega)], fun b b0 b1 => by rw [q4 b b0 b1, d1 b b0 b1, b2 b b0 b1], fun j j1 j2 j3 j4 j5 => by rw [q5 j j1 j2 j3 j4 j5, d2 j j1 j2 j3 j4 j5, b3 j j1 j2 j3 j4 j5]⟩
    have hlt : ¬ nI n ≤ nI i := by rw [le_nI (by omega) (by omega)]; omega
    rw [fX7_leave_L39, hx.1.1, if_neg hlt, lb_e, bt_one i (by omega), hcl, hx.2.2.2.2.2, a1, bi_e, hand.1, x_pen hx2.1 hand.2, bi_e]
    rw [fX8_leave_L20, hw.1.1, if_neg hlt, m_every hw.1.1 hn, bi_e, lb_e, bt_one i (by omega), hcl, b1, bi_e, hq, bi_e, c1, bv_e, show (31 : Int32) = nI 31 from rfl, gr_n (by decide) (by decide), show (nI 31) = (31 : Int32) from rfl, e31, c5, bi_e, hq2, bi_e, hpeq]
    unfold fX7_leave_J107 fX8_leave_J98 fX8_leave_J99 fX8_leave_J112 fX8_leave_J124
    simp only [lb_e, nI_s1, if_pos, if_neg one_ne]
    by_cases e1 : tP D hs n ps st P R (mcl (2 ^ n - 1) (2 ^ i)) ≤ bsum (D 3) (tB D hs n ps st P R (2 ^ n - 1) &&& mcl (2 ^ n - 1) (2 ^ i)) n
    · rw [if_pos e1, if_pos e1]
      exact fin _ _ _ _ hv
    · rw [if_neg e1, if_neg e1]
      rcases hv with ⟨rfl, rfl, rfl, rfl⟩ | ⟨o, ho, rfl, rfl, rfl⟩
      · have hneg := nI_nle_neg (a := p) (by omega)
        rw [hp2, if_neg hneg.1, if_neg hneg.2.1]
        exact fin _ _ _ _ (Or.inr ⟨i, by omega, rfl, rfl, rfl⟩)
      · by_cases e2 : tP D hs n ps st P R (mcl (2 ^ n - 1) (2 ^ i)) ≤ x5
        · rw [if_pos e2, if_pos e2]
          exact fin _ _ _ _ (Or.inr ⟨o, ho, rfl, rfl, rfl⟩)
        · rw [if_neg e2, if_neg e2]
          exact fin _ _ _ _ (Or.inr ⟨i, by omega, rfl, rfl, rfl⟩)
theorem st_leave : ST_leave Inv := by
  intro μ κ h x
  obtain ⟨n, H, D, hs, P, R, ps, st, g⟩ := h.main
  have hn := g.ok.n5
  unfold fX7_leave fX8_leave
  rw [x_within, bi_e, if_10, m_i1, bi_e, if_10]
  by_cases hc : (0 : Int32) ≤ x ∧ x ≤ 1
  · rw [if_pos hc, if_pos hc]
    obtain ⟨f, hf⟩ := FU_s 100 (by decide)
    obtain ⟨ν, a1, a2, a3, a4⟩ := x_round g.fix g.shp
    have hpd := x_paid g.fix (all_lt n) a3 a4
    have hx2 : shpX ν n H D hs P R ps st := shpX_f g.shp (fun b hb => a2 b (Or.inl hb))
    obtain ⟨rr, ν', ξ', q1, q2, q3, q4, q5⟩ := st_lvL x g.ok g.fix n 0 FU FU ν κ (-4) (-4) (-1) (-4) (by omega) (by omega) (by omega) hx2 g.wlk g.sm (Or.inl ⟨rfl, rfl, rfl, rfl⟩)
    have q1 : fX7_leave_L39 FU x (nI (2 ^ n - 1)) (nI (tB D hs n ps st P R (2 ^ n - 1))) (-4) (-4) 0 ν = some (rr, ν') := q1
    have q2 : fX8_leave_L20 FU x (-1) (-4) 0 κ = some (rr, ξ') := q2
    rw [a1, bv_e, x_every hx2.1.1 hn, bi_e, hpd, bi_e, lb_e, lb_e, lb_e, lb_e, lb_e, lb_e, q1, q2]
    exact ⟨_, _, _, rfl, rfl, h.tr (fun b hb => by rw [q3 b hb, a2 b (by omega)]) q4 q5⟩
  · rw [if_neg hc, if_neg hc]; exact ⟨_, _, _, rfl, rfl, h⟩
