/-! he goes: ways and doors -/
abbrev JS : Type := Nat × Nat × Int32 × Int32
def js1 (D : Nat → Nat → Int32) (hs : Nat → Nat) (n : Nat) (ps : Int32) (q : JS) (o : Nat) : JS := (hs o, mcl q.2.1 (2 ^ o), q.2.2.1 + wayV D q.1 (hs o) (decide (ps < bsum (D 2) q.2.1 n)), q.2.2.2 + (if D 0 o = 3 then 2 else 1))
def jq (D : Nat → Nat → Int32) (hs : Nat → Nat) (n : Nat) (ps : Int32) (c : Nat → Nat) (s : Nat) : Nat → JS
  | 0 => (0, s, 0, 0)
  | i + 1 => js1 D hs n ps (jq D hs n ps c s i) (c i)
theorem jq_l (D : Nat → Nat → Int32) (hs : Nat → Nat) (n : Nat) (ps : Int32) (c : Nat → Nat) (s : Nat) : ∀ i, (jq D hs n ps c s i).2.1 = lft c s i
  | 0 => rfl
  | i + 1 => by
    show mcl (jq D hs n ps c s i).2.1 (2 ^ c i) = _
    rw [jq_l D hs n ps c s i]
    rfl
/-- houses of orders -/
def hsOk (n H : Nat) (D : Nat → Nat → Int32) (hs : Nat → Nat) : Prop := ∀ o, o < n → D 1 o = nI (hs o) ∧ hs o ≤ H
theorem mcl_tb : ∀ m, m < 32 → ∀ o, o < 5 → ∀ j, j < 5 → (mcl m (2 ^ o)).testBit j = (m.testBit j && decide (j ≠ o)) := by decide +kernel
theorem bsum_cl (g : Nat → Int32) {m o : Nat} (hm : m < 32) (ho : o < 5) (hb : m.testBit o = true) : ∀ k, k ≤ 5 → bsum g m k = bsum g (mcl m (2 ^ o)) k + (if o < k then g o else 0)
  | 0, _ => by
    rw [if_neg (Nat.not_lt_zero _)]; rfl
  | k + 1, hk => by
    have ih := bsum_cl g hm ho hb k (by omega)
    rw [bsum, bsum, ih, mcl_tb m hm o ho k (by omega)]
    by_cases e : k = o
    · subst e
      rw [if_neg (Nat.lt_irrefl _), hb, if_pos (Nat.lt_succ_self _)]
      simp [Int32.add_zero]
    · have e1 : decide (k ≠ o) = true := decide_eq_true e
      rw [e1, Bool.and_true]
      by_cases e2 : o < k
      · rw [if_pos e2, if_pos (show o < k + 1 by omega), Int32.add_assoc, Int32.add_comm (g o), ← Int32.add_assoc]
      · rw [if_neg e2, if_neg (show ¬ o < k + 1 by omega), Int32.add_zero, Int32.add_zero]
theorem bsum_z (g : Nat → Int32) : ∀ k, bsum g 0 k = 0
  | 0 => rfl
  | k + 1 => by rw [bsum, bsum_z g k, Nat.zero_testBit]; rfl
/-- the sum along the calls -/
def lsum (g : Nat → Int32) (c : Nat → Nat) : Nat → Int32
  | 0 => 0
  | i + 1 => lsum g c i + g (c i)
/-- the facts of a list of calls out of s -/
def clOk (n : Nat) (c : Nat → Nat) (s k : Nat) : Prop := n ≤ 5 ∧ k ≤ n ∧ lft c s k = 0 ∧ abm c k = s ∧ ∀ i, i < k → (c i < n ∧ (lft c s i).testBit (c i) = true ∧ lft c s i < 32 ∧ abm c i < 32 ∧ (abm c i).testBit (c i) = false)
theorem cl_of {n s : Nat} {R : List Nat} (h5 : n ≤ 5) (hR : R ∈ perms n) (hs : s < 2 ^ n) : clOk n (rw_ (csl n R s)) s (csl n R s).length := by
  obtain ⟨h1, h2, h3, h4⟩ := cs_ok n (by omega) R hR s hs
  exact ⟨h5, h1, h2, h3, h4⟩
theorem lsum_l {n s k : Nat} {c : Nat → Nat} (g : Nat → Int32) (h : clOk n c s k) : ∀ i, i ≤ k → lsum g c i + bsum g (lft c s i) n = bsum g s n
  | 0, _ => by
    show 0 + bsum g s n = _
    rw [Int32.zero_add]
  | i + 1, hi => by
    have ih := lsum_l g h i (by omega)
    obtain ⟨h1, h2, -, -, h3⟩ := h
    obtain ⟨g1, g2, g3, -⟩ := h3 i (by omega)
    rw [bsum_cl g g3 (by omega) g2 n h1, if_pos g1] at ih
    show lsum g c i + g (c i) + bsum g (mcl (lft c s i) (2 ^ c i)) n = _
    rw [← ih, Int32.add_assoc, Int32.add_comm (g (c i))]
theorem lsum_k {n s k : Nat} {c : Nat → Nat} (g : Nat → Int32) (h : clOk n c s k) : lsum g c k = bsum g s n := by
  have := lsum_l g h k (Nat.le_refl _)
  rw [h.2.2.1, bsum_z, Int32.add_zero] at this
  exact this
theorem lsum_ab {n s k : Nat} {c : Nat → Nat} (g : Nat → Int32) (h : clOk n c s k) : ∀ i, i ≤ k → lsum g c i = bsum g (abm c i) n
  | 0, _ => by
    show 0 = bsum g 0 n
    rw [bsum_z]
  | i + 1, hi => by
    have ih := lsum_ab g h i (by omega)
    obtain ⟨h1, h2, -, -, h3⟩ := h
    obtain ⟨g1, -, -, g4, g5⟩ := h3 i (by omega)
    have hor := bt_or (abm c i) g4 (c i) (by omega)
    have key : ∀ m, m < 32 → ∀ o, o < 5 → m.testBit o = false → ((m ||| 2 ^ o).testBit o = true ∧ mcl (m ||| 2 ^ o) (2 ^ o) = m) := by decide +kernel
    obtain ⟨k1, k2⟩ := key (abm c i) g4 (c i) (by omega) g5
    show lsum g c i + g (c i) = bsum g (abm c i ||| 2 ^ c i) n
    rw [bsum_cl g hor.2 (by omega) k1 n h1, k2, if_pos g1, ih]
theorem datX_f {μ ν : Mem} {n : Nat} {D : Nat → Nat → Int32} (h3 : ν 3 = μ 3) (h5 : ν 5 = μ 5) (h : datX μ 3 n D) : datX ν 3 n D := ⟨by rw [h3]; exact h.1, h.2.1, fun o w ho hw => by show ν 5 _ = _; rw [h5]; exact h.2.2 o w ho hw⟩
theorem roaX_f {μ ν : Mem} {H : Nat} {D : Nat → Nat → Int32} (h3 : ν 3 = μ 3) (h4 : ν 4 = μ 4) (h : roaX μ 3 H D) : roaX ν 3 H D := ⟨by rw [h3]; exact h.1, h.2.1, fun k hk => by show ν 4 _ = _ ∧ ν 4 _ = _; rw [h4]; exact h.2.2 k hk⟩
theorem x_rdL1 {μ : Mem} {n k : Nat} {D : Nat → Nat → Int32} {c : Nat → Nat} (hd : datX μ 3 n D) (hk : μ 24 6 = nI k) (k5 : k ≤ 5) (hc : ∀ i, i < k → c i < n ∧ μ 25 i = nI (c i)) : ∀ (r i fu : Nat), i + r = k → r < fu → fX6_ride_L4 fu (lsum (D 2) c i) (nI i) μ = fX6_ride_L49 FU (lsum (D 2) c k) 0 0 (wr (wr μ 24 10 0) 24 11 0)
  | 0, i, fu + 1, h, _ => by
    have e : i = k := by omega
    subst e
    rw [fX6_ride_L4, if_pos (by rw [hk]; exact nI_le (Nat.le_refl _) (by omega))]
    rfl
  | r + 1, i, fu + 1, h, hf => by
    obtain ⟨g1, g2⟩ := hc i (by omega)
    rw [fX6_ride_L4, if_neg (by rw [hk]; exact nI_ge (by omega) (by omega)), gr_n (by omega) (by omega), cl_n (by omega), g2, show (2 : Int32) = nI 2 from rfl, x_of hd g1 (by omega), bi_e, lb_e, lb_e, nI_s1]
    exact x_rdL1 hd hk k5 hc r (i + 1) fu (by omega) (by omega)
def bareV (D : Nat → Nat → Int32) (hs : Nat → Nat) (n : Nat) (ps st : Int32) (c : Nat → Nat) (s i : Nat) : Int32 := (st + (jq D hs n ps c s (i + 1)).2.2.1) + (jq D hs n ps c s (i + 1)).2.2.2
def goneV (D : Nat → Nat → Int32) (hs : Nat → Nat) (n : Nat) (ps : Int32) (c : Nat → Nat) (s k : Nat) : Int32 := (jq D hs n ps c s k).2.2.1 + wayV D (jq D hs n ps c s k).1 0 (decide (ps < 0))
/-- behind ride() -/
def rodX (μ ν : Mem) (D : Nat → Nat → Int32) (hs : Nat → Nat) (n : Nat) (ps st : Int32) (c : Nat → Nat) (s k : Nat) : Prop := (∀ b, b ≠ 24 → b ≠ 27 → ν b = μ b) ∧ (∀ j, j ≠ 10 → j ≠ 11 → ν 24 j = μ 24 j) ∧ ν 24 10 = goneV D hs n ps c s k ∧ ν 24 11 = (jq D hs n ps c s k).2.2.2 ∧ ∀ i, i < k → ν 27 i = bareV D hs n ps st c s i
theorem jq_h {n H s k : Nat} {D : Nat → Nat → Int32} {hs : Nat → Nat} {ps : Int32} {c : Nat → Nat} (hh : hsOk n H D hs) (h : clOk n c s k) : ∀ i, i ≤ k → (jq D hs n ps c s i).1 ≤ H
  | 0, _ => Nat.zero_le _
  | i + 1, hi => (hh (c i) (h.2.2.2.2 i (by omega)).1).2
theorem x_rdL2 {n H s k : Nat} {D : Nat → Nat → Int32} {hs : Nat → Nat} {ps st : Int32} {c : Nat → Nat} (hh : hsOk n H D hs) (h : clOk n c s k) : ∀ (r i fu : Nat) (μ : Mem), i + r = k → r < fu → datX μ 3 n D → roaX μ 3 H D → μ 24 6 = nI k → μ 24 7 = ps → μ 24 8 = st → (∀ j, j < k → μ 25 j = nI (c j)) → μ 24 10 = (jq D hs n ps c s i).2.2.1 → μ 24 11 = (jq D hs n ps c s i).2.2.2 → (∀ j, j < i → μ 27 j = bareV D hs n ps st c s j) → ∃ ν, fX6_ride_L49 fu (bsum (D 2) (lft c s i) n) (nI (jq D hs n ps c s i).1) (nI i) μ = some ν ∧ rodX μ ν D hs n ps st c s k
  | 0, i, fu + 1, μ, h1, _, hd, hr, h6, h7, h8, hc, h10, h11, hb => by
    have e : i = k := by omega
    subst e
    have hj := jq_h (ps := ps) hh h i (Nat.le_refl _)
    have h9 := h.1
    have h9' := h.2.1
    have hw : bsum (D 2) (lft c s i) n = 0 := by rw [h.2.2.1, bsum_z]
    have hm := fun hv => x_mb hr hv hj (Nat.zero_le H)
    refine ⟨wr μ 24 10 (goneV D hs n ps c s i), ?_, fun b b1 _ => wr_f _ _ _ _ b1, fun j j1 _ => wr_o (fun q => j1 q.2), wr_s _ _ _ _, by rw [wr_o (by omega)]; exact h11, fun j hj => by rw [wr_o (by omega)]; exact hb j hj⟩
    rw [fX6_ride_L49, if_pos (by rw [h6]; exact nI_le (Nat.le_refl _) (by omega)), hw, h7]
    unfold fX6_ride_J207 goneV
    simp only [lb_e]
    by_cases e2 : (0 : Int32) ≤ ps
    · rw [if_pos e2]
      have := hm false
      rw [show bI false = (0 : Int32) from rfl, show nI 0 = (0 : Int32) from rfl] at this
      rw [this, bi_e, h10, show decide (ps < 0) = false from decide_eq_false (Int32.not_lt.mpr e2)]
    · rw [if_neg e2]
      have := hm true
      rw [show bI true = (1 : Int32) from rfl, show nI 0 = (0 : Int32) from rfl] at this
      rw [this, bi_e, h10, show decide (ps < 0) = true from decide_eq_true (Int32.not_le.mp e2)]
  | r + 1, i, fu + 1, μ, h1, hf, hd, hr, h6, h7, h8, hc, h10, h11, hb => by
    have h9 := h.1
    have h9' := h.2.1
    obtain ⟨g1, g2, g3, -⟩ := h.2.2.2.2 i (by omega)
    obtain ⟨e1, e2⟩ := hh (c i) g1
    have hj := jq_h (ps := ps) hh h i (by omega)
    have hm := fun hv => x_mb hr hv hj e2
    obtain ⟨dr, hdr⟩ : ∃ dr : Int32, dr = if D 0 (c i) = 3 then 2 else 1 := ⟨_, rfl⟩
    obtain ⟨wv, hwv⟩ : ∃ wv : Int32, wv = wayV D (jq D hs n ps c s i).1 (hs (c i)) (decide (ps < bsum (D 2) (lft c s i) n)) := ⟨_, rfl⟩
    have hq : jq D hs n ps c s (i + 1) = (hs (c i), lft c s (i + 1), (jq D hs n ps c s i).2.2.1 + wv, (jq D hs n ps c s i).2.2.2 + dr) := by
      show js1 D hs n ps (jq D hs n ps c s i) (c i) = _
      unfold js1
      rw [jq_l, hwv, hdr]
      rfl
    have hw : bsum (D 2) (lft c s i) n - D 2 (c i) = bsum (D 2) (lft c s (i + 1)) n := by
      have := bsum_cl (D 2) g3 (by omega) g2 n h9
      rw [if_pos g1] at this
      rw [this, Int32.add_sub_cancel]
      rfl
    have hbare : bareV D hs n ps st c s i = (st + ((jq D hs n ps c s i).2.2.1 + wv)) + ((jq D hs n ps c s i).2.2.2 + dr) := by
      unfold bareV
      rw [hq]
    obtain ⟨ν, k1, k2, k3, k4⟩ := x_rdL2 (ps := ps) (st := st) hh h r (i + 1) fu (wr (wr (wr μ 24 10 ((jq D hs n ps c s i).2.2.1 + wv)) 24 11 ((jq D hs n ps c s i).2.2.2 + dr)) 27 i (bareV D hs n ps st c s i)) (by omega) (by omega)
      (datX_f (by rw [wr_f _ _ _ _ (by decide), wr_f _ _ _ _ (by decide), wr_f _ _ _ _ (by decide)]) (by rw [wr_f _ _ _ _ (by decide), wr_f _ _ _ _ (by decide), wr_f _ _ _ _ (by decide)]) hd)
      (roaX_f (by rw [wr_f _ _ _ _ (by decide), wr_f _ _ _ _ (by decide), wr_f _ _ _ _ (by decide)]) (by rw [wr_f _ _ _ _ (by decide), wr_f _ _ _ _ (by decide), wr_f _ _ _ _ (by decide)]) hr)
      (by rw [wr_o (by omega), wr_o (by omega), wr_o (by omega)]; exact h6) (by rw [wr_o (by omega), wr_o (by omega), wr_o (by omega)]; exact h7) (by rw [wr_o (by omega), wr_o (by omega), wr_o (by omega)]; exact h8)
      (fun j hj => by rw [wr_o (by omega), wr_o (by omega), wr_o (by omega)]; exact hc j hj)
      (by rw [wr_o (by omega), wr_o (by omega), wr_s, hq]) (by rw [wr_o (by omega), wr_s, hq])
      (fun j hj => by
        by_cases e : j = i
        · rw [e, wr_s]
        · rw [wr_o (fun q => e q.2), wr_o (by omega), wr_o (by omega)]
          exact hb j (by omega))
    refine ⟨ν, ?_, fun b b1 b2 => by rw [k2 b b1 b2, wr_f _ _ _ _ b2, wr_f _ _ _ _ b1, wr_f _ _ _ _ b1], fun j j1 j2 => by rw [k3 j j1 j2, wr_o (by omega), wr_o (fun q => j2 q.2), wr_o (fun q => j1 q.2)], k4⟩
    have dA : datX (wr μ 24 10 ((jq D hs n ps c s i).2.2.1 + wv)) 3 n D := datX_f (wr_f _ _ _ _ (by decide)) (wr_f _ _ _ _ (by decide)) hd
    have dB : datX (wr (wr (wr μ 24 10 ((jq D hs n ps c s i).2.2.1 + wv)) 24 11 ((jq D hs n ps c s i).2.2.2 + dr)) 27 i (bareV D hs n ps st c s i)) 3 n D := datX_f (by rw [wr_f _ _ _ _ (by decide), wr_f _ _ _ _ (by decide), wr_f _ _ _ _ (by decide)]) (by rw [wr_f _ _ _ _ (by decide), wr_f _ _ _ _ (by decide), wr_f _ _ _ _ (by decide)]) hd
    rw [fX6_ride_L49, if_neg (by rw [h6]; exact nI_ge (by omega) (by omega)), gr_n (by omega) (by omega), lb_e, cl_n (by omega), hc i (by omega), show (1 : Int32) = nI 1 from rfl, x_of hd g1 (by omega), bi_e, e1, h7]
    have fin : ∀ hv : Bool, decide (ps < bsum (D 2) (lft c s i) n) = hv → fX6_ride_J98 (fun x1 x2 x3 μ => fX6_ride_L49 fu x1 x2 x3 μ) (bsum (D 2) (lft c s i) n) (nI i) (nI (c i)) (μ 24 10) (nI (jq D hs n ps c s i).1) (nI (hs (c i))) (bI hv) μ = some ν := by
      intro hv ehv
      unfold fX6_ride_J98
      rw [hm hv, bi_e, lb_e, h10, ← ehv, ← hwv, show (0 : Int32) = nI 0 from rfl, x_of dA g1 (by omega), bi_e]
      have e11 : (wr μ 24 10 ((jq D hs n ps c s i).2.2.1 + wv)) 24 11 = (jq D hs n ps c s i).2.2.2 := by rw [wr_o (by omega)]; exact h11
      have e8 : (wr (wr μ 24 10 ((jq D hs n ps c s i).2.2.1 + wv)) 24 11 ((jq D hs n ps c s i).2.2.2 + dr)) 24 8 = st := by rw [wr_o (by omega), wr_o (by omega)]; exact h8
      have e10 : (wr (wr μ 24 10 ((jq D hs n ps c s i).2.2.1 + wv)) 24 11 ((jq D hs n ps c s i).2.2.2 + dr)) 24 10 = (jq D hs n ps c s i).2.2.1 + wv := by rw [wr_o (by omega), wr_s]
      have tail : fX6_ride_J129 (fun x1 x2 x3 μ => fX6_ride_L49 fu x1 x2 x3 μ) (bsum (D 2) (lft c s i) n) (nI i) (nI (c i)) (jq D hs n ps c s i).2.2.2 dr (wr μ 24 10 ((jq D hs n ps c s i).2.2.1 + wv)) = some ν := by
        unfold fX6_ride_J129
        rw [lb_e, gr_n (by omega) (by omega), lb_e, e8, e10, wr_s, cl_n (by omega), ← hbare, show (2 : Int32) = nI 2 from rfl, x_of dB g1 (by omega), bi_e, lb_e, show (1 : Int32) = nI 1 from rfl, x_of dB g1 (by omega), bi_e, lb_e, e1, hw, show nI 1 = (1 : Int32) from rfl, nI_s1]
        rw [hq] at k1
        exact k1
      rw [e11]
      by_cases e3 : D 0 (c i) = 3
      · rw [if_pos e3]
        rw [if_pos e3] at hdr
        rw [← hdr]
        exact tail
      · rw [if_neg e3]
        rw [if_neg e3] at hdr
        rw [← hdr]
        exact tail
    by_cases e4 : bsum (D 2) (lft c s i) n ≤ ps
    · rw [if_pos e4]
      exact fin false (decide_eq_false (Int32.not_lt.mpr e4))
    · rw [if_neg e4]
      exact fin true (decide_eq_true (Int32.not_le.mp e4))
theorem x_ride {μ : Mem} {n H s k : Nat} {D : Nat → Nat → Int32} {hs : Nat → Nat} {ps st : Int32} {cs ld : List Nat} (hd : datX μ 3 n D) (hr : roaX μ 3 H D) (hh : hsOk n H D hs) (ht : trpX μ k cs ld ps st) (h : clOk n (rw_ cs) s k) : ∃ ν, fX6_ride μ = some ν ∧ rodX μ ν D hs n ps st (rw_ cs) s k := by
  obtain ⟨t1, t2, t3, t4, t5⟩ := ht
  have h9 := h.1
  have h9' := h.2.1
  unfold fX6_ride
  rw [lb_e, lb_e]
  have e := x_rdL1 hd t1 (by omega) (fun i hi => ⟨(h.2.2.2.2 i hi).1, t4 i hi⟩) k 0 FU (by omega) (by show k < 4000; omega)
  have e : fX6_ride_L4 FU 0 0 μ = fX6_ride_L49 FU (lsum (D 2) (rw_ cs) k) 0 0 (wr (wr μ 24 10 0) 24 11 0) := e
  rw [e, lsum_k (D 2) h]
  obtain ⟨ν, k1, k2, k3, k4⟩ := x_rdL2 (ps := ps) (st := st) hh h k 0 FU (wr (wr μ 24 10 0) 24 11 0) (by omega) (by show k < 4000; omega)
    (datX_f (by rw [wr_f _ _ _ _ (by decide), wr_f _ _ _ _ (by decide)]) (by rw [wr_f _ _ _ _ (by decide), wr_f _ _ _ _ (by decide)]) hd)
    (roaX_f (by rw [wr_f _ _ _ _ (by decide), wr_f _ _ _ _ (by decide)]) (by rw [wr_f _ _ _ _ (by decide), wr_f _ _ _ _ (by decide)]) hr)
    (by rw [wr_o (by omega), wr_o (by omega)]; exact t1) (by rw [wr_o (by omega), wr_o (by omega)]; exact t2) (by rw [wr_o (by omega), wr_o (by omega)]; exact t3) (fun j hj => by rw [wr_o (by omega), wr_o (by omega)]; exact t4 j hj)
    (by rw [wr_o (by omega), wr_s]; rfl) (by rw [wr_s]; rfl) (fun j hj => absurd hj (Nat.not_lt_zero j))
  exact ⟨ν, k1, fun b b1 b2 => by rw [k2 b b1 b2, wr_f _ _ _ _ b1, wr_f _ _ _ _ b1], fun j j1 j2 => by rw [k3 j j1 j2, wr_o (fun q => j2 q.2), wr_o (fun q => j1 q.2)], k4⟩
