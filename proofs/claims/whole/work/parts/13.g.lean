theorem Inv.tr {μ κ ν ξ : Mem} (h : Inv μ κ) (hx : ∀ b, b < 24 ∨ 30 < b → ν b = μ b) (hb : ∀ b, b ≠ 0 → b ≠ 14 → ξ b = κ b) (h0 : ∀ j, j ≠ 29 → j ≠ 30 → j ≠ 31 → j ≠ 32 → j ≠ 33 → ξ 0 j = κ 0 j) : Inv ν ξ :=
  h.f (fun b hb => hx b (by omega)) (AgM0.n (fun b b0 _ b2 => hb b b0 b2) h0) (fun j _ => by rw [hb 1 (by decide) (by decide)])
theorem all_tb : ∀ n, n < 6 → ∀ o, o < n → (2 ^ n - 1).testBit o = true := by decide +kernel
theorem all_lt (n : Nat) : 2 ^ n - 1 < 2 ^ n := by have := Nat.two_pow_pos n; omega
theorem st_back : ST_back Inv := by
  intro μ κ h
  obtain ⟨n, H, D, hs, P, R, ps, st, g⟩ := h.main
  obtain ⟨ν, a1, a2, a3, a4⟩ := x_round g.fix g.shp
  obtain ⟨ξ, b1, b2, b3, b4⟩ := m_whole (κ := κ) g.fix g.wlk g.sm
  unfold fX7_back fX8_back
  rw [a1, b1, bv_e, bi_e, a3.2.2.2.1]
  exact ⟨_, _, _, rfl, rfl, h.tr (fun b hb => a2 b (by omega)) b2 b3⟩
theorem st_spoilt : ST_spoilt Inv := by
  intro μ κ h
  obtain ⟨n, H, D, hs, P, R, ps, st, g⟩ := h.main
  obtain ⟨ν, a1, a2, a3, a4⟩ := x_round g.fix g.shp
  obtain ⟨ξ, b1, b2, b3, b4⟩ := m_whole (κ := κ) g.fix g.wlk g.sm
  unfold fX7_spoilt fX8_spoilt
  rw [a1, b1, bv_e, bi_e, a3.2.2.2.2.1, b4.2.2.2.1]
  exact ⟨_, _, _, rfl, rfl, h.tr (fun b hb => a2 b (by omega)) b2 b3⟩
theorem st_late : ST_late Inv := by
  intro μ κ h
  obtain ⟨n, H, D, hs, P, R, ps, st, g⟩ := h.main
  obtain ⟨ν, a1, a2, a3, a4⟩ := x_round g.fix g.shp
  obtain ⟨ξ, b1, b2, b3, b4⟩ := m_whole (κ := κ) g.fix g.wlk g.sm
  unfold fX7_late fX8_late
  rw [a1, b1, bv_e, bi_e, a3.2.2.2.2.2.1, b4.2.2.2.2.1]
  exact ⟨_, _, _, rfl, rfl, h.tr (fun b hb => a2 b (by omega)) b2 b3⟩
theorem st_time : ST_time Inv := by
  intro μ κ h x
  obtain ⟨n, H, D, hs, P, R, ps, st, g⟩ := h.main
  have hn := g.ok.n5
  unfold fX7_time fX8_time
  rw [x_isOrder g.dx.1 hn, bi_e, if_10, m_isOrder g.nm hn, bi_e, if_10]
  by_cases hc : ∃ o, o < n ∧ x = nI o
  · rw [if_pos hc, if_pos hc]
    obtain ⟨o, ho, rfl⟩ := hc
    obtain ⟨ν, a1, a2, a3, a4⟩ := x_round g.fix g.shp
    obtain ⟨ξ, b1, b2, b3, b4⟩ := m_whole (κ := κ) g.fix g.wlk g.sm
    have tb := all_tb n (by omega) o ho
    rw [a1, b1, bv_e, bi_e, gr_n (by omega) (by omega), gr_n (by omega) (by omega), cl_n (by omega), a3.2.2.2.2.2.2.2 o ho tb, b4.2.2.2.2.2 o ho tb]
    exact ⟨_, _, _, rfl, rfl, h.tr (fun b hb => a2 b (by omega)) b2 b3⟩
  · rw [if_neg hc, if_neg hc]; exact ⟨_, _, _, rfl, rfl, h⟩
theorem st_spent : ST_spent Inv := by
  intro μ κ h x
  obtain ⟨n, H, D, hs, P, R, ps, st, g⟩ := h.main
  unfold fX7_spent fX8_spent fX8_spent_J46
  rw [x_within, bi_e, if_10, m_i2, bi_e, if_10]
  by_cases hc : (0 : Int32) ≤ x ∧ x ≤ 2
  · rw [if_pos hc, if_pos hc]
    obtain ⟨ν, a1, a2, a3, a4⟩ := x_round g.fix g.shp
    obtain ⟨ξ, b1, b2, b3, b4⟩ := m_whole (κ := κ) g.fix g.wlk g.sm
    have key := h.tr (fun b hb => a2 b (by omega)) b2 b3
    rw [a1, b1, bv_e, bi_e, a3.2.2.1, a3.1, a3.2.1, b4.1, b4.2.1, b4.2.2.1]
    by_cases e0 : x = 0
    · rw [if_pos e0, if_pos e0]; exact ⟨_, _, _, rfl, rfl, key⟩
    · rw [if_neg e0, if_neg e0]
      by_cases e1 : x = 1
      · rw [if_pos e1, if_pos e1]; exact ⟨_, _, _, rfl, rfl, key⟩
      · rw [if_neg e1, if_neg e1]; exact ⟨_, _, _, rfl, rfl, key⟩
  · rw [if_neg hc, if_neg hc]; exact ⟨_, _, _, rfl, rfl, h⟩
theorem m_every {κ : Mem} {n : Nat} (h : κ 0 5 = nI n) (h5 : n ≤ 5) : fX8_every κ = some (nI (2 ^ n - 1), κ) := by
  unfold fX8_every; rw [h, bt_all n (by omega)]
theorem x_every {μ : Mem} {n : Nat} (h : μ 3 5 = nI n) (h5 : n ≤ 5) : fX7_allBits μ = some (nI (2 ^ n - 1), μ) := by
  unfold fX7_allBits; rw [h, bt_all n (by omega)]
/-- the pennies of a walk, as the reference reckons them -/
theorem m_penN {κ ξ : Mem} {n H s : Nat} {D : Nat → Nat → Int32} {hs : Nat → Nat} {ps st : Int32} {P R : List Nat} (hf : fixO n H D hs P R) (hw : wlkM κ n H D P R ps) (hs2 : s < 2 ^ n) (hr : resN κ ξ D hs n ps st P R s) (m : Nat) (hm : m < 32) : fX8_penniesOf (nI m) ξ = some (bsum (D 3) (mcl (mcl m (tS D hs n ps st P R s)) (tQ D hs n ps st P R s).2.2.2) n, ξ) := by
  obtain ⟨r1, r2, -, -, -, r6, r7, -⟩ := hr
  obtain ⟨l1, l2, -⟩ := tS_lt (D := D) (hs := hs) (ps := ps) (st := st) (P := P) hf.1 hf.2.2.2 hs2
  exact m_pen (datM_f (r2 5 (by decide) (by decide) (by decide) (by decide) (by decide)) (r1 1 (by decide) (by decide)) (r1 4 (by decide) (by decide)) hw.1) hm l1 l2 r6 r7
theorem st_pennies : ST_pennies Inv := by
  intro μ κ h
  obtain ⟨n, H, D, hs, P, R, ps, st, g⟩ := h.main
  have hn := g.ok.n5
  obtain ⟨ν, a1, a2, a3, a4⟩ := x_round g.fix g.shp
  obtain ⟨ξ, b1, b4⟩ := m_whole (κ := κ) g.fix g.wlk g.sm
  have q := m_penN g.fix g.wlk (all_lt n) b4 _ (pow5 n (by omega)).1
  obtain ⟨b2, b3, b4⟩ := b4
  unfold fX7_pennies fX8_pennies
  rw [a1, b1, bv_e, bi_e, a3.2.2.2.2.2.2.1, m_every (by rw [b3 5 (by decide) (by decide) (by decide) (by decide) (by decide)]; exact g.nm) hn, bi_e, q, bi_e]
  exact ⟨_, _, _, rfl, rfl, h.tr (fun b hb => a2 b (by omega)) b2 b3⟩
/-! two rounds -/
theorem tb31 : ∀ i, i < 5 → (31 : Nat).testBit i = true := by decide +kernel
theorem mcl_b (m c : Nat) {i : Nat} (hi : i < 5) : (mcl m c).testBit i = (m.testBit i && !c.testBit i) := by
  unfold mcl
  rw [Nat.testBit_and, Nat.testBit_xor, tb31 i hi, Bool.true_xor]
theorem bsum_add (g : Nat → Int32) {m a b : Nat} : ∀ k, (∀ i, i < k → m.testBit i = (a.testBit i || b.testBit i)) → (∀ i, i < k → (a.testBit i && b.testBit i) = false) → bsum g m k = bsum g a k + bsum g b k
  | 0, _, _ => rfl
  | k + 1, h1, h2 => by
    have e1 := h1 k (by omega)
    have e2 := h2 k (by omega)
    rw [bsum, bsum, bsum, bsum_add g k (fun i hi => h1 i (by omega)) (fun i hi => h2 i (by omega)), e1]
    cases ha : a.testBit k <;> cases hb : b.testBit k
    · simp
    · simp [Int32.add_assoc]
    · simp only [Bool.true_or, if_true, Bool.false_eq_true, if_false, Int32.add_zero]; ac_rfl
    · rw [ha, hb] at e2; exact absurd e2 (by decide)
theorem kq_sub {D : Nat → Nat → Int32} {st : Int32} {b : Nat → Int32} {ab : Nat → Nat} {c : Nat → Nat} {n s k : Nat} {tm : Nat → Int32} (h : clOk n c s k) (o : Nat) : ∀ i, i ≤ k → ((kq D st b ab c s tm i).2.2.1.testBit o = true → s.testBit o = true) ∧ ((kq D st b ab c s tm i).2.2.2.testBit o = true → s.testBit o = true)
  | 0, _ => ⟨fun h => by rw [kq] at h; exact absurd h (by simp), fun h => by rw [kq] at h; exact absurd h (by simp)⟩
  | i + 1, hi => by
    obtain ⟨h1, h2⟩ := kq_sub (D := D) (st := st) (b := b) (ab := ab) (tm := tm) h o i (by omega)
    have g2 := (h.2.2.2.2 i (by omega)).2.1
    have aux : ∀ q : Nat, (q.testBit o = true → s.testBit o = true) → ((q ||| 2 ^ c i).testBit o = true → s.testBit o = true) := by
      intro q hq hb
      rw [Nat.testBit_or, Nat.testBit_two_pow] at hb
      rcases Bool.or_eq_true _ _ |>.mp hb with hb | hb
      · exact hq hb
      · have := of_decide_eq_true hb
        subst this
        exact tb_sub (n := n) _ g2
    rw [kq]
    constructor
    · show (if _ then _ else _ : Nat).testBit o = true → _
      split
      · exact aux _ h1
      · exact h1
    · show (if _ then _ else _ : Nat).testBit o = true → _
      split
      · exact aux _ h2
      · exact h2
theorem tS_sub {D : Nat → Nat → Int32} {hs : Nat → Nat} {n s : Nat} {ps st : Int32} {P R : List Nat} (h5 : n ≤ 5) (hR : R ∈ perms n) (hs2 : s < 2 ^ n) (o : Nat) : ((tS D hs n ps st P R s).testBit o = true → s.testBit o = true) ∧ ((tQ D hs n ps st P R s).2.2.2.testBit o = true → s.testBit o = true) := by
  obtain ⟨h1, h2⟩ := kq_sub (D := D) (st := st) (b := bareV D hs n ps st (rw_ (csl n R s)) s) (ab := abF P s) (tm := fun _ => 0) (cl_of h5 hR hs2) o _ (Nat.le_refl _)
  refine ⟨fun h => ?_, h2⟩
  unfold tS at h
  rw [Nat.testBit_or, Nat.testBit_and] at h
  rcases Bool.or_eq_true _ _ |>.mp h with h | h
  · exact (Bool.and_eq_true _ _ |>.mp h).1
  · exact h1 h
theorem mcl_lt {m c n : Nat} (h : m < 2 ^ n) : mcl m c < 2 ^ n := Nat.lt_of_le_of_lt Nat.and_le_left h
theorem all_cl : ∀ n, n < 6 → ∀ s, s < 2 ^ n → (nI (2 ^ n - 1) &&& (nI s ^^^ (-1 : Int32)) = nI (mcl (2 ^ n - 1) s)) := by
  intro n hn s hs
  have h := pow5 n hn
  exact (bt_cl _ h.1 s (by omega)).1
theorem x_twice {μ : Mem} {n H s : Nat} {D : Nat → Nat → Int32} {hs : Nat → Nat} {ps st : Int32} {P R : List Nat} (hf : fixO n H D hs P R) (hx : shpX μ n H D hs P R ps st) (hs2 : s < 2 ^ n) : ∃ ν, fX7_goTwice (nI s) μ = some (tP D hs n ps st P R s + tP D hs n ps (tH D hs n ps st P R s) P R (mcl (2 ^ n - 1) s), ν) ∧ (∀ b, b < 24 ∨ 29 < b → ν b = μ b) ∧ ν 24 13 = tH D hs n ps (tH D hs n ps st P R s) P R (mcl (2 ^ n - 1) s) := by
  obtain ⟨m1, a1, a2, a3, a4⟩ := x_goSome st hf hx hs2
  have hx2 : shpX m1 n H D hs P R ps st := shpX_f hx (fun b hb => a2 b (Or.inl hb))
  obtain ⟨ν, b1, b2, b3, b4⟩ := x_goSome (tH D hs n ps st P R s) hf hx2 (mcl_lt (c := s) (all_lt n))
  refine ⟨ν, ?_, fun b hb => by rw [b2 b hb, a2 b hb], b3.2.2.2.1⟩
  unfold fX7_goTwice
  rw [hx.2.2.2.2.2, a1, bi_e, x_every hx2.1.1 hf.1, bi_e, all_cl n (by have := hf.1; omega) s hs2, a3.2.2.2.1, b1, bi_e]
theorem m_twice {κ : Mem} {n H s : Nat} {D : Nat → Nat → Int32} {hs : Nat → Nat} {ps st : Int32} {P R : List Nat} (hf : fixO n H D hs P R) (hw : wlkM κ n H D P R ps) (hst : κ 1 31 = st) (hs2 : s < 2 ^ n) : ∃ ξ, fX8_twice (nI s) κ = some (tH D hs n ps (tH D hs n ps st P R s) P R (mcl (2 ^ n - 1) s), ξ) ∧ (∀ b, b ≠ 0 → b ≠ 14 → ξ b = κ b) ∧ (∀ j, j ≠ 29 → j ≠ 30 → j ≠ 31 → j ≠ 32 → j ≠ 33 → ξ 0 j = κ 0 j) ∧ fX8_penniesOf (nI (2 ^ n - 1)) ξ = some (tP D hs n ps st P R s + tP D hs n ps (tH D hs n ps st P R s) P R (mcl (2 ^ n - 1) s), ξ) := by
  have hn := hf.1
  obtain ⟨k0, m1, a1, a2, a3, a4, a5, a6⟩ := m_clgo st hf hw hs2
  obtain ⟨r1, r2, -, -, -, r6, r7, -⟩ := a6
  obtain ⟨l1, l2, -⟩ := tS_lt (D := D) (hs := hs) (ps := ps) (st := st) (P := P) hf.1 hf.2.2.2 hs2
  have hw2 : wlkM m1 n H D P R ps := wlkM_f hw r1 (r2 3 (by decide) (by decide) (by decide) (by decide) (by decide)) (r2 5 (by decide) (by decide) (by decide) (by decide) (by decide))
  have hs3 : mcl (2 ^ n - 1) s < 2 ^ n := mcl_lt (all_lt n)
  obtain ⟨ξ, b1, c1, c2, -, -, -, c6, c7, -⟩ := m_goes (tH D hs n ps st P R s) hf hw2 hs3 l1 l2 r6 r7
  obtain ⟨l3, l4, -⟩ := tS_lt (D := D) (hs := hs) (ps := ps) (st := tH D hs n ps st P R s) (P := P) hf.1 hf.2.2.2 hs3
  refine ⟨ξ, ?_, fun b h1 h2 => by rw [c1 b h1 h2, r1 b h1 h2], fun j h1 h2 h3 h4 h5 => by rw [c2 j h1 h2 h3 h4 h5, r2 j h1 h2 h3 h4 h5], ?_⟩
  · unfold fX8_twice
    have e31 : k0 1 (31 : Int32).toNatClampNeg = st := by rw [a2 1 (by decide)]; exact hst
    rw [a1, bv_e, show (31 : Int32) = nI 31 from rfl, gr_n (by decide) (by decide), show (nI 31) = (31 : Int32) from rfl, e31, a5, bi_e, m_every (by rw [r2 5 (by decide) (by decide) (by decide) (by decide) (by decide)]; exact hw.1.1) hf.1, bi_e, all_cl n (by have := hf.1; omega) s hs2, b1, bi_e]
  · have q := m_pen (m := 2 ^ n - 1) (κ := ξ) (datM_f (c2 5 (by decide) (by decide) (by decide) (by decide) (by decide)) (c1 1 (by decide) (by decide)) (c1 4 (by decide) (by decide)) hw2.1) (pow5 n (by omega)).1 (bt_orm _ l1 _ l3).2 (bt_orm _ l2 _ l4).2 c6 c7
    rw [q]
    unfold tP
    rw [bsum_add (D 3) n (fun i hi => ?_) (fun i hi => ?_)]
    · have e1 := (tS_sub (D := D) (hs := hs) (ps := ps) (st := st) (P := P) hf.1 hf.2.2.2 hs2 i)
      have e2 := (tS_sub (D := D) (hs := hs) (ps := ps) (st := tH D hs n ps st P R s) (P := P) hf.1 hf.2.2.2 hs3 i)
      rw [mcl_b _ _ (by omega)] at e2
      rw [mcl_b _ _ (by omega), mcl_b _ _ (by omega), mcl_b _ _ (by omega), mcl_b _ _ (by omega), mcl_b _ _ (by omega), mcl_b _ _ (by omega), mcl_b _ _ (by omega), Nat.testBit_or, Nat.testBit_or, all_tb n (by omega) i hi]
      rw [all_tb n (by omega) i hi] at e2
      revert e1 e2
      cases s.testBit i <;> cases (tS D hs n ps st P R s).testBit i <;> cases (tQ D hs n ps st P R s).2.2.2.testBit i <;> cases (tS D hs n ps (tH D hs n ps st P R s) P R (mcl (2 ^ n - 1) s)).testBit i <;> cases (tQ D hs n ps (tH D hs n ps st P R s) P R (mcl (2 ^ n - 1) s)).2.2.2.testBit i <;> simp
    · rw [mcl_b _ _ (by omega), mcl_b _ _ (by omega), mcl_b _ _ (by omega), mcl_b _ _ (by omega), mcl_b _ _ (by omega), all_tb n (by omega) i hi]
      cases s.testBit i <;> simp
theorem st_two : ST_two Inv := by
  intro μ κ h x y
  obtain ⟨n, H, D, hs, P, R, ps, st, g⟩ := h.main
  have hn := g.ok.n5
  have hp := pow5 n (by omega)
  unfold fX7_two fX8_two fX7_two_J21 fX8_two_J24 fX7_two_J44 fX8_two_J48
  rw [x_every g.dx.1 hn, bi_e, m_every g.nm hn, bi_e, x_within, bi_e, if_10, m_iv, bi_e, if_10, x_within, bi_e, if_10, m_i1, bi_e, if_10]
  by_cases hc : (0 : Int32) ≤ x ∧ x ≤ nI (2 ^ n - 1)
  · rw [if_pos hc, if_pos hc]
    obtain ⟨s, hs2, rfl⟩ := (wn (n := 2 ^ n - 1) (by omega)).1 hc
    by_cases hd : (0 : Int32) ≤ y ∧ y ≤ 1
    · rw [if_pos hd, if_pos hd]
      have hs3 : s < 2 ^ n := by have := Nat.two_pow_pos n; omega
      obtain ⟨ν, a1, a2, a3⟩ := x_twice g.fix g.shp hs3
      obtain ⟨ξ, b1, b2, b3, b4⟩ := m_twice (κ := κ) g.fix g.wlk g.sm hs3
      have key := h.tr (fun b hb => a2 b (by omega)) b2 b3
      rw [a1, bi_e, b1, bi_e, m_every (by rw [b3 5 (by decide) (by decide) (by decide) (by decide) (by decide)]; exact g.nm) hn, bi_e, b4, bi_e, a3]
      by_cases e0 : y = 0
      · rw [if_pos e0, if_pos e0]; exact ⟨_, _, _, rfl, rfl, key⟩
      · rw [if_neg e0, if_neg e0]; exact ⟨_, _, _, rfl, rfl, key⟩
    · rw [if_neg hd, if_neg hd]; exact ⟨_, _, _, rfl, rfl, h⟩
  · rw [if_neg hc, if_neg hc]; exact ⟨_, _, _, rfl, rfl, h⟩
