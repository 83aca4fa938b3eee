/-! best: a loose basket is never worse -/
theorem bsL_no {n : Nat} {D : Nat → Nat → Int32} {hs : Nat → Nat} {R : List Nat} {ps st : Int32} {b : BS} (hn : n ≤ 5) (h : ∀ P, P ∈ perms n → ¬ (b.1 < tP D hs n ps st P R (2 ^ n - 1) ∨ (tP D hs n ps st P R (2 ^ n - 1) = b.1 ∧ ¬ b.2.1 ≤ tH D hs n ps st P R (2 ^ n - 1)))) : ∀ k, k ≤ fct n → bsL D hs n ps st R b k = b
  | 0, _ => rfl
  | k + 1, hk => by rw [bsL, bsL_no hn h k (by omega), bsS, if_neg (h _ (prm_mem hn (by omega)))]
theorem kq_s1 (D : Nat → Nat → Int32) (st : Int32) (b : Nat → Int32) (ab c : Nat → Nat) (s : Nat) (tm : Nat → Int32) (i : Nat) : (kq D st b ab c s tm (i + 1)).1 = (kq D st b ab c s tm i).1 + nI (popc (ab (c i) &&& lft c s i)) := rfl
theorem kq_s3 (D : Nat → Nat → Int32) (st : Int32) (b : Nat → Int32) (ab c : Nat → Nat) (s : Nat) (tm : Nat → Int32) (i : Nat) : (kq D st b ab c s tm (i + 1)).2.2.1 = if D 0 (c i) = 2 ∧ 20 < (b i + (kq D st b ab c s tm (i + 1)).1) - st then (kq D st b ab c s tm i).2.2.1 ||| 2 ^ c i else (kq D st b ab c s tm i).2.2.1 := rfl
theorem kq_s4 (D : Nat → Nat → Int32) (st : Int32) (b : Nat → Int32) (ab c : Nat → Nat) (s : Nat) (tm : Nat → Int32) (i : Nat) : (kq D st b ab c s tm (i + 1)).2.2.2 = if D 4 (c i) < b i + (kq D st b ab c s tm (i + 1)).1 then (kq D st b ab c s tm i).2.2.2 ||| 2 ^ c i else (kq D st b ab c s tm i).2.2.2 := rfl
theorem tb_mono {p q : Prop} [Decidable p] [Decidable q] {A B w o : Nat} (hpq : p → q) (hAB : A.testBit o = true → B.testBit o = true) : (if p then A ||| w else A).testBit o = true → (if q then B ||| w else B).testBit o = true := by
  by_cases hp : p
  · rw [if_pos hp, if_pos (hpq hp), Nat.testBit_or, Nat.testBit_or, Bool.or_eq_true, Bool.or_eq_true]
    exact fun h => h.elim (fun h => Or.inl (hAB h)) Or.inr
  · rw [if_neg hp]
    by_cases hq : q
    · rw [if_pos hq, Nat.testBit_or, Bool.or_eq_true]
      exact fun h => Or.inl (hAB h)
    · rw [if_neg hq]; exact hAB
theorem kq_lo {D : Nat → Nat → Int32} {b : Nat → Int32} {ab c : Nat → Nat} {s k sk : Nat} (tm tn : Nat → Int32) (hk : k ≤ 5) (hsk : sk ≤ 60) (hb : ∀ i, i < k → ∃ x, sk ≤ x ∧ x ≤ sk + 700 ∧ b i = nI x) (hd : ∀ i, i < k → ∃ d, d ≤ 99 ∧ D 4 (c i) = nI d) : ∀ i, i ≤ k → (kq D (nI sk) b (fun _ => 0) c s tm i).1 = nI 0 ∧ ∀ o, (((kq D (nI sk) b (fun _ => 0) c s tm i).2.2.1.testBit o = true → (kq D (nI sk) b ab c s tn i).2.2.1.testBit o = true) ∧ ((kq D (nI sk) b (fun _ => 0) c s tm i).2.2.2.testBit o = true → (kq D (nI sk) b ab c s tn i).2.2.2.testBit o = true))
  | 0, _ => ⟨rfl, fun o => ⟨id, id⟩⟩
  | i + 1, hi => by
    obtain ⟨ih1, ih2⟩ := kq_lo (ab := ab) tm tn hk hsk hb hd i (by omega)
    obtain ⟨m, hm, em⟩ := kq_nb D (nI sk) b ab c s tn (i + 1)
    obtain ⟨x, hx1, hx2, ex⟩ := hb i (by omega)
    obtain ⟨d, hd1, ed⟩ := hd i (by omega)
    have e1 : (kq D (nI sk) b (fun _ => 0) c s tm (i + 1)).1 = nI 0 := by
      rw [kq_s1, ih1, Nat.zero_and]; rfl
    refine ⟨e1, fun o => ⟨?_, ?_⟩⟩
    · rw [kq_s3, kq_s3 D (nI sk) b ab, e1, em, ex, nI_add, nI_add, pk_sub (by omega), pk_sub (by omega)]
      refine tb_mono (fun h => ⟨h.1, ?_⟩) (ih2 o).1
      have h2 := h.2
      rw [show (20 : Int32) = nI 20 from rfl, lt_nI (by omega) (by omega)] at h2 ⊢
      omega
    · rw [kq_s4, kq_s4 D (nI sk) b ab, e1, em, ex, nI_add, nI_add, ed]
      refine tb_mono (fun h => ?_) (ih2 o).2
      rw [lt_nI (by omega) (by omega)] at h ⊢
      omega
theorem bsum_mono {g : Nat → Int32} {m a : Nat} : ∀ k, (∀ o, o < k → ∃ x, x ≤ 9 ∧ g o = nI x) → (∀ i, i < k → m.testBit i = true → a.testBit i = true) → ∃ x y, x ≤ y ∧ y ≤ 9 * k ∧ bsum g m k = nI x ∧ bsum g a k = nI y
  | 0, _, _ => ⟨0, 0, by omega, by omega, rfl, rfl⟩
  | k + 1, h, hs => by
    obtain ⟨x, y, h1, h2, h3, h4⟩ := bsum_mono k (fun o ho => h o (by omega)) (fun i hi => hs i (by omega))
    obtain ⟨z, h5, h6⟩ := h k (by omega)
    rw [bsum, bsum, h3, h4, h6]
    by_cases e : m.testBit k = true
    · rw [if_pos e, if_pos (hs k (by omega) e), nI_add, nI_add]
      exact ⟨x + z, y + z, by omega, by omega, rfl, rfl⟩
    · rw [if_neg e, Int32.add_zero]
      split
      · rw [nI_add]; exact ⟨x, y + z, by omega, by omega, rfl, rfl⟩
      · rw [Int32.add_zero]; exact ⟨x, y, by omega, by omega, rfl, rfl⟩
noncomputable def loQ (D : Nat → Nat → Int32) (hs : Nat → Nat) (n : Nat) (ps st : Int32) (R : List Nat) : KS := kq D st (bareV D hs n ps st (rw_ R) (2 ^ n - 1)) (fun _ => 0) (rw_ R) (2 ^ n - 1) (fun _ => 0) n
noncomputable def loP (D : Nat → Nat → Int32) (hs : Nat → Nat) (n : Nat) (ps st : Int32) (R : List Nat) : Int32 := bsum (D 3) (mcl (mcl (2 ^ n - 1) (0 ||| (loQ D hs n ps st R).2.2.1)) (loQ D hs n ps st R).2.2.2) n
noncomputable def loH (D : Nat → Nat → Int32) (hs : Nat → Nat) (n : Nat) (ps st : Int32) (R : List Nat) : Int32 := ((st + tG D hs n ps R (2 ^ n - 1)) + tR D hs n ps R (2 ^ n - 1)) + (loQ D hs n ps st R).1
theorem cl_all {n : Nat} {R : List Nat} (hn : n ≤ 5) (hR : R ∈ perms n) : clOk n (rw_ R) (2 ^ n - 1) n := by
  have h := cl_of hn hR (all_lt n)
  rw [(csa hn hR).2, (csa hn hR).1] at h
  exact h
theorem lo_ok {n H sk : Nat} {D : Nat → Nat → Int32} {hs : Nat → Nat} {P R : List Nat} (ps : Int32) (ok : DOK n H D hs) (hR : R ∈ perms n) (hsk : sk ≤ 60) : tP D hs n ps (nI sk) P R (2 ^ n - 1) ≤ loP D hs n ps (nI sk) R ∧ loH D hs n ps (nI sk) R ≤ tH D hs n ps (nI sk) P R (2 ^ n - 1) := by
  have hn := ok.n5
  have hc := cl_all hn hR
  have e := csa hn hR
  have hb : ∀ i, i < n → ∃ x, sk ≤ x ∧ x ≤ sk + 700 ∧ bareV D hs n ps (nI sk) (rw_ R) (2 ^ n - 1) i = nI x := by
    intro i hi
    obtain ⟨a, b, h1, h2, h3, h4⟩ := jq_nb (ps := ps) ok hc (i + 1) (by omega)
    refine ⟨sk + a + b, by omega, by omega, ?_⟩
    unfold bareV
    rw [h3, h4, nI_add, nI_add]
  have hd : ∀ i, i < n → ∃ d, d ≤ 99 ∧ D 4 (rw_ R i) = nI d := fun i hi => ok.du _ (pm_lt n (by omega) R hR i hi)
  obtain ⟨q1, q2⟩ := kq_lo (ab := abF P (2 ^ n - 1)) (s := 2 ^ n - 1) (fun _ => 0) (fun _ => 0) hn hsk hb hd n (Nat.le_refl n)
  have eQ : tQ D hs n ps (nI sk) P R (2 ^ n - 1) = kq D (nI sk) (bareV D hs n ps (nI sk) (rw_ R) (2 ^ n - 1)) (abF P (2 ^ n - 1)) (rw_ R) (2 ^ n - 1) (fun _ => 0) n := by
    unfold tQ
    rw [e.2, e.1]
  constructor
  · obtain ⟨x, y, h1, h2, h3, h4⟩ := bsum_mono (g := D 3) (m := mcl (mcl (2 ^ n - 1) (tS D hs n ps (nI sk) P R (2 ^ n - 1))) (tQ D hs n ps (nI sk) P R (2 ^ n - 1)).2.2.2) (a := mcl (mcl (2 ^ n - 1) (0 ||| (loQ D hs n ps (nI sk) R).2.2.1)) (loQ D hs n ps (nI sk) R).2.2.2) n ok.pn (fun i hi hm => by
      have p1 := (q2 i).1
      have p2 := (q2 i).2
      rw [mcl_b _ _ (by omega), mcl_b _ _ (by omega)] at hm ⊢
      unfold tS at hm
      rw [eQ, Nat.testBit_or] at hm
      rw [Nat.testBit_or, Nat.zero_testBit, Bool.false_or]
      unfold loQ
      generalize (kq D (nI sk) (bareV D hs n ps (nI sk) (rw_ R) (2 ^ n - 1)) (fun _ => 0) (rw_ R) (2 ^ n - 1) (fun _ => 0) n).2.2.1.testBit i = u1 at *
      generalize (kq D (nI sk) (bareV D hs n ps (nI sk) (rw_ R) (2 ^ n - 1)) (fun _ => 0) (rw_ R) (2 ^ n - 1) (fun _ => 0) n).2.2.2.testBit i = u2 at *
      generalize (kq D (nI sk) (bareV D hs n ps (nI sk) (rw_ R) (2 ^ n - 1)) (abF P (2 ^ n - 1)) (rw_ R) (2 ^ n - 1) (fun _ => 0) n).2.2.1.testBit i = u3 at *
      generalize (kq D (nI sk) (bareV D hs n ps (nI sk) (rw_ R) (2 ^ n - 1)) (abF P (2 ^ n - 1)) (rw_ R) (2 ^ n - 1) (fun _ => 0) n).2.2.2.testBit i = u4 at *
      generalize (2 ^ n - 1).testBit i = u5 at *
      generalize (2 ^ n - 1 &&& cmF D n P (2 ^ n - 1)).testBit i = u6 at *
      revert hm p1 p2
      cases u1 <;> cases u2 <;> cases u3 <;> cases u4 <;> cases u5 <;> cases u6 <;> decide)
    unfold tP loP
    rw [h3, h4, le_nI (by omega) (by omega)]
    exact h1
  · obtain ⟨a, b, h1, h2, h3, h4⟩ := jq_nb (ps := ps) ok hc n (Nat.le_refl n)
    obtain ⟨w, h5, h6⟩ := way_nb ok (jq_h (ps := ps) ok.hh hc n (Nat.le_refl n)) (Nat.zero_le H) (decide (ps < 0))
    obtain ⟨d, h7, h8⟩ := kq_nb D (nI sk) (bareV D hs n ps (nI sk) (rw_ R) (2 ^ n - 1)) (abF P (2 ^ n - 1)) (rw_ R) (2 ^ n - 1) (fun _ => 0) n
    unfold tH loH
    rw [eQ, h8]
    unfold loQ tG tR goneV
    rw [q1, e.2, e.1, h3, h4, h6, nI_add, nI_add, nI_add, nI_add, nI_add, le_nI (by omega) (by omega)]
    omega
theorem lo_pos {n H : Nat} {D : Nat → Nat → Int32} {hs : Nat → Nat} (ps st : Int32) (R : List Nat) (ok : DOK n H D hs) : (-1 : Int32) < loP D hs n ps st R := by
  have hn := ok.n5
  obtain ⟨a, h1, h2⟩ := bsum_nb (mcl (mcl (2 ^ n - 1) (0 ||| (loQ D hs n ps st R).2.2.1)) (loQ D hs n ps st R).2.2.2) n ok.pn
  unfold loP
  rw [h2]
  exact (nI_nle_neg (by omega)).2.2
theorem cond_mono {b : BS} {p t p' t' : Int32} (hp : p ≤ p') (ht : t' ≤ t) (h : b.1 < p ∨ (p = b.1 ∧ ¬ b.2.1 ≤ t)) : b.1 < p' ∨ (p' = b.1 ∧ ¬ b.2.1 ≤ t') := by
  rw [i_lt, i_eq, i_le] at h ⊢
  rw [i_le] at hp ht
  omega
/-- stowLoose(), then finish() -/
theorem x_loose {μ : Mem} {n H : Nat} {D : Nat → Nat → Int32} {hs : Nat → Nat} {R : List Nat} {ps st : Int32} (hn : n ≤ 5) (hR : R ∈ perms n) (h : rdS μ n H D hs R ps st) : ∃ m1 ν, fX6_stowLoose μ = some m1 ∧ fX6_finish m1 = some ν ∧ (∀ b, b ≠ 24 → b ≠ 28 → b ≠ 29 → ν b = μ b) ∧ rdS ν n H D hs R ps st ∧ ν 24 13 = loH D hs n ps st R ∧ ν 24 16 = loP D hs n ps st R := by
  have hc := cl_all hn hR
  obtain ⟨m1, a1, a2, a3⟩ := x_fill (a := 28) (N := 5) (by decide) (wr μ 24 9 0)
  have e24 : ∀ j, j ≠ 9 → m1 24 j = μ 24 j := fun j hj => by rw [a2 24 (by decide), wr_o (fun c => hj c.2)]
  have eb : ∀ b, b ≠ 24 → b ≠ 28 → m1 b = μ b := fun b h1 h2 => by rw [a2 b h2, wr_f _ _ _ _ h1]
  have hd : datX m1 3 n D := datX_f (eb 3 (by decide) (by decide)) (eb 5 (by decide) (by decide)) h.d
  obtain ⟨ν, f1, f2, f3, f4, f5, f6, f7, f8, f9⟩ := x_fin (μ := m1) (D := D) (st := st) (b := bareV D hs n ps st (rw_ R) (2 ^ n - 1)) (ab := fun _ => 0) (c := rw_ R) (c0 := 0) hc (by decide) (fun i _ => by decide) hd (by rw [e24 6 (by decide)]; exact h.s6) (by rw [e24 8 (by decide)]; exact h.s8) (fun j hj => by rw [eb 25 (by decide) (by decide)]; exact h.cs j hj) (fun j hj => by rw [eb 27 (by decide) (by decide)]; exact h.bt j hj) (fun j hj => by
      rw [a3 _ (by have := pm_lt n (by omega) R hR j hj; omega)]; rfl) (by rw [a2 24 (by decide), wr_s]; rfl)
  obtain ⟨i1, i2⟩ := kq_i D st (bareV D hs n ps st (rw_ R) (2 ^ n - 1)) (fun _ => 0) (rw_ R) (2 ^ n - 1) (m1 29) (fun _ => 0) n
  have fr : ∀ j, j ≠ 9 → j ≠ 12 → j ≠ 13 → j ≠ 14 → j ≠ 15 → j ≠ 16 → ν 24 j = μ 24 j := fun j h0 h1 h2 h3 h4 h5 => by rw [f3 j h1 h2 h3 h4 h5, e24 j h0]
  have fb : ∀ b, b ≠ 24 → b ≠ 28 → b ≠ 29 → ν b = μ b := fun b h1 h2 h3 => by rw [f2 b h1 h3, eb b h1 h2]
  refine ⟨m1, ν, ?_, f1, fb, ⟨datX_f (fb 3 (by decide) (by decide) (by decide)) (fb 5 (by decide) (by decide) (by decide)) h.d, roaX_f (fb 3 (by decide) (by decide) (by decide)) (fb 4 (by decide) (by decide) (by decide)) h.r, by rw [fr 6 (by decide) (by decide) (by decide) (by decide) (by decide) (by decide)]; exact h.s6, by rw [fr 7 (by decide) (by decide) (by decide) (by decide) (by decide) (by decide)]; exact h.s7, by rw [fr 8 (by decide) (by decide) (by decide) (by decide) (by decide) (by decide)]; exact h.s8, fun i hi => by rw [fb 25 (by decide) (by decide) (by decide)]; exact h.cs i hi, by rw [fr 10 (by decide) (by decide) (by decide) (by decide) (by decide) (by decide)]; exact h.s10, by rw [fr 11 (by decide) (by decide) (by decide) (by decide) (by decide) (by decide)]; exact h.s11, fun i hi => by rw [fb 27 (by decide) (by decide) (by decide)]; exact h.bt i hi⟩, ?_, ?_⟩
  · unfold fX6_stowLoose
    rw [lb_e, a1, bv_e]
  · rw [f5, i1, e24 10 (by decide), e24 11 (by decide), h.s10, h.s11]; rfl
  · rw [f8, i2]; rfl
/-! best -/
noncomputable def bbL (D : Nat → Nat → Int32) (hs : Nat → Nat) (n : Nat) (ps st : Int32) (b : BS) : Nat → BS
  | 0 => b
  | k + 1 => bsL D hs n ps st (prm n k) (bbL D hs n ps st b k) (fct n)
def tkS (μ : Mem) (n H : Nat) (D : Nat → Nat → Int32) (ps st : Int32) : Prop := (datX μ 3 n D) ∧ (roaX μ 3 H D) ∧ (μ 24 6 = nI n) ∧ (μ 24 7 = ps) ∧ (μ 24 8 = st)
theorem tkS.d {μ : Mem} {n H : Nat} {D : Nat → Nat → Int32} {ps st : Int32} (h : tkS μ n H D ps st) : datX μ 3 n D := h.1
theorem tkS.r {μ : Mem} {n H : Nat} {D : Nat → Nat → Int32} {ps st : Int32} (h : tkS μ n H D ps st) : roaX μ 3 H D := h.2.1
theorem tkS.s6 {μ : Mem} {n H : Nat} {D : Nat → Nat → Int32} {ps st : Int32} (h : tkS μ n H D ps st) : μ 24 6 = nI n := h.2.2.1
theorem tkS.s7 {μ : Mem} {n H : Nat} {D : Nat → Nat → Int32} {ps st : Int32} (h : tkS μ n H D ps st) : μ 24 7 = ps := h.2.2.2.1
theorem tkS.s8 {μ : Mem} {n H : Nat} {D : Nat → Nat → Int32} {ps st : Int32} (h : tkS μ n H D ps st) : μ 24 8 = st := h.2.2.2.2
theorem tkS.f {μ ν : Mem} {n H : Nat} {D : Nat → Nat → Int32} {ps st : Int32} (h : tkS μ n H D ps st) (hb : ∀ q, q ≠ 25 → ν q = μ q) : tkS ν n H D ps st := by
  have e24 := hb 24 (by decide)
  exact ⟨datX_f (hb 3 (by decide)) (hb 5 (by decide)) h.d, roaX_f (hb 3 (by decide)) (hb 4 (by decide)) h.r, by rw [e24]; exact h.s6, by rw [e24]; exact h.s7, by rw [e24]; exact h.s8⟩
theorem x_fbL {n H sk : Nat} {D : Nat → Nat → Int32} {hs : Nat → Nat} {ps : Int32} (ok : DOK n H D hs) (hsk : sk ≤ 60) (b : BS) : ∀ (r k fu : Nat) (μ : Mem), k + r = fct n → r < fu → tkS μ n H D ps (nI sk) → (k < fct n → rowX μ 25 n (prm n k)) → chX μ (bbL D hs n ps (nI sk) b k) → ∃ ν, fX7_findBest_L51 fu (nI n) (nI (fct n)) (nI k) μ = some ν ∧ (∀ q, q < 24 ∨ 30 < q → ν q = μ q) ∧ chX ν (bbL D hs n ps (nI sk) b (fct n))
  | 0, k, fu + 1, μ, h1, _, ht, hl, hc => by
    have e : k = fct n := by omega
    subst e
    refine ⟨μ, ?_, fun _ _ => rfl, hc⟩
    rw [fX7_findBest_L51, if_pos (Int32.le_refl _)]
  | r + 1, k, fu + 1, μ, h1, h2, ht, hl, hc => by
    have hn := ok.n5
    have hF := fct_le n (by omega)
    have hk : k < fct n := by omega
    have hR := prm_mem hn hk
    obtain ⟨m1, a1, a2, a3, a4⟩ := x_rdS hn ok.hh hR ht.d ht.r ht.s6 ht.s7 ht.s8 (hl hk)
    obtain ⟨m2, m3, b1, b2, b3, b4, b5, b6⟩ := x_loose hn hR a4
    have hc3 : chX m3 (bbL D hs n ps (nI sk) b k) := chX_f hc (by rw [b3 30 (by decide) (by decide) (by decide), a2 30 (by decide) (by decide)])
    have hcond := ch_cond (t := loH D hs n ps (nI sk) (prm n k)) hc3 (lo_pos ps (nI sk) (prm n k) ok)
    have go : ∀ m : Mem, (∀ q, q < 24 ∨ 30 < q → m q = m3 q) → rdS m n H D hs (prm n k) ps (nI sk) → chX m (bbL D hs n ps (nI sk) b (k + 1)) → ∃ ν, fX7_findBest_J105 (fun x1 x2 x3 μ => fX7_findBest_L51 fu x1 x2 x3 μ) (nI n) (nI (fct n)) (nI k) m = some ν ∧ (∀ q, q < 24 ∨ 30 < q → ν q = μ q) ∧ chX ν (bbL D hs n ps (nI sk) b (fct n)) := by
      intro m hm hr hcm
      obtain ⟨ν, g1, g2, g3⟩ := x_next (μ := m) (a := 25) hn hk hr.cs
      have hkm : tkS m n H D ps (nI sk) := ⟨hr.d, hr.r, hr.s6, hr.s7, hr.s8⟩
      obtain ⟨w, q1, q2, q3⟩ := x_fbL ok hsk b r (k + 1) fu ν (by omega) (by omega) (hkm.f g2) g3 (chX_f hcm (g2 30 (by decide)))
      refine ⟨w, ?_, fun q hq => by rw [q2 q hq, g2 q (by omega), hm q hq, b3 q (by omega) (by omega) (by omega), a2 q (by omega) (by omega)], q3⟩
      unfold fX7_findBest_J105
      rw [g1, bv_e, lb_e, nI_s1]
      exact q1
    have hlt : ¬ nI (fct n) ≤ nI k := by rw [le_nI (by omega) (by omega)]; omega
    rw [fX7_findBest_L51, if_neg hlt, a1, bv_e, b1, bv_e, b2, bv_e, x_beat, bi_e, if_10, b5, b6]
    by_cases hb : (m3 30 0 = 0 ∨ m3 30 1 < loP D hs n ps (nI sk) (prm n k) ∨ (loP D hs n ps (nI sk) (prm n k) = m3 30 1 ∧ ¬ m3 30 2 ≤ loH D hs n ps (nI sk) (prm n k)))
    · obtain ⟨m4, c1, c2, c3, c4⟩ := x_tp ok hR b4 hc3
      rw [if_pos hb, c1, bv_e]
      exact go m4 c2 c3 c4
    · rw [if_neg hb]
      refine go m3 (fun _ _ => rfl) b4 ?_
      have hno := bsL_no (D := D) (hs := hs) (R := prm n k) (ps := ps) (st := nI sk) (b := bbL D hs n ps (nI sk) b k) hn (fun P hP c => hb (hcond.2 (cond_mono (lo_ok ps ok hR hsk).1 (lo_ok ps ok hR hsk).2 c))) (fct n) (Nat.le_refl _)
      rw [bbL, hno]
      exact hc3
theorem m_bbL {n H : Nat} {D : Nat → Nat → Int32} {hs : Nat → Nat} {P R : List Nat} {ps st : Int32} (x1 : Int32) (ok : DOK n H D hs) (hP : P ∈ perms n) (hR : R ∈ perms n) (b : BS) : ∀ (r c fu : Nat) (κ : Mem), c + r = 5 ^ n → r < fu → wlkR κ n H D P ps st → chM κ (bbL D hs n ps st b (pcnt n c)) → ∃ ξ, fX8_best_L35 fu x1 (nI (num n R)) (nI c) κ = some (if x1 = 0 then (bbL D hs n ps st b (fct n)).1 else if x1 = 1 then (bbL D hs n ps st b (fct n)).2.1 else if x1 = 2 then (bbL D hs n ps st b (fct n)).2.2.1 else (bbL D hs n ps st b (fct n)).2.2.2, ξ) ∧ (∀ q, q ≠ 0 → q ≠ 1 → q ≠ 14 → ξ q = κ q) ∧ (∀ j, j < 29 ∨ 37 < j → ξ 0 j = κ 0 j) ∧ (∀ j, (j < 25 ∨ 25 + n ≤ j) → ξ 1 j = κ 1 j) ∧ rowM ξ 25 n R
  | 0, c, fu + 1, κ, h1, _, hw, hc => by
    have hn := ok.n5
    have h5 := pw5l hn
    have e : c = 5 ^ n := by omega
    have hle : nI (5 ^ n) ≤ nI c := by rw [e]; exact Int32.le_refl _
    rw [e, pcnt_all hn] at hc
    obtain ⟨ξ, b1, b2, b3, b4⟩ := m_relay (κ := κ) (r := 25) hw.1.1 hn (by decide) hR
    have b1 : fX8_laysCode (25 : Int32) (nI (num n R)) κ = _ := b1
    refine ⟨ξ, ?_, fun q _ h _ => b2 q h, fun j _ => by rw [b2 0 (by decide)], b3, b4⟩
    rw [fX8_best_L35, m_codes hw.1.1 hn, bi_e, if_pos hle, b1, bi_e]
    unfold fX8_best_J110
    rw [b2 0 (by decide), hc.1, hc.2.1, hc.2.2.1, hc.2.2.2]
    by_cases e0 : x1 = 0
    · rw [if_pos e0, if_pos e0]
    · rw [if_neg e0, if_neg e0]
      by_cases e0 : x1 = 1
      · rw [if_pos e0, if_pos e0]
      · rw [if_neg e0, if_neg e0]
        by_cases e0 : x1 = 2
        · rw [if_pos e0, if_pos e0]
        · rw [if_neg e0, if_neg e0]
  | r + 1, c, fu + 1, κ, h1, h2, hw, hc => by
    have hn := ok.n5
    have h5 := pw5l hn
    have hc5 : c < 5 ^ n := by omega
    have hlt : ¬ nI (5 ^ n) ≤ nI c := by rw [le_nI (by omega) (by omega)]; omega
    cases ho : okP n (dg n c) with
    | false =>
      have b1 := (m_lays (κ := κ) (r := 25) hw.1.1 hn (by decide) hc5).2 ho
      have b1 : fX8_laysCode (25 : Int32) (nI c) κ = _ := b1
      have e := pc_no ho
      obtain ⟨ξ, q1, q2⟩ := m_bbL (R := R) x1 ok hP hR b r (c + 1) fu κ (by omega) (by omega) hw (by rw [e]; exact hc)
      refine ⟨ξ, ?_, q2⟩
      rw [fX8_best_L35, m_codes hw.1.1 hn, bi_e, if_neg hlt, b1, bi_e, if_pos rfl]
      unfold fX8_best_J57
      rw [lb_e, nI_s1]
      exact q1
    | true =>
      obtain ⟨p1, p2, p3⟩ := pc_ok hn hc5 ho
      have hQ := prm_mem hn p2
      obtain ⟨k1, b1, b2, b3, b4⟩ := (m_lays (κ := κ) (r := 25) hw.1.1 hn (by decide) hc5).1 ho
      have b1 : fX8_laysCode (25 : Int32) (nI c) κ = _ := b1
      rw [← p1] at b4
      obtain ⟨hw1, hst1⟩ := wlkR_l hw b2 b3 b4
      obtain ⟨k2, d1, d2, d3, d4, d5⟩ := m_ap (hs := hs) ok hP hQ hw1 hst1 (b := bbL D hs n ps st b (pcnt n c)) (by unfold chM; rw [b2 0 (by decide)]; exact hc)
      have hw2 : wlkM k2 n H D P (prm n (pcnt n c)) ps := wlkM_f hw1 (fun q e0 e2 => by
        by_cases e1 : q = 1
        · subst e1; funext j; exact d4 j
        · exact d2 q e0 e1 e2) (d3 3 (by omega)) (d3 5 (by omega))
      have hst2 : k2 1 31 = st := by rw [d4 31]; exact hst1
      obtain ⟨ξ, q1, q2, q3, q4, q5⟩ := m_bbL (R := R) x1 ok hP hR b r (c + 1) fu k2 (by omega) (by omega) (wlkR_of hw2 hst2) (by rw [p3]; exact d5)
      refine ⟨ξ, ?_, fun q e0 e1 e2 => by rw [q2 q e0 e1 e2, d2 q e0 e1 e2, b2 q e1], fun j hj => by rw [q3 j hj, d3 j hj, b2 0 (by decide)], fun j hj => by rw [q4 j hj, d4 j, b3 j hj], q5⟩
      rw [fX8_best_L35, m_codes hw.1.1 hn, bi_e, if_neg hlt, b1, bi_e, if_neg one_ne, d1, bv_e]
      unfold fX8_best_J57
      rw [lb_e, nI_s1]
      exact q1
theorem st_best : ST_best Inv := by
  intro μ κ h x
  obtain ⟨n, H, D, hs, P, R, ps, st, g⟩ := h.main
  have hn := g.ok.n5
  have h5 := pw5l hn
  have hF := fct_le n (by omega)
  unfold fX7_best fX8_best
  rw [x_within, bi_e, if_10, m_i3, bi_e, if_10]
  by_cases hc : (0 : Int32) ≤ x ∧ x ≤ 3
  · rw [if_pos hc, if_pos hc]
    obtain ⟨f, hf⟩ := FU_s 3200 (by decide)
    obtain ⟨sk, hsk, rfl⟩ := g.sk
    obtain ⟨m1, m2, a1, a2, a3, a4, a5, a6, a7, a8, a9, a10, a11, a12⟩ := x_tkall g.fix g.shp
    obtain ⟨m3, b1, b2, b3⟩ := x_lay (a := 25) hn m2
    rw [← (prm_len n (by omega)).2] at b3
    have hk2 : tkS m2 n H D ps (nI sk) := ⟨a11, a12, a7, a8, a9⟩
    obtain ⟨b, hb⟩ : ∃ b : BS, b = (-1, 1000000, κ 0 36, κ 0 37) := ⟨_, rfl⟩
    obtain ⟨ν, c1, c2, c3⟩ := x_fbL (hs := hs) g.ok hsk b (fct n) 0 FU m3 (by omega) (by omega) (hk2.f b2) (fun _ => b3) (Or.inl ⟨by rw [b2 30 (by decide)]; exact a6, by rw [bbL, hb]⟩)
    have c1 : fX7_findBest_L51 FU (nI n) (nI (fct n)) 0 m3 = _ := c1
    have hw : wlkM (wr (wr κ 0 34 (-1)) 0 35 1000000) n H D P R ps := wlkM_f g.wlk (fun b hb _ => by rw [wr_f _ _ _ _ hb, wr_f _ _ _ _ hb]) (by simp only [wr_i, Nat.reduceEqDiff, false_and, and_false, and_self, and_true, true_and, if_false, if_true, reduceIte, ne_eq, not_true_eq_false, not_false_eq_true]) (by simp only [wr_i, Nat.reduceEqDiff, false_and, and_false, and_self, and_true, true_and, if_false, if_true, reduceIte, ne_eq, not_true_eq_false, not_false_eq_true])
    have hst : (wr (wr κ 0 34 (-1)) 0 35 1000000) 1 31 = nI sk := by rw [wr_f _ _ _ _ (by decide), wr_f _ _ _ _ (by decide)]; exact g.sm
    obtain ⟨ξ, d1, d2, d3, d4, d5⟩ := m_bbL (R := R) x g.ok g.hP g.hR b (5 ^ n) 0 FU _ (by omega) (by omega) (wlkR_of hw hst) (by rw [pcnt, bbL, hb]; refine ⟨?_, ?_, ?_, ?_⟩ <;> simp only [wr_i, Nat.reduceEqDiff, false_and, and_false, and_self, and_true, true_and, if_false, if_true, reduceIte, ne_eq, not_true_eq_false, not_false_eq_true])
    have d1 : fX8_best_L35 FU x (nI (num n R)) 0 _ = _ := d1
    have q : fX8_codeOf (25 : Int32) κ = _ := m_code (r := 25) g.nm g.qm hn (by decide)
    have hfb : fX7_findBest μ = some ν := by
      unfold fX7_findBest
      rw [lb_e, g.dx.1, x_arr hn, bi_e, a1, bv_e, a2, bi_e, a3, a4, bv_e, b1, bv_e, lb_e, c1]
    rw [hfb, bv_e, q, bi_e, lb_e, lb_e, lb_e, d1]
    have hm : AgM0 κ ξ := AgM0.k (fun q e0 e1 e2 => by rw [d2 q e0 e1 e2, wr_f _ _ _ _ e0, wr_f _ _ _ _ e0]) (fun j hj => by rw [d3 j hj, wr_o (by omega), wr_o (by omega)])
    have h1 : ∀ j, (j < 25 ∨ 25 + n ≤ j) → ξ 1 j = κ 1 j := fun j hj => by rw [d4 j hj, wr_f _ _ _ _ (by decide), wr_f _ _ _ _ (by decide)]
    have hb' : ∀ q, q < 24 ∨ 30 < q → ν q = μ q := fun q hq => by rw [c2 q hq, b2 q (by omega), a5 q hq]
    have hI : Inv ν ξ := h.m (fun q hq => hb' q (by omega)) hm (fun j e1 e2 => h1 j (by omega)) ⟨n, H, D, hs, P, R, ps, nI sk, g.f2 (fun q e1 e2 => hb' q (by omega)) hm h1 d5⟩
    rcases c3 with ⟨e1, e2⟩ | ⟨e1, e2, e3, e4, e5⟩
    · exfalso
      rw [show fct n = (fct n - 1) + 1 by omega, bbL] at e2
      exact bsL_ne g.ok ps (nI sk) _ _ hF.2 e2
    · by_cases e : x = 0
      · rw [if_pos e, if_pos e, e2]; exact ⟨_, _, _, rfl, rfl, hI⟩
      · rw [if_neg e, if_neg e]
        by_cases e : x = 1
        · rw [if_pos e, if_pos e, e3]; exact ⟨_, _, _, rfl, rfl, hI⟩
        · rw [if_neg e, if_neg e]
          by_cases e : x = 2
          · rw [if_pos e, if_pos e, e4]; exact ⟨_, _, _, rfl, rfl, hI⟩
          · rw [if_neg e, if_neg e, e5]; exact ⟨_, _, _, rfl, rfl, hI⟩
  · rw [if_neg hc, if_neg hc]; exact ⟨_, _, _, rfl, rfl, h⟩
