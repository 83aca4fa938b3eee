/-! ===== how they lie on one another; times ===== -/
theorem or_cm : ∀ m, m < 32 → ∀ q, q < 32 → ∀ o, o < 5 → ((q.testBit o = true → (m &&& q) ||| 2 ^ o = (m ||| 2 ^ o) &&& q) ∧ (q.testBit o = false → m &&& q = (m ||| 2 ^ o) &&& q)) := by decide +kernel
theorem or_tb : ∀ m, m < 32 → ∀ o, o < 5 → ∀ j, j < 5 → (m ||| 2 ^ o).testBit j = (m.testBit j || decide (j = o)) := by decide +kernel
theorem abm_tb {n s k : Nat} {c : Nat → Nat} (h : clOk n c s k) {j : Nat} (hj : j < k) : ∀ i, i ≤ k → j < i → (abm c i).testBit (c j) = true
  | 0, _, h0 => absurd h0 (Nat.not_lt_zero j)
  | i + 1, hi, h1 => by
    obtain ⟨g1, -, -, g4, -⟩ := h.2.2.2.2 i (by omega)
    have hn := h.1
    have gj := (h.2.2.2.2 j hj).1
    show (abm c i ||| 2 ^ c i).testBit (c j) = true
    rw [or_tb _ g4 _ (by omega) _ (by omega)]
    by_cases e : j = i
    · subst e; simp
    · rw [abm_tb h hj i (by omega) (by omega), Bool.true_or]
theorem cl_ne {n s k : Nat} {c : Nat → Nat} (h : clOk n c s k) {i j : Nat} (hi : i < k) (hj : j < k) (hij : i ≠ j) : c i ≠ c j := by
  intro e
  rcases Nat.lt_or_gt_of_ne hij with q | q
  · have h1 := abm_tb h hi j (by omega) q
    rw [e, (h.2.2.2.2 j hj).2.2.2.2] at h1
    cases h1
  · have h1 := abm_tb h hj i (by omega) q
    rw [← e, (h.2.2.2.2 i hi).2.2.2.2] at h1
    cases h1
theorem abm_lt {n s k : Nat} {c : Nat → Nat} (h : clOk n c s k) : ∀ i, i ≤ k → abm c i < 32
  | 0, _ => (by decide : (0 : Nat) < 32)
  | i + 1, hi => by
    obtain ⟨g1, -, -, g4, -⟩ := h.2.2.2.2 i (by omega)
    have hn := h.1
    exact (bt_or _ g4 _ (by omega)).2
/-- which orders are crushed or spoilt from above -/
def crOk (D : Nat → Nat → Int32) (n : Nat) (c : Nat → Nat) (k cm : Nat) : Prop := cm < 32 ∧ ∀ i, i < k → (cm.testBit (c i) = true ↔ ((0 < i ∧ D 0 (c (i - 1)) = 4) ∨ (D 0 (c i) = 1 ∧ 5 < bsum (D 2) (abm c i) n)))
def undI (D : Nat → Nat → Int32) (c : Nat → Nat) : Nat → Int32
  | 0 => 0
  | i + 1 => if D 0 (c i) = 4 then 1 else 0
def stwX (μ ν : Mem) (c : Nat → Nat) (s k cm : Nat) : Prop := (∀ b, b ≠ 24 → b ≠ 28 → ν b = μ b) ∧ (∀ j, j ≠ 9 → ν 24 j = μ 24 j) ∧ ν 24 9 = nI (s &&& cm) ∧ ∀ i, i < k → ν 28 (c i) = nI (abm c i)
theorem x_stL {n s k cm : Nat} {D : Nat → Nat → Int32} {c : Nat → Nat} (h : clOk n c s k) (hcr : crOk D n c k cm) : ∀ (r i fu : Nat) (μ : Mem), i + r = k → r < fu → datX μ 3 n D → μ 24 6 = nI k → (∀ j, j < k → μ 26 j = nI (c j)) → μ 24 9 = nI (abm c i &&& cm) → (∀ j, j < i → μ 28 (c j) = nI (abm c j)) → ∃ ν, fX6_stow_L14 fu (bsum (D 2) (abm c i) n) (nI (abm c i)) (undI D c i) (nI i) μ = some ν ∧ stwX μ ν c s k cm
  | 0, i, fu + 1, μ, h1, _, hd, h6, hc, h9, hb => by
    have e : i = k := by omega
    subst e
    have hn := h.1
    have hn' := h.2.1
    refine ⟨μ, ?_, fun _ _ _ => rfl, fun _ _ => rfl, by rw [h9, h.2.2.2.1], hb⟩
    rw [fX6_stow_L14, if_pos (by rw [h6]; exact nI_le (Nat.le_refl _) (by omega))]
  | r + 1, i, fu + 1, μ, h1, hf, hd, h6, hc, h9, hb => by
    have hn := h.1
    have hn' := h.2.1
    obtain ⟨g1, g2, g3, g4, g5⟩ := h.2.2.2.2 i (by omega)
    have hor := bt_or _ g4 (c i) (by omega)
    have hcm := hcr.1
    have hand := bt_an (abm c i) g4 cm hcm
    have hcm2 := or_cm (abm c i) g4 cm hcm (c i) (by omega)
    have hw : bsum (D 2) (abm c i) n + D 2 (c i) = bsum (D 2) (abm c (i + 1)) n := by
      rw [← lsum_ab (D 2) h i (by omega), ← lsum_ab (D 2) h (i + 1) (by omega)]
      rfl
    have hu : undI D c (i + 1) = if D 0 (c i) = 4 then 1 else 0 := rfl
    have rest : ∀ μ1 : Mem, (∀ b, b ≠ 24 → b ≠ 28 → μ1 b = μ b) → (∀ j, j ≠ 9 → μ1 24 j = μ 24 j) → μ1 28 = μ 28 → μ1 24 9 = nI (abm c (i + 1) &&& cm) → ∃ ν, fX6_stow_J72 (fun x1 x2 x3 x4 μ => fX6_stow_L14 fu x1 x2 x3 x4 μ) (bsum (D 2) (abm c i) n) (nI (abm c i)) (nI i) (nI (c i)) (D 0 (c i)) μ1 = some ν ∧ stwX μ ν c s k cm := by
      intro μ1 f1 f2 f3 f4
      have dA : datX (wr μ1 28 (c i) (nI (abm c i))) 3 n D := datX_f (by rw [wr_f _ _ _ _ (by decide), f1 3 (by decide) (by decide)]) (by rw [wr_f _ _ _ _ (by decide), f1 5 (by decide) (by decide)]) hd
      obtain ⟨ν, k1, k2, k3, k4⟩ := x_stL h hcr r (i + 1) fu (wr μ1 28 (c i) (nI (abm c i))) (by omega) (by omega) dA (by rw [wr_o (by omega), f2 6 (by decide)]; exact h6) (fun j hj => by rw [wr_o (by omega), f1 26 (by decide) (by decide)]; exact hc j hj) (by rw [wr_o (by omega)]; exact f4) (fun j hj => by
        by_cases e : j = i
        · rw [e, wr_s]
        · rw [wr_o (fun q => cl_ne h (by omega) (by omega) e q.2), f3]
          exact hb j (by omega))
      refine ⟨ν, ?_, fun b b1 b2 => by rw [k2 b b1 b2, wr_f _ _ _ _ b2, f1 b b1 b2], fun j j1 => by rw [k3 j j1, wr_o (by omega), f2 j j1], k4⟩
      unfold fX6_stow_J72 fX6_stow_J111
      rw [gr_n (by omega) (by omega), lb_e, lb_e, cl_n (by omega), hor.1, show (2 : Int32) = nI 2 from rfl, x_of dA g1 (by omega), bi_e, lb_e, hw]
      simp only [lb_e, nI_s1]
      rw [hu] at k1
      by_cases e : D 0 (c i) = 4
      · rw [if_pos e]
        rw [if_pos e] at k1
        exact k1
      · rw [if_neg e]
        rw [if_neg e] at k1
        exact k1
    rw [fX6_stow_L14, if_neg (by rw [h6]; exact nI_ge (by omega) (by omega)), gr_n (by omega) (by omega), lb_e, cl_n (by omega), hc i (by omega), show (0 : Int32) = nI 0 from rfl, x_of hd g1 (by omega), bi_e, show nI 0 = (0 : Int32) from rfl]
    have hun : undI D c i = 0 ↔ ¬ (0 < i ∧ D 0 (c (i - 1)) = 4) := by
      cases i with
      | zero => simp [undI]
      | succ i =>
        show (if D 0 (c i) = 4 then (1 : Int32) else 0) = 0 ↔ _
        by_cases e : D 0 (c i) = 4 <;> simp [e]
    have yes : cm.testBit (c i) = true → ∃ ν, fX6_stow_J59 (fun x1 x2 x3 x4 μ => fX6_stow_L14 fu x1 x2 x3 x4 μ) (bsum (D 2) (abm c i) n) (nI (abm c i)) (nI i) (nI (c i)) (D 0 (c i)) μ = some ν ∧ stwX μ ν c s k cm := by
      intro hc1
      unfold fX6_stow_J59
      rw [lb_e, h9, (bt_or _ hand.2 (c i) (by omega)).1, hcm2.1 hc1]
      exact rest _ (fun b b1 _ => wr_f _ _ _ _ b1) (fun j j1 => wr_o (fun q => j1 q.2)) (wr_f _ _ _ _ (by decide)) (wr_s _ _ _ _)
    have no : cm.testBit (c i) = false → ∃ ν, fX6_stow_J72 (fun x1 x2 x3 x4 μ => fX6_stow_L14 fu x1 x2 x3 x4 μ) (bsum (D 2) (abm c i) n) (nI (abm c i)) (nI i) (nI (c i)) (D 0 (c i)) μ = some ν ∧ stwX μ ν c s k cm := by
      intro hc1
      exact rest μ (fun _ _ _ => rfl) (fun _ _ => rfl) rfl (by rw [h9, hcm2.2 hc1]; rfl)
    have hiff := hcr.2 i (by omega)
    by_cases e1 : undI D c i = 0
    · rw [if_pos e1]
      have n1 := hun.mp e1
      by_cases e2 : D 0 (c i) = 1
      · rw [if_pos e2]
        by_cases e3 : bsum (D 2) (abm c i) n ≤ 5
        · rw [if_pos e3]
          exact no (Bool.eq_false_iff.mpr (fun q => (hiff.mp q).elim n1 (fun q2 => absurd q2.2 (Int32.not_lt.mpr e3))))
        · rw [if_neg e3]
          exact yes (hiff.mpr (Or.inr ⟨e2, Int32.not_le.mp e3⟩))
      · rw [if_neg e2]
        exact no (Bool.eq_false_iff.mpr (fun q => (hiff.mp q).elim n1 (fun q2 => e2 q2.1)))
    · rw [if_neg e1]
      exact yes (hiff.mpr (Or.inl (by
        by_cases q : 0 < i ∧ D 0 (c (i - 1)) = 4
        · exact q
        · exact absurd (hun.mpr q) e1)))
theorem x_stow {μ : Mem} {n s k cm : Nat} {D : Nat → Nat → Int32} {c : Nat → Nat} (hd : datX μ 3 n D) (h6 : μ 24 6 = nI k) (hc : ∀ j, j < k → μ 26 j = nI (c j)) (h : clOk n c s k) (hcr : crOk D n c k cm) : ∃ ν, fX6_stow μ = some ν ∧ stwX μ ν c s k cm := by
  unfold fX6_stow
  simp only [lb_e]
  have hn := h.1
  have hn' := h.2.1
  obtain ⟨ν, k1, k2, k3, k4⟩ := x_stL h hcr k 0 FU (wr μ 24 9 0) (by omega) (by show k < 4000; omega) (datX_f (wr_f _ _ _ _ (by decide)) (wr_f _ _ _ _ (by decide)) hd) (by rw [wr_o (by omega)]; exact h6) (fun j hj => by rw [wr_o (by omega)]; exact hc j hj) (by rw [wr_s]; show (0 : Int32) = nI (0 &&& cm); rw [Nat.zero_and]; rfl) (fun j hj => absurd hj (Nat.not_lt_zero j))
  have k1 : fX6_stow_L14 FU (bsum (D 2) 0 n) 0 0 0 (wr μ 24 9 0) = some ν := k1
  rw [bsum_z] at k1
  exact ⟨ν, k1, fun b b1 b2 => by rw [k2 b b1 b2, wr_f _ _ _ _ b1], fun j j1 => by rw [k3 j j1, wr_o (fun q => j1 q.2)], k4⟩
/-! times -/
abbrev KS : Type := Int32 × (Nat → Int32) × Nat × Nat
def kq (D : Nat → Nat → Int32) (st : Int32) (b : Nat → Int32) (ab : Nat → Nat) (c : Nat → Nat) (s : Nat) (tm : Nat → Int32) : Nat → KS
  | 0 => (0, tm, 0, 0)
  | i + 1 =>
    let q := kq D st b ab c s tm i
    let u := q.1 + nI (popc (ab (c i) &&& lft c s i))
    let t := b i + u
    (u, upd q.2.1 (c i) t, if D 0 (c i) = 2 ∧ 20 < t - st then q.2.2.1 ||| 2 ^ c i else q.2.2.1, if D 4 (c i) < t then q.2.2.2 ||| 2 ^ c i else q.2.2.2)
theorem kq_lt {D : Nat → Nat → Int32} {st : Int32} {b : Nat → Int32} {ab : Nat → Nat} {c : Nat → Nat} {n s k : Nat} {tm : Nat → Int32} (h : clOk n c s k) : ∀ i, i ≤ k → (kq D st b ab c s tm i).2.2.1 < 32 ∧ (kq D st b ab c s tm i).2.2.2 < 32
  | 0, _ => ⟨(by decide : (0 : Nat) < 32), (by decide : (0 : Nat) < 32)⟩
  | i + 1, hi => by
    obtain ⟨h1, h2⟩ := kq_lt (D := D) (st := st) (b := b) (ab := ab) (tm := tm) h i (by omega)
    have hn := h.1
    have g1 := (h.2.2.2.2 i (by omega)).1
    rw [kq]
    dsimp only
    refine ⟨?_, ?_⟩
    · split
      · exact (bt_or _ h1 _ (by omega)).2
      · exact h1
    · split
      · exact (bt_or _ h2 _ (by omega)).2
      · exact h2
theorem x_pbL {μ : Mem} {n s k sp lt : Nat} {c : Nat → Nat} (h : clOk n c s k) (h6 : μ 24 6 = nI k) (hc : ∀ j, j < k → μ 25 j = nI (c j)) (hs : sp < 32) (hl : lt < 32) (h14 : μ 24 14 = nI sp) (h15 : μ 24 15 = nI lt) : ∀ (r i fu : Nat), i + r = k → r < fu → fX6_paidBits_L4 fu (nI (abm c i)) (nI i) μ = some (nI (mcl (mcl s sp) lt), μ)
  | 0, i, fu + 1, h1, _ => by
    have e : i = k := by omega
    subst e
    have hn := h.1
    have hn' := h.2.1
    have hm := abm_lt h i (Nat.le_refl _)
    have a1 := bt_cl _ hm sp hs
    have a2 := bt_cl _ a1.2 lt hl
    rw [fX6_paidBits_L4, if_pos (by rw [h6]; exact nI_le (Nat.le_refl _) (by omega)), h14, h15, a1.1, a2.1, h.2.2.2.1]
  | r + 1, i, fu + 1, h1, hf => by
    have hn := h.1
    have hn' := h.2.1
    obtain ⟨g1, g2, g3, g4, g5⟩ := h.2.2.2.2 i (by omega)
    rw [fX6_paidBits_L4, if_neg (by rw [h6]; exact nI_ge (by omega) (by omega)), gr_n (by omega) (by omega), lb_e, lb_e, cl_n (by omega), hc i (by omega), (bt_or _ g4 (c i) (by omega)).1, nI_s1]
    exact x_pbL h h6 hc hs hl h14 h15 r (i + 1) fu (by omega) (by omega)
theorem x_pb {μ : Mem} {n s k sp lt : Nat} {c : Nat → Nat} (h : clOk n c s k) (h6 : μ 24 6 = nI k) (hc : ∀ j, j < k → μ 25 j = nI (c j)) (hs : sp < 32) (hl : lt < 32) (h14 : μ 24 14 = nI sp) (h15 : μ 24 15 = nI lt) : fX6_paidBits μ = some (nI (mcl (mcl s sp) lt), μ) := by
  have hn := h.1
  have hn' := h.2.1
  unfold fX6_paidBits
  rw [lb_e, lb_e]
  exact x_pbL h h6 hc hs hl h14 h15 k 0 FU (by omega) (by show k < 4000; omega)
/-- behind finish() -/
def finX (μ ν : Mem) (D : Nat → Nat → Int32) (n : Nat) (st : Int32) (b : Nat → Int32) (ab : Nat → Nat) (c : Nat → Nat) (s k c0 : Nat) : Prop := (∀ a, a ≠ 24 → a ≠ 29 → ν a = μ a) ∧ (∀ j, j ≠ 12 → j ≠ 13 → j ≠ 14 → j ≠ 15 → j ≠ 16 → ν 24 j = μ 24 j) ∧ ν 24 12 = (kq D st b ab c s (μ 29) k).1 ∧ ν 24 13 = ((st + μ 24 10) + μ 24 11) + (kq D st b ab c s (μ 29) k).1 ∧ ν 24 14 = nI (c0 ||| (kq D st b ab c s (μ 29) k).2.2.1) ∧ ν 24 15 = nI (kq D st b ab c s (μ 29) k).2.2.2 ∧ ν 24 16 = bsum (D 3) (mcl (mcl s (c0 ||| (kq D st b ab c s (μ 29) k).2.2.1)) (kq D st b ab c s (μ 29) k).2.2.2) n ∧ ν 29 = (kq D st b ab c s (μ 29) k).2.1
