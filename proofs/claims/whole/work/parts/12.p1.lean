/-! ===== rows that are orders: their numbers, places, changes ===== -/
def dg : Nat → Nat → List Nat
  | 0, _ => []
  | n + 1, c => dg n (c / 5) ++ [c % 5]
def okP (n : Nat) (l : List Nat) : Bool := (List.range n).all (fun x => l.contains x)
def perms (n : Nat) : List (List Nat) := ((List.range (5 ^ n)).map (dg n)).filter (okP n)
def numG (f : Nat → Nat) : Nat → Nat
  | 0 => 0
  | k + 1 => 5 * numG f k + f k
def plG (f : Nat → Nat) (o : Nat) : Nat → Nat
  | 0 => 0
  | i + 1 => if f i = o then i else plG f o i
def rw_ (P : List Nat) : Nat → Nat := fun i => P.getD i 0
def num (n : Nat) (P : List Nat) : Nat := numG (rw_ P) n
def swp (P : List Nat) (o p : Nat) : List Nat := (P.set (P.idxOf o) p).set (P.idxOf p) o
def mvf (P : List Nat) (o : Nat) : List Nat := o :: P.erase o
theorem pm_len : ∀ n, n < 6 → ∀ P ∈ perms n, P.length = n := by decide +kernel
theorem pm_lt : ∀ n, n < 6 → ∀ P ∈ perms n, ∀ i, i < n → rw_ P i < n := by decide +kernel
theorem pm_inj : ∀ n, n < 6 → ∀ P ∈ perms n, ∀ i, i < n → ∀ j, j < n → rw_ P i = rw_ P j → i = j := by decide +kernel
theorem pm_idx : ∀ n, n < 6 → ∀ P ∈ perms n, ∀ o, o < n → (P.idxOf o < n ∧ rw_ P (P.idxOf o) = o ∧ plG (rw_ P) o n = P.idxOf o) := by decide +kernel
theorem pm_swp : ∀ n, n < 6 → ∀ P ∈ perms n, ∀ o, o < n → ∀ p, p < n → swp P o p ∈ perms n := by decide +kernel
theorem pm_mvf : ∀ n, n < 6 → ∀ P ∈ perms n, ∀ o, o < n → mvf P o ∈ perms n := by decide +kernel
theorem pm_num : ∀ n, n < 6 → ∀ P ∈ perms n, num n P < 5 ^ n := by decide +kernel
theorem pm_swg : ∀ n, n < 6 → ∀ P ∈ perms n, ∀ o, o < n → ∀ p, p < n → ∀ i, i < n → rw_ (swp P o p) i = if i = P.idxOf p then o else if i = P.idxOf o then p else rw_ P i := by decide +kernel
theorem pm_mvg : ∀ n, n < 6 → ∀ P ∈ perms n, ∀ o, o < n → ∀ i, i < n → rw_ (mvf P o) i = if i = 0 then o else if i ≤ P.idxOf o then rw_ P (i - 1) else rw_ P i := by decide +kernel
theorem nI_m5 (a b : Nat) : nI a * 5 + nI b = nI (5 * a + b) := by
  rw [show (5 : Int32) = nI 5 from rfl, pk_mul, nI_add, Nat.mul_comm]
theorem nI_5m (a b : Nat) : 5 * nI a + nI b = nI (5 * a + b) := by
  rw [show (5 : Int32) = nI 5 from rfl, pk_mul, nI_add]
theorem nI_s1 (a : Nat) : nI a + 1 = nI (a + 1) := nI_1 a
theorem nI_d1 (a : Nat) : nI (a + 1) + -1 = nI a := pk_m1 a
theorem nI_sm1 (a : Nat) : nI (a + 1) - 1 = nI a := nI_pred a
theorem x_numL {μ : Mem} {a n : Nat} {f : Nat → Nat} (hr : ∀ i, i < n → μ a i = nI (f i)) (h5 : n ≤ 5) : ∀ (k i fu : Nat), i + k = n → k < fu → fX7_numberOf_L4 a fu (nI n) (nI (numG f i)) (nI i) μ = some (nI (numG f n), μ)
  | 0, i, fu + 1, h, _ => by
    have e : i = n := by omega
    subst e
    rw [fX7_numberOf_L4, if_pos (nI_le (Nat.le_refl _) (by omega))]
  | k + 1, i, fu + 1, h, hf => by
    rw [fX7_numberOf_L4, if_neg (nI_ge (by omega) (by omega)), gr_n (by omega) (by omega), lb_e, lb_e, cl_n (by omega), hr i (by omega), nI_m5, nI_s1]
    exact x_numL hr h5 k (i + 1) fu (by omega) (by omega)
theorem x_num {μ : Mem} {a n : Nat} {f : Nat → Nat} (hr : ∀ i, i < n → μ a i = nI (f i)) (h5 : n ≤ 5) : fX7_numberOf a (nI n) μ = some (nI (numG f n), μ) := by
  unfold fX7_numberOf
  rw [lb_e, lb_e]
  exact x_numL hr h5 n 0 FU (by omega) (by show n < 4000; omega)
theorem x_plL {μ : Mem} {a n o : Nat} {f : Nat → Nat} (hr : ∀ i, i < n → μ a i = nI (f i)) (hf : ∀ i, i < n → f i < 2 ^ 31) (ho : o < 2 ^ 31) (h5 : n ≤ 5) : ∀ (k i fu : Nat), i + k = n → k < fu → fX7_placeOf_L5 a fu (nI n) (nI o) (nI (plG f o i)) (nI i) μ = some (nI (plG f o n), μ)
  | 0, i, fu + 1, h, _ => by
    have e : i = n := by omega
    subst e
    rw [fX7_placeOf_L5, if_pos (nI_le (Nat.le_refl _) (by omega))]
  | k + 1, i, fu + 1, h, hk => by
    have ih := x_plL hr hf ho h5 k (i + 1) fu (by omega) (by omega)
    rw [fX7_placeOf_L5, if_neg (nI_ge (by omega) (by omega)), gr_n (by omega) (by omega), cl_n (by omega), hr i (by omega)]
    unfold fX7_placeOf_J22
    simp only [lb_e, nI_s1]
    rw [plG] at ih
    by_cases e : f i = o
    · rw [if_pos (by rw [e])]
      rw [if_pos e] at ih
      exact ih
    · rw [if_neg (by rw [eq_nI (hf i (by omega)) ho]; exact e)]
      rw [if_neg e] at ih
      exact ih
theorem x_pl {μ : Mem} {a n o : Nat} {f : Nat → Nat} (hr : ∀ i, i < n → μ a i = nI (f i)) (hf : ∀ i, i < n → f i < 2 ^ 31) (ho : o < 2 ^ 31) (h5 : n ≤ 5) : fX7_placeOf a (nI n) (nI o) μ = some (nI (plG f o n), μ) := by
  unfold fX7_placeOf
  rw [lb_e, lb_e]
  exact x_plL hr hf ho h5 n 0 FU (by omega) (by show n < 4000; omega)
/-- the row a of μ holds the order P -/
def rowX (μ : Mem) (a n : Nat) (P : List Nat) : Prop := ∀ i, i < n → μ a i = nI (rw_ P i)
/-- the model's row, at r, holds the order P -/
def rowM (κ : Mem) (r n : Nat) (P : List Nat) : Prop := ∀ i, i < n → κ 1 (r + i) = nI (rw_ P i) - nI i
theorem x_place {μ : Mem} {a n o : Nat} {P : List Nat} (hr : rowX μ a n P) (h5 : n ≤ 5) (hP : P ∈ perms n) (ho : o < n) : fX7_placeOf a (nI n) (nI o) μ = some (nI (P.idxOf o), μ) := by
  rw [x_pl hr (fun i hi => by have := pm_lt n (by omega) P hP i hi; omega) (by omega) h5, (pm_idx n (by omega) P hP o ho).2.2]
theorem x_number {μ : Mem} {a n : Nat} {P : List Nat} (hr : rowX μ a n P) (h5 : n ≤ 5) : fX7_numberOf a (nI n) μ = some (nI (num n P), μ) := x_num hr h5
theorem m_at {κ : Mem} {r n i : Nat} {P : List Nat} (hr : rowM κ r n P) (hi : i < n) (h : r + i < 160) : fX8_at (nI r) (nI i) κ = some (nI (rw_ P i), κ) := by
  unfold fX8_at
  rw [nI_add, gr_n h (by omega), cl_n (by omega), hr i hi, Int32.sub_add_cancel]
theorem m_codeL {κ : Mem} {r n : Nat} {P : List Nat} (hn : κ 0 5 = nI n) (hr : rowM κ r n P) (h5 : n ≤ 5) (h : r + 5 ≤ 160) : ∀ (k i fu : Nat), i + k = n → k < fu → fX8_codeOf_L4 fu (nI r) (nI (numG (rw_ P) i)) (nI i) κ = some (nI (num n P), κ)
  | 0, i, fu + 1, h, _ => by
    have e : i = n := by omega
    subst e
    rw [fX8_codeOf_L4, if_pos (by rw [hn]; exact nI_le (Nat.le_refl _) (by omega))]
    rfl
  | k + 1, i, fu + 1, h, hf => by
    rw [fX8_codeOf_L4, if_neg (by rw [hn]; exact nI_ge (by omega) (by omega)), m_at hr (by omega) (by omega), bi_e, lb_e, lb_e, nI_5m, nI_s1]
    exact m_codeL hn hr h5 (by omega) k (i + 1) fu (by omega) (by omega)
theorem m_code {κ : Mem} {r n : Nat} {P : List Nat} (hn : κ 0 5 = nI n) (hr : rowM κ r n P) (h5 : n ≤ 5) (h : r + 5 ≤ 160) : fX8_codeOf (nI r) κ = some (nI (num n P), κ) := by
  unfold fX8_codeOf
  rw [lb_e, lb_e]
  exact m_codeL hn hr h5 h n 0 FU (by omega) (by show n < 4000; omega)
theorem m_placeL {κ : Mem} {r n o : Nat} {P : List Nat} (hr : rowM κ r n P) (h5 : n ≤ 5) (h : r + 5 ≤ 160) (hP : P ∈ perms n) (ho : o < n) : ∀ (k i fu : Nat), i + k = P.idxOf o → k < fu → fX8_placeOf_L2 fu (nI r) (nI o) (nI i) κ = some (nI (P.idxOf o), κ)
  | 0, i, fu + 1, h1, _ => by
    obtain ⟨g1, g2, -⟩ := pm_idx n (by omega) P hP o ho
    have e : i = P.idxOf o := by omega
    subst e
    rw [fX8_placeOf_L2, m_at hr g1 (by omega), bi_e, g2, if_pos rfl]
  | k + 1, i, fu + 1, h1, hf => by
    obtain ⟨g1, g2, -⟩ := pm_idx n (by omega) P hP o ho
    have hne : ¬ rw_ P i = o := fun e => by
      have := pm_inj n (by omega) P hP i (by omega) _ g1 (by rw [g2]; exact e)
      omega
    have hl := pm_lt n (by omega) P hP i (by omega)
    rw [fX8_placeOf_L2, m_at hr (by omega) (by omega), bi_e, if_neg (by rw [eq_nI (by omega) (by omega)]; exact hne), lb_e, nI_s1]
    exact m_placeL hr h5 h hP ho k (i + 1) fu (by omega) (by omega)
theorem m_place {κ : Mem} {r n o : Nat} {P : List Nat} (hr : rowM κ r n P) (h5 : n ≤ 5) (h : r + 5 ≤ 160) (hP : P ∈ perms n) (ho : o < n) : fX8_placeOf (nI r) (nI o) κ = some (nI (P.idxOf o), κ) := by
  have g1 := (pm_idx n (by omega) P hP o ho).1
  unfold fX8_placeOf
  rw [lb_e]
  exact m_placeL hr h5 h hP ho (P.idxOf o) 0 FU (by omega) (by show _ < 4000; omega)
/-! two orders change places -/
theorem x_exch {μ : Mem} {a n o p : Nat} {P : List Nat} (hn : μ 3 5 = nI n) (ha : a ≠ 3) (hr : rowX μ a n P) (h5 : n ≤ 5) (hP : P ∈ perms n) (ho : o < n) (hp : p < n) : ∃ ν, fX7_exchangeOrders a (nI o) (nI p) μ = some (nI (num n (swp P o p)), ν) ∧ (∀ b, b ≠ a → ν b = μ b) ∧ rowX ν a n (swp P o p) := by
  obtain ⟨g1, g2, -⟩ := pm_idx n (by omega) P hP o ho
  obtain ⟨g3, g4, -⟩ := pm_idx n (by omega) P hP p hp
  have hrow : rowX (wr (wr μ a (P.idxOf o) (nI p)) a (P.idxOf p) (nI o)) a n (swp P o p) := by
    intro i hi
    rw [pm_swg n (by omega) P hP o ho p hp i hi]
    by_cases e1 : i = P.idxOf p
    · rw [if_pos e1, e1, wr_s]
    · rw [if_neg e1, wr_o (fun h => e1 h.2)]
      by_cases e2 : i = P.idxOf o
      · rw [if_pos e2, e2, wr_s]
      · rw [if_neg e2, wr_o (fun h => e2 h.2)]
        exact hr i hi
  refine ⟨wr (wr μ a (P.idxOf o) (nI p)) a (P.idxOf p) (nI o), ?_, fun b hb => by rw [wr_f _ _ _ _ hb, wr_f _ _ _ _ hb], hrow⟩
  unfold fX7_exchangeOrders
  rw [x_isY hn h5 ho, bi_e, if_neg one_ne, x_isY hn h5 hp, bi_e, if_neg one_ne, lb_e, hn, x_place hr h5 hP ho, bi_e, x_place hr h5 hP hp, bi_e, gr_n (by omega) (by omega), lb_e, gr_n (by omega) (by omega), lb_e, cl_n (by omega), cl_n (by omega), x_number hrow h5, bi_e]
theorem x_exchN {μ : Mem} {a n : Nat} {x y : Int32} (hn : μ 3 5 = nI n) (h5 : n ≤ 5) (h : (x < 0 ∨ nI n ≤ x) ∨ (y < 0 ∨ nI n ≤ y)) : fX7_exchangeOrders a x y μ = some (-1, μ) := by
  unfold fX7_exchangeOrders fX7_exchangeOrders_J16
  rcases cases_n x (n := n) (by omega) with ⟨o, ho, rfl⟩ | hx
  · have hy : y < 0 ∨ nI n ≤ y := by
      rcases h with h | h
      · exact absurd ⟨o, ho, rfl⟩ (ex_no h (by omega))
      · exact h
    rw [x_isY hn h5 ho, bi_e, if_neg one_ne, x_isN hn h5 hy, bi_e, if_pos rfl]
  · rw [x_isN hn h5 hx, bi_e, if_pos rfl]
theorem m_chg {κ : Mem} {r n o p : Nat} {P : List Nat} (hn : κ 0 5 = nI n) (hr : rowM κ r n P) (h5 : n ≤ 5) (h : r + 5 ≤ 160) (hP : P ∈ perms n) (ho : o < n) (hp : p < n) : ∃ ξ, fX8_changes (nI r) (nI o) (nI p) κ = some (nI (num n (swp P o p)), ξ) ∧ (∀ b, b ≠ 1 → ξ b = κ b) ∧ (∀ j, (j < r ∨ r + n ≤ j) → ξ 1 j = κ 1 j) ∧ rowM ξ r n (swp P o p) := by
  obtain ⟨g1, g2, -⟩ := pm_idx n (by omega) P hP o ho
  obtain ⟨g3, g4, -⟩ := pm_idx n (by omega) P hP p hp
  have hrow : rowM (wr (wr κ 1 (r + P.idxOf o) (nI p - nI (P.idxOf o))) 1 (r + P.idxOf p) (nI o - nI (P.idxOf p))) r n (swp P o p) := by
    intro i hi
    rw [pm_swg n (by omega) P hP o ho p hp i hi]
    by_cases e1 : i = P.idxOf p
    · rw [if_pos e1, e1, wr_s]
    · rw [if_neg e1, wr_o (fun h => e1 (by omega))]
      by_cases e2 : i = P.idxOf o
      · rw [if_pos e2, e2, wr_s]
      · rw [if_neg e2, wr_o (fun h => e2 (by omega))]
        exact hr i hi
  have hn2 : (wr (wr κ 1 (r + P.idxOf o) (nI p - nI (P.idxOf o))) 1 (r + P.idxOf p) (nI o - nI (P.idxOf p))) 0 5 = nI n := by
    rw [wr_o (by omega), wr_o (by omega)]; exact hn
  refine ⟨_, ?_, fun b hb => by rw [wr_f _ _ _ _ hb, wr_f _ _ _ _ hb], fun j hj => by rw [wr_o (by omega), wr_o (by omega)], hrow⟩
  unfold fX8_changes
  rw [m_isY hn h5 ho, bi_e, if_neg one_ne, m_isY hn h5 hp, bi_e, if_neg one_ne, m_place hr h5 h hP ho, bi_e, m_place hr h5 h hP hp, bi_e, nI_add, gr_n (by omega) (by omega), lb_e, nI_add, gr_n (by omega) (by omega), lb_e, cl_n (by omega), cl_n (by omega), m_code hn2 hrow h5 h, bi_e]
theorem m_chgN {κ : Mem} {r n : Nat} {x y : Int32} (hn : κ 0 5 = nI n) (h5 : n ≤ 5) (h : (x < 0 ∨ nI n ≤ x) ∨ (y < 0 ∨ nI n ≤ y)) : fX8_changes (nI r) x y κ = some (-1, κ) := by
  unfold fX8_changes fX8_changes_J16
  rcases cases_n x (n := n) (by omega) with ⟨o, ho, rfl⟩ | hx
  · have hy : y < 0 ∨ nI n ≤ y := by
      rcases h with h | h
      · exact absurd ⟨o, ho, rfl⟩ (ex_no h (by omega))
      · exact h
    rw [m_isY hn h5 ho, bi_e, if_neg one_ne, m_isN hn h5 hy, bi_e, if_pos rfl]
  · rw [m_isN hn h5 hx, bi_e, if_pos rfl]
/-! one order comes first -/
theorem x_mvL {a n o t : Nat} {P : List Nat} (hP : P ∈ perms n) (h5 : n ≤ 5) (ho : o < n) : ∀ (i fu : Nat) (μ : Mem), i ≤ P.idxOf o → i < fu → (∀ j, j < n → μ a j = nI (if i < j ∧ j ≤ P.idxOf o then rw_ P (j - 1) else rw_ P j)) → ∃ ν, fX7_moveAhead_L7 a fu (nI o) (nI i) μ = some ν ∧ (∀ b, b ≠ a → ν b = μ b) ∧ rowX ν a n (mvf P o)
  | 0, fu + 1, μ, hi, _, hr => by
    have g1 := (pm_idx n (by omega) P hP o ho).1
    refine ⟨wr μ a 0 (nI o), ?_, fun b hb => wr_f _ _ _ _ hb, fun j hj => ?_⟩
    · rw [fX7_moveAhead_L7, if_pos (by decide)]
      rfl
    · rw [pm_mvg n (by omega) P hP o ho j hj]
      by_cases e : j = 0
      · rw [if_pos e, e, wr_s]
      · rw [if_neg e, wr_o (fun h => e h.2), hr j hj]
        by_cases e2 : j ≤ P.idxOf o
        · rw [if_pos e2, if_pos ⟨by omega, e2⟩]
        · rw [if_neg e2, if_neg (fun h => e2 h.2)]
  | i + 1, fu + 1, μ, hi, hf, hr => by
    have g1 := (pm_idx n (by omega) P hP o ho).1
    obtain ⟨ν, h1, h2, h3⟩ := x_mvL (t := t) hP h5 ho i fu (wr μ a (i + 1) (nI (rw_ P i))) (by omega) (by omega) (fun j hj => by
      by_cases e : j = i + 1
      · rw [e, wr_s, if_pos ⟨by omega, by omega⟩]; rfl
      · rw [wr_o (fun h => e h.2), hr j hj]
        by_cases e2 : i + 1 < j ∧ j ≤ P.idxOf o
        · rw [if_pos e2, if_pos ⟨by omega, e2.2⟩]
        · rw [if_neg e2, if_neg (fun h => e2 ⟨by omega, h.2⟩)])
    refine ⟨ν, ?_, fun b hb => by rw [h2 b hb, wr_f _ _ _ _ hb], h3⟩
    rw [fX7_moveAhead_L7, if_neg (nI_nle (by omega) (by omega)), nI_sm1, gr_n (by omega) (by omega), gr_n (by omega) (by omega), lb_e, lb_e, nI_d1, cl_n (by omega), cl_n (by omega), hr i (by omega), if_neg (fun h => by omega)]
    exact h1
theorem x_mv {μ : Mem} {a n o : Nat} {P : List Nat} (hr : rowX μ a n P) (h5 : n ≤ 5) (hP : P ∈ perms n) (ho : o < n) : ∃ ν, fX7_moveAhead a (nI n) (nI o) μ = some ν ∧ (∀ b, b ≠ a → ν b = μ b) ∧ rowX ν a n (mvf P o) := by
  have g1 := (pm_idx n (by omega) P hP o ho).1
  obtain ⟨ν, h1, h2, h3⟩ := x_mvL (t := 0) hP h5 ho (P.idxOf o) FU μ (Nat.le_refl _) (by show _ < 4000; omega) (fun j hj => by rw [if_neg (fun h => by omega)]; exact hr j hj)
  refine ⟨ν, ?_, h2, h3⟩
  unfold fX7_moveAhead
  rw [x_place hr h5 hP ho, bi_e]
  exact h1
theorem m_mvL {r n o : Nat} {P : List Nat} (hP : P ∈ perms n) (h5 : n ≤ 5) (hr5 : r + 5 ≤ 160) (ho : o < n) : ∀ (i fu : Nat) (κ : Mem), i ≤ P.idxOf o → i < fu → (∀ j, j < n → κ 1 (r + j) = nI (if i < j ∧ j ≤ P.idxOf o then rw_ P (j - 1) else rw_ P j) - nI j) → ∃ ξ, fX8_comesFirst_L7 fu (nI r) (nI o) (nI i) κ = some ξ ∧ (∀ b, b ≠ 1 → ξ b = κ b) ∧ (∀ j, (j < r ∨ r + n ≤ j) → ξ 1 j = κ 1 j) ∧ rowM ξ r n (mvf P o)
  | 0, fu + 1, κ, hi, _, hr => by
    have g1 := (pm_idx n (by omega) P hP o ho).1
    refine ⟨wr κ 1 r (nI o), ?_, fun b hb => wr_f _ _ _ _ hb, fun j hj => by rw [wr_o (by omega)], fun j hj => ?_⟩
    · rw [fX8_comesFirst_L7, if_pos (by decide), gr_n (by omega) (by omega), lb_e, cl_n (by omega)]
    · rw [pm_mvg n (by omega) P hP o ho j hj]
      by_cases e : j = 0
      · rw [if_pos e, e, Nat.add_zero, wr_s, nI_0, Int32.sub_zero]
      · rw [if_neg e, wr_o (fun h => e (by omega)), hr j hj]
        by_cases e2 : j ≤ P.idxOf o
        · rw [if_pos e2, if_pos ⟨by omega, e2⟩]
        · rw [if_neg e2, if_neg (fun h => e2 h.2)]
  | i + 1, fu + 1, κ, hi, hf, hr => by
    have g1 := (pm_idx n (by omega) P hP o ho).1
    have hat : fX8_at (nI r) (nI i) κ = some (nI (rw_ P i), κ) := by
      unfold fX8_at
      rw [nI_add, gr_n (by omega) (by omega), cl_n (by omega), hr i (by omega), if_neg (fun h => by omega), Int32.sub_add_cancel]
    obtain ⟨ξ, h1, h2, h3, h4⟩ := m_mvL hP h5 hr5 ho i fu (wr κ 1 (r + (i + 1)) (nI (rw_ P i) - nI (i + 1))) (by omega) (by omega) (fun j hj => by
      by_cases e : j = i + 1
      · rw [e, wr_s, if_pos ⟨by omega, by omega⟩]; rfl
      · rw [wr_o (fun h => e (by omega)), hr j hj]
        by_cases e2 : i + 1 < j ∧ j ≤ P.idxOf o
        · rw [if_pos e2, if_pos ⟨by omega, e2.2⟩]
        · rw [if_neg e2, if_neg (fun h => e2 ⟨by omega, h.2⟩)])
    refine ⟨ξ, ?_, fun b hb => by rw [h2 b hb, wr_f _ _ _ _ hb], fun j hj => by rw [h3 j hj, wr_o (by omega)], h4⟩
    rw [fX8_comesFirst_L7, if_neg (nI_nle (by omega) (by omega)), nI_sm1, hat, bi_e, nI_add, gr_n (by omega) (by omega), lb_e, lb_e, nI_d1, cl_n (by omega)]
    exact h1
theorem m_mv {κ : Mem} {r n o : Nat} {P : List Nat} (hr : rowM κ r n P) (h5 : n ≤ 5) (hr5 : r + 5 ≤ 160) (hP : P ∈ perms n) (ho : o < n) : ∃ ξ, fX8_comesFirst (nI r) (nI o) κ = some ξ ∧ (∀ b, b ≠ 1 → ξ b = κ b) ∧ (∀ j, (j < r ∨ r + n ≤ j) → ξ 1 j = κ 1 j) ∧ rowM ξ r n (mvf P o) := by
  have g1 := (pm_idx n (by omega) P hP o ho).1
  obtain ⟨ξ, h1, h2, h3, h4⟩ := m_mvL hP h5 hr5 ho (P.idxOf o) FU κ (Nat.le_refl _) (by show _ < 4000; omega) (fun j hj => by rw [if_neg (fun h => by omega)]; exact hr j hj)
  refine ⟨ξ, ?_, h2, h3, h4⟩
  unfold fX8_comesFirst
  rw [m_place hr h5 hr5 hP ho, bi_e]
  exact h1
