/-! ===== all arrangements: the class ===== -/
def fct : Nat → Nat
  | 0 => 1
  | n + 1 => (n + 1) * fct n
theorem x_arL (n : Nat) (hn : n ≤ 5) (μ : Mem) : ∀ (r i fu : Nat), i + r = n → 1 ≤ i → r < fu → fX7_arrangements_L4 fu (nI n) (nI (fct i)) (nI (i + 1)) μ = some (nI (fct n), μ)
  | 0, i, fu + 1, h1, _, _ => by
    have e : i = n := by omega
    subst e
    rw [fX7_arrangements_L4, if_pos (by rw [lt_nI (by omega) (by omega)]; omega)]
  | r + 1, i, fu + 1, h1, h2, h3 => by
    have q := x_arL n hn μ r (i + 1) fu (by omega) (by omega) (by omega)
    rw [fX7_arrangements_L4, if_neg (by rw [lt_nI (by omega) (by omega)]; omega), lb_e, lb_e, pk_mul, nI_s1]
    rw [fct, Nat.mul_comm] at q
    exact q
theorem x_arr {n : Nat} (hn : n ≤ 5) (μ : Mem) : fX7_arrangements (nI n) μ = some (nI (fct n), μ) := by
  obtain ⟨f, hf⟩ := FU_s 100 (by decide)
  unfold fX7_arrangements
  rw [lb_e, lb_e]
  by_cases h0 : n = 0
  · subst h0
    rw [hf, fX7_arrangements_L4, if_pos (by decide)]; rfl
  · exact x_arL n hn μ (n - 1) 1 FU (by omega) (by omega) (by omega)
theorem rg_rw : ∀ n, n < 6 → ∀ i, i < n → rw_ (List.range n) i = i := by decide +kernel
theorem x_lbL {a n : Nat} (hn : n ≤ 5) : ∀ (r i fu : Nat) (μ : Mem), i + r = n → r < fu → (∀ j, j < i → μ a j = nI j) → ∃ ν, fX7_layByOrder_L2 a fu (nI n) (nI i) μ = some ν ∧ (∀ b, b ≠ a → ν b = μ b) ∧ rowX ν a n (List.range n)
  | 0, i, fu + 1, μ, h1, _, h => by
    have e : i = n := by omega
    subst e
    refine ⟨μ, ?_, fun b _ => rfl, fun j hj => by rw [rg_rw i (by omega) j hj]; exact h j hj⟩
    rw [fX7_layByOrder_L2, if_pos (Int32.le_refl _)]
  | r + 1, i, fu + 1, μ, h1, h2, h => by
    obtain ⟨ν, a1, a2, a3⟩ := x_lbL hn r (i + 1) fu (wr μ a i (nI i)) (by omega) (by omega) (fun j hj => by
      rw [wr_i]
      by_cases e : j = i
      · rw [if_pos ⟨rfl, e⟩, e]
      · rw [if_neg (fun c => e c.2)]; exact h j (by omega))
    refine ⟨ν, ?_, fun b hb => by rw [a2 b hb, wr_f _ _ _ _ hb], a3⟩
    rw [fX7_layByOrder_L2, if_neg (by rw [le_nI (by omega) (by omega)]; omega), gr_n (by omega) (by omega), lb_e, lb_e, nI_s1, cl_n (by omega)]
    exact a1
theorem x_lay {a n : Nat} (hn : n ≤ 5) (μ : Mem) : ∃ ν, fX7_layByOrder a (nI n) μ = some ν ∧ (∀ b, b ≠ a → ν b = μ b) ∧ rowX ν a n (List.range n) := by
  obtain ⟨f, hf⟩ := FU_s 100 (by decide)
  obtain ⟨ν, h⟩ := x_lbL (a := a) hn n 0 FU μ (by omega) (by omega) (fun j hj => absurd hj (by omega))
  unfold fX7_layByOrder
  rw [lb_e, show (0 : Int32) = nI 0 from rfl]
  exact ⟨ν, h⟩
/-! the next arrangement -/
def nxI (f : Nat → Nat) : Nat → Nat
  | 0 => 0
  | i + 1 => if f i ≤ f (i + 1) then i + 1 else nxI f i
def nxJ (f : Nat → Nat) (i : Nat) : Nat → Nat
  | 0 => 0
  | j + 1 => if j + 1 ≤ i + 1 then j + 1 else if f i ≤ f (j + 1) then j + 1 else nxJ f i j
def sw (f : Nat → Nat) (i j : Nat) : Nat → Nat := fun k => if k = j then f i else if k = i then f j else f k
def nxR (f : Nat → Nat) : Nat → Nat → Nat → Nat → Nat
  | 0, _, _ => f
  | fu + 1, a, b => if b ≤ a then f else nxR (sw f a b) fu (a + 1) (b - 1)
def nx (n : Nat) (f : Nat → Nat) : Nat → Nat := if nxI f (n - 1) = 0 then f else nxR (sw f (nxI f (n - 1) - 1) (nxJ f (nxI f (n - 1) - 1) (n - 1))) 5 (nxI f (n - 1)) (n - 1)
theorem nx_ok : ∀ n, n < 6 → ∀ k, k < (perms n).length → ∀ i, i < n → nx n (rw_ ((perms n).getD k [])) i = rw_ ((perms n).getD (k + 1) ((perms n).getD k [])) i := by decide +kernel
theorem nxI_le (f : Nat → Nat) : ∀ i, nxI f i ≤ i
  | 0 => Nat.le_refl 0
  | i + 1 => by have := nxI_le f i; rw [nxI]; split <;> omega
theorem nxJ_le (f : Nat → Nat) (i : Nat) : ∀ j, nxJ f i j ≤ j
  | 0 => Nat.le_refl 0
  | j + 1 => by have := nxJ_le f i j; rw [nxJ]; split <;> (try split) <;> omega
theorem x_nxI {μ : Mem} {a n : Nat} {f : Nat → Nat} (hr : ∀ i, i < n → μ a i = nI (f i)) (hf : ∀ i, i < n → f i < 5) (hn : n ≤ 5) : ∀ (i fu : Nat), i < n → i < fu → fX7_toNextArrangement_L4 a fu (nI n) (pI i) μ = fX7_toNextArrangement_J25 a (nI n) (pI (nxI f i)) μ
  | 0, fu + 1, _, _ => by rw [fX7_toNextArrangement_L4, if_pos (by decide), nxI]
  | i + 1, fu + 1, h1, h2 => by
    have q := x_nxI hr hf hn i fu (by omega) (by omega)
    have f1 := hf i (by omega)
    have f2 := hf (i + 1) h1
    rw [pI, fX7_toNextArrangement_L4, if_neg (nI_pos (by omega)), nI_s1, gr_n (by omega) (by omega), gr_n (by omega) (by omega), cl_n (by omega), cl_n (by omega), hr i (by omega), hr (i + 1) h1, lb_e, pI_s, q, nxI]
    by_cases e : f i ≤ f (i + 1)
    · rw [if_pos (by rw [le_nI (by omega) (by omega)]; exact e), if_pos e, pI]
    · rw [if_neg (by rw [le_nI (by omega) (by omega)]; exact e), if_neg e]
theorem x_nxJ {μ : Mem} {a n i : Nat} {f : Nat → Nat} (hr : ∀ i, i < n → μ a i = nI (f i)) (hf : ∀ i, i < n → f i < 5) (hn : n ≤ 5) (hi : i < n) : ∀ (j fu : Nat), i < j → j < n → j < fu → fX7_toNextArrangement_L34 a fu (nI n) (nI i) (nI j) μ = fX7_toNextArrangement_J56 a (nI n) (nI i) (nI (nxJ f i j)) μ
  | 0, _, h0, _, _ => absurd h0 (by omega)
  | j + 1, fu + 1, h0, h1, h2 => by
    have f1 := hf i (by omega)
    have f2 := hf (j + 1) h1
    rw [fX7_toNextArrangement_L34, nI_s1, nxJ]
    by_cases e : j + 1 ≤ i + 1
    · rw [if_pos (by rw [le_nI (by omega) (by omega)]; exact e), if_pos e]
    · rw [if_neg (by rw [le_nI (by omega) (by omega)]; exact e), if_neg e, gr_n (by omega) (by omega), gr_n (by omega) (by omega), cl_n (by omega), cl_n (by omega), hr i hi, hr (j + 1) h1, lb_e, nI_d1, x_nxJ hr hf hn hi j fu (by omega) (by omega) (by omega)]
      by_cases e2 : f i ≤ f (j + 1)
      · rw [if_pos (by rw [le_nI (by omega) (by omega)]; exact e2), if_pos e2]
      · rw [if_neg (by rw [le_nI (by omega) (by omega)]; exact e2), if_neg e2]
theorem x_exP {μ : Mem} {a n i j : Nat} {f : Nat → Nat} (hr : ∀ i, i < n → μ a i = nI (f i)) (hn : n ≤ 5) (hi : i < n) (hj : j < n) : ∃ ν, fX7_exchangePlaces a (nI i) (nI j) μ = some ν ∧ (∀ b, b ≠ a → ν b = μ b) ∧ ∀ k, k < n → ν a k = nI (sw f i j k) := by
  unfold fX7_exchangePlaces
  rw [gr_n (by omega) (by omega), lb_e, gr_n (by omega) (by omega), gr_n (by omega) (by omega), lb_e, gr_n (by omega) (by omega), lb_e, cl_n (by omega), cl_n (by omega)]
  refine ⟨_, rfl, fun b hb => by rw [wr_f _ _ _ _ hb, wr_f _ _ _ _ hb], fun k hk => ?_⟩
  unfold sw
  rw [wr_i, wr_i, hr i hi, hr j hj, hr k hk]
  by_cases e1 : k = j
  · rw [if_pos ⟨rfl, e1⟩, if_pos e1]
  · rw [if_neg (fun c => e1 c.2), if_neg e1]
    by_cases e2 : k = i
    · rw [if_pos ⟨rfl, e2⟩, if_pos e2]
    · rw [if_neg (fun c => e2 c.2), if_neg e2]
theorem x_nxR {a n : Nat} (hn : n ≤ 5) : ∀ (d fu p q : Nat) (μ : Mem) (f : Nat → Nat), (∀ i, i < n → μ a i = nI (f i)) → q < n → q < p + 2 * d → d < fu → p ≤ 5 → ∃ ν, fX7_toNextArrangement_L72 a fu (nI p) (nI q) μ = some ν ∧ (∀ b, b ≠ a → ν b = μ b) ∧ ∀ k, k < n → ν a k = nI (nxR f d p q k)
  | 0, fu + 1, p, q, μ, f, hr, h1, h2, _, hp => by
    refine ⟨μ, ?_, fun b _ => rfl, hr⟩
    rw [fX7_toNextArrangement_L72, if_pos (by rw [le_nI (by omega) (by omega)]; omega)]
  | d + 1, fu + 1, p, q, μ, f, hr, h1, h2, h3, hp => by
    rw [fX7_toNextArrangement_L72]
    by_cases e : q ≤ p
    · refine ⟨μ, ?_, fun b _ => rfl, fun k hk => by rw [nxR, if_pos e]; exact hr k hk⟩
      rw [if_pos (by rw [le_nI (by omega) (by omega)]; exact e)]
    · obtain ⟨m, a1, a2, a3⟩ := x_exP hr hn (show p < n by omega) h1
      obtain ⟨ν, b1, b2, b3⟩ := x_nxR hn d fu (p + 1) (q - 1) m (sw f p q) a3 (by omega) (by omega) (by omega) (by omega)
      refine ⟨ν, ?_, fun b hb => by rw [b2 b hb, a2 b hb], fun k hk => by rw [nxR, if_neg e]; exact b3 k hk⟩
      rw [if_neg (by rw [le_nI (by omega) (by omega)]; exact e), a1, bv_e, lb_e, lb_e, nI_s1, show nI q = nI ((q - 1) + 1) by rw [show q - 1 + 1 = q by omega], nI_d1, b1]
theorem x_nx {μ : Mem} {a n : Nat} {f : Nat → Nat} (hr : ∀ i, i < n → μ a i = nI (f i)) (hf : ∀ i, i < n → f i < 5) (hn : n ≤ 5) : ∃ ν, fX7_toNextArrangement a (nI n) μ = some ν ∧ (∀ b, b ≠ a → ν b = μ b) ∧ ∀ k, k < n → ν a k = nI (nx n f k) := by
  obtain ⟨g, hg⟩ := FU_s 100 (by decide)
  unfold fX7_toNextArrangement
  rw [lb_e]
  by_cases h0 : n = 0
  · subst h0
    refine ⟨μ, ?_, fun b _ => rfl, fun k hk => absurd hk (by omega)⟩
    rw [hg, fX7_toNextArrangement_L4, if_pos (by decide)]
    unfold fX7_toNextArrangement_J25
    rw [if_neg (by decide)]
  · have e2 : nI n - 2 = pI (n - 1) := by
      rcases (show n = 1 ∨ n = 2 ∨ n = 3 ∨ n = 4 ∨ n = 5 by omega) with rfl | rfl | rfl | rfl | rfl <;> decide
    rw [e2, x_nxI hr hf hn (n - 1) FU (by omega) (by omega)]
    have hle := nxI_le f (n - 1)
    unfold fX7_toNextArrangement_J25 nx
    rcases hI : nxI f (n - 1) with _ | i
    · rw [if_neg (by decide)]
      exact ⟨μ, rfl, fun b _ => rfl, fun k hk => by rw [if_pos rfl]; exact hr k hk⟩
    · rw [hI] at hle
      have hJ := nxJ_le f i (n - 1)
      have e3 : nI n - 1 = nI (n - 1) := by rw [show (1 : Int32) = nI 1 from rfl, pk_sub (by omega)]
      rw [pI, if_pos (nI_pos' (by omega)), lb_e, e3, x_nxJ hr hf hn (by omega) (n - 1) FU (by omega) (by omega) (by omega)]
      unfold fX7_toNextArrangement_J56
      obtain ⟨m, a1, a2, a3⟩ := x_exP hr hn (show i < n by omega) (show nxJ f i (n - 1) < n by omega)
      obtain ⟨ν, b1, b2, b3⟩ := x_nxR hn 5 FU (i + 1) (n - 1) m _ a3 (by omega) (by omega) (by omega) (by omega)
      rw [a1, bv_e, lb_e, lb_e, nI_s1, e3, b1]
      refine ⟨ν, rfl, fun b hb => by rw [b2 b hb, a2 b hb], fun k hk => ?_⟩
      rw [if_neg (by omega), Nat.add_sub_cancel]
      exact b3 k hk
/-- the k-th arrangement -/
def prm (n k : Nat) : List Nat := (perms n).getD k []
theorem prm_len : ∀ n, n < 6 → (perms n).length = fct n ∧ prm n 0 = List.range n := by decide +kernel
theorem prm_mem {n k : Nat} (hn : n ≤ 5) (hk : k < fct n) : prm n k ∈ perms n := by
  have h := (prm_len n (by omega)).1
  unfold prm
  rw [List.getD_eq_getElem?_getD, List.getElem?_eq_getElem (by omega)]
  exact List.getElem_mem _
theorem x_next {μ : Mem} {a n k : Nat} (hn : n ≤ 5) (hk : k < fct n) (hr : rowX μ a n (prm n k)) : ∃ ν, fX7_toNextArrangement a (nI n) μ = some ν ∧ (∀ b, b ≠ a → ν b = μ b) ∧ (k + 1 < fct n → rowX ν a n (prm n (k + 1))) := by
  have hl := (prm_len n (by omega)).1
  obtain ⟨ν, a1, a2, a3⟩ := x_nx hr (fun i hi => Nat.lt_of_lt_of_le (pm_lt n (by omega) _ (prm_mem hn hk) i hi) hn) hn
  refine ⟨ν, a1, a2, fun h i hi => ?_⟩
  rw [a3 i hi]
  have e := nx_ok n (by omega) k (by omega) i hi
  unfold prm
  have e2 : ∀ d : List Nat, (perms n).getD (k + 1) d = (perms n)[k + 1]'(by omega) := fun d => by
    rw [List.getD_eq_getElem?_getD, List.getElem?_eq_getElem (by omega)]; rfl
  rw [e, e2, e2]
