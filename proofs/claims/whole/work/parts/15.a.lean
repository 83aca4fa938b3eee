/-! ===== the text: tokens ===== -/
theorem ff_t : ¬ (false = true) := by decide
theorem ite_eqn {α : Type} {a b : Nat} {x y : α} (ha : a < 2 ^ 31) (hb : b < 2 ^ 31) : (if nI a = nI b then x else y) = if a = b then x else y := by
  by_cases h : a = b
  · rw [if_pos h, if_pos (by rw [h])]
  · rw [if_neg h, if_neg (by rw [eq_nI ha hb]; exact h)]
theorem ite_len {α : Type} {a b : Nat} {x y : α} (ha : a < 2 ^ 31) (hb : b < 2 ^ 31) : (if nI a ≤ nI b then x else y) = if a ≤ b then x else y := by
  by_cases h : a ≤ b
  · rw [if_pos h, if_pos (by rw [le_nI ha hb]; exact h)]
  · rw [if_neg h, if_neg (by rw [le_nI ha hb]; exact h)]
theorem ite_ltn {α : Type} {a b : Nat} {x y : α} (ha : a < 2 ^ 31) (hb : b < 2 ^ 31) : (if nI a < nI b then x else y) = if a < b then x else y := by
  by_cases h : a < b
  · rw [if_pos h, if_pos (by rw [lt_nI ha hb]; exact h)]
  · rw [if_neg h, if_neg (by rw [lt_nI ha hb]; exact h)]
def cF (μ ν : Mem) : Prop := (∀ b, b ≠ 23 → ν b = μ b) ∧ (∀ j, j < 3 ∨ 8 < j → ν 23 j = μ 23 j)
def rF (κ ξ : Mem) : Prop := (∀ b, b ≠ 0 → ξ b = κ b) ∧ (∀ j, j < 20 ∨ 25 < j → ξ 0 j = κ 0 j)
theorem cF.t {μ ν ζ : Mem} (h : cF μ ν) (g : cF ν ζ) : cF μ ζ := ⟨fun b hb => (g.1 b hb).trans (h.1 b hb), fun j hj => (g.2 j hj).trans (h.2 j hj)⟩
theorem rF.t {μ ν ζ : Mem} (h : rF μ ν) (g : rF ν ζ) : rF μ ζ := ⟨fun b hb => (g.1 b hb).trans (h.1 b hb), fun j hj => (g.2 j hj).trans (h.2 j hj)⟩
theorem cF.r (μ : Mem) : cF μ μ := ⟨fun _ _ => rfl, fun _ _ => rfl⟩
theorem rF.r (μ : Mem) : rF μ μ := ⟨fun _ _ => rfl, fun _ _ => rfl⟩
theorem cF.w (μ : Mem) {j : Nat} (h1 : 3 ≤ j) (h2 : j ≤ 8) (v : Int32) : cF μ (wr μ 23 j v) := ⟨fun b hb => wr_f _ _ _ _ hb, fun i hi => wr_o (by omega)⟩
theorem rF.w (μ : Mem) {j : Nat} (h1 : 20 ≤ j) (h2 : j ≤ 25) (v : Int32) : rF μ (wr μ 0 j v) := ⟨fun b hb => wr_f _ _ _ _ hb, fun i hi => wr_o (by omega)⟩
def tpX (μ : Mem) (t : Nat) (c : Nat → Nat) : Prop := t ≤ 160 ∧ μ 1 1 = nI t ∧ ∀ i, i < t → c i < 128 ∧ μ 2 i = nI (c i)
def tpM (κ : Mem) (t : Nat) (c : Nat → Nat) : Prop := t ≤ 160 ∧ κ 0 18 = nI t ∧ ∀ i, i < t → c i < 128 ∧ κ 11 i = nI (c i)
theorem tpX_f {μ ν : Mem} {t : Nat} {c : Nat → Nat} (h : tpX μ t c) (g : cF μ ν) : tpX ν t c := ⟨h.1, by rw [g.1 1 (by decide)]; exact h.2.1, fun i hi => by rw [g.1 2 (by decide)]; exact h.2.2 i hi⟩
theorem tpM_f {κ ξ : Mem} {t : Nat} {c : Nat → Nat} (h : tpM κ t c) (g : rF κ ξ) : tpM ξ t c := ⟨h.1, by rw [g.2 18 (by decide)]; exact h.2.1, fun i hi => by rw [g.1 11 (by decide)]; exact h.2.2 i hi⟩
theorem run_ex (f : Nat → Bool) (t : Nat) : ∀ (r p : Nat), p + r = t → ∃ e, p ≤ e ∧ e ≤ t ∧ (∀ i, p ≤ i → i < e → f i = true) ∧ (e = t ∨ (e < t ∧ f e = false))
  | 0, p, h => ⟨p, Nat.le_refl _, by omega, fun i a b => absurd b (by omega), Or.inl (by omega)⟩
  | r + 1, p, h => by
    cases hf : f p with
    | false => exact ⟨p, Nat.le_refl _, by omega, fun i a b => absurd b (by omega), Or.inr ⟨by omega, hf⟩⟩
    | true =>
      obtain ⟨e, h1, h2, h3, h4⟩ := run_ex f t r (p + 1) (by omega)
      refine ⟨e, by omega, h2, fun i a b => ?_, h4⟩
      by_cases q : i = p
      · rw [q]; exact hf
      · exact h3 i (by omega) b
/-! blanks -/
theorem x_bl {t e : Nat} {c : Nat → Nat} : ∀ (r p fu : Nat) (μ : Mem), p + r = e → r < fu → tpX μ t c → μ 23 7 = nI p → e ≤ t → (∀ i, p ≤ i → i < e → c i = 32) → (e = t ∨ (e < t ∧ ¬ c e = 32)) → ∃ ν, fX1_readToken_L0 fu μ = fX1_readToken_J44 ν ∧ cF μ ν ∧ ν 23 7 = nI e ∧ (∀ j, j ≠ 7 → ν 23 j = μ 23 j)
  | 0, p, fu + 1, μ, h1, _, ht, h7, he, hr, hs => by
    have e0 : p = e := by omega
    subst e0
    have h160 := ht.1
    refine ⟨μ, ?_, cF.r μ, h7, fun _ _ => rfl⟩
    rw [fX1_readToken_L0, ht.2.1, h7]
    rcases hs with rfl | ⟨h, hne⟩
    · rw [if_pos (Int32.le_refl _)]
    · have hc := ht.2.2 p h
      rw [if_neg (by rw [le_nI (by omega) (by omega)]; omega), gr_n (by omega) (by decide), cl_n (by omega), hc.2, if_neg (by rw [show (32 : Int32) = nI 32 from rfl, eq_nI (by omega) (by omega)]; exact hne)]
  | r + 1, p, fu + 1, μ, h1, h2, ht, h7, he, hr, hs => by
    have h160 := ht.1
    have hc := ht.2.2 p (by omega)
    have g : cF μ (wr μ 23 7 (nI (p + 1))) := cF.w μ (by decide) (by decide) _
    obtain ⟨ν, q1, q2, q3, q4⟩ := x_bl r (p + 1) fu (wr μ 23 7 (nI (p + 1))) (by omega) (by omega) (tpX_f ht g) (wr_s _ _ _ _) he (fun i a b => hr i (by omega) b) hs
    refine ⟨ν, ?_, g.t q2, q3, fun j hj => by rw [q4 j hj, wr_o (fun c => hj c.2)]⟩
    rw [fX1_readToken_L0, ht.2.1, h7, if_neg (by rw [le_nI (by omega) (by omega)]; omega), gr_n (by omega) (by decide), cl_n (by omega), hc.2, hr p (by omega) (by omega), if_pos (show nI 32 = (32 : Int32) from rfl), lb_e, nI_s1]
    exact q1
theorem m_byY {κ : Mem} {t p : Nat} {c : Nat → Nat} (h : tpM κ t c) (hp : p < t) : fX8_byteAt (nI p) κ = some (nI (c p), κ) := by
  have h160 := h.1
  unfold fX8_byteAt fX8_byteAt_J19
  rw [h.2.1, if_neg (by rw [le_nI (by omega) (by omega)]; omega), gr_n (by omega) (by decide), cl_n (by omega), (h.2.2 p hp).2]
theorem m_byN {κ : Mem} {t p : Nat} {c : Nat → Nat} (h : tpM κ t c) (hp : t ≤ p) (h1 : p < 1000) : fX8_byteAt (nI p) κ = some (-4, κ) := by
  have h160 := h.1
  unfold fX8_byteAt fX8_byteAt_J19
  rw [h.2.1, if_pos (by rw [le_nI (by omega) (by omega)]; omega)]
theorem m_bl {t e : Nat} {c : Nat → Nat} : ∀ (r p fu : Nat) (κ : Mem), p + r = e → r < fu → tpM κ t c → κ 0 22 = nI p → e ≤ t → (∀ i, p ≤ i → i < e → c i = 32) → ∃ ξ fu', fX8_step_L8 fu κ = fX8_step_L8 (fu' + 1) ξ ∧ rF κ ξ ∧ ξ 0 22 = nI e ∧ (∀ j, j ≠ 22 → ξ 0 j = κ 0 j)
  | 0, p, fu + 1, κ, h1, _, ht, h7, he, hr => by
    have e0 : p = e := by omega
    subst e0
    exact ⟨κ, fu, rfl, rF.r κ, h7, fun _ _ => rfl⟩
  | r + 1, p, fu + 1, κ, h1, h2, ht, h7, he, hr => by
    have g : rF κ (wr κ 0 22 (nI (p + 1))) := rF.w κ (by decide) (by decide) _
    obtain ⟨ξ, fu', q1, q2, q3, q4⟩ := m_bl r (p + 1) fu (wr κ 0 22 (nI (p + 1))) (by omega) (by omega) (tpM_f ht g) (wr_s _ _ _ _) he (fun i a b => hr i (by omega) b)
    refine ⟨ξ, fu', ?_, g.t q2, q3, fun j hj => by rw [q4 j hj, wr_o (fun c => hj c.2)]⟩
    rw [fX8_step_L8, h7, m_byY ht (by omega), bi_e, hr p (by omega) (by omega), if_pos (show nI 32 = (32 : Int32) from rfl), lb_e, h7, nI_s1]
    exact q1
/-! letters and figures -/
def isL (k : Nat) : Bool := decide (97 ≤ k ∧ k ≤ 122)
def isD (k : Nat) : Bool := decide (48 ≤ k ∧ k ≤ 57)
theorem x_let {k : Nat} (hk : k < 1000) (μ : Mem) : fX1_isLetter (nI k) μ = some (bI (isL k), μ) := by
  unfold fX1_isLetter fX1_isLetter_J16 fX1_isLetter_J17 isL
  rw [show (97 : Int32) = nI 97 from rfl, show (122 : Int32) = nI 122 from rfl, ite_ltn (by omega) (by omega), ite_ltn (by omega) (by omega), gd_t (Or.inl rfl), gd_t (Or.inr rfl)]
  by_cases h1 : k < 97
  · rw [if_pos h1, decide_eq_false (by omega)]; rfl
  · rw [if_neg h1]
    by_cases h2 : 122 < k
    · rw [if_pos h2, decide_eq_false (by omega)]; rfl
    · rw [if_neg h2, decide_eq_true (by omega)]; rfl
theorem x_fig {k : Nat} (hk : k < 1000) (μ : Mem) : fX1_isFigure (nI k) μ = some (bI (isD k), μ) := by
  unfold fX1_isFigure fX1_isFigure_J16 fX1_isFigure_J17 isD
  rw [show (48 : Int32) = nI 48 from rfl, show (57 : Int32) = nI 57 from rfl, ite_ltn (by omega) (by omega), ite_ltn (by omega) (by omega), gd_t (Or.inl rfl), gd_t (Or.inr rfl)]
  by_cases h1 : k < 48
  · rw [if_pos h1, decide_eq_false (by omega)]; rfl
  · rw [if_neg h1]
    by_cases h2 : 57 < k
    · rw [if_pos h2, decide_eq_false (by omega)]; rfl
    · rw [if_neg h2, decide_eq_true (by omega)]; rfl
theorem bI_if {p : Prop} [Decidable p] : (if p then (1 : Int32) else 0) = bI (decide p) := by
  by_cases h : p
  · rw [if_pos h, decide_eq_true h]; rfl
  · rw [if_neg h, decide_eq_false h]; rfl
theorem m_let {k : Nat} (hk : k < 1000) (κ : Mem) : fX8_in (nI k).toInt64 (97 : Int64) (122 : Int64) κ = some (bI (isL k), κ) := by
  rw [m_inl (a' := 97) (b' := 122) (by decide) (by decide)]
  unfold isL
  simp only [show (97 : Int32) = nI 97 from rfl, show (122 : Int32) = nI 122 from rfl, le_nI (show 97 < 2 ^ 31 by decide) (show k < 2 ^ 31 by omega), le_nI (show k < 2 ^ 31 by omega) (show 122 < 2 ^ 31 by decide), bI_if]
theorem m_fig {k : Nat} (hk : k < 1000) (κ : Mem) : fX8_in (nI k).toInt64 (48 : Int64) (57 : Int64) κ = some (bI (isD k), κ) := by
  rw [m_inl (a' := 48) (b' := 57) (by decide) (by decide)]
  unfold isD
  simp only [show (48 : Int32) = nI 48 from rfl, show (57 : Int32) = nI 57 from rfl, le_nI (show 48 < 2 ^ 31 by decide) (show k < 2 ^ 31 by omega), le_nI (show k < 2 ^ 31 by omega) (show 57 < 2 ^ 31 by decide), bI_if]
theorem m_let4 (κ : Mem) : fX8_in ((-4 : Int32)).toInt64 (97 : Int64) (122 : Int64) κ = some (0, κ) := by
  rw [m_inl (a' := 97) (b' := 122) (by decide) (by decide), if_neg (by decide)]
theorem m_fig4 (κ : Mem) : fX8_in ((-4 : Int32)).toInt64 (48 : Int64) (57 : Int64) κ = some (0, κ) := by
  rw [m_inl (a' := 48) (b' := 57) (by decide) (by decide), if_neg (by decide)]
theorem bI_t : ¬ bI true = (0 : Int32) := by decide
theorem bI_f : bI false = (0 : Int32) := rfl
theorem x_ltr {t e : Nat} {c : Nat → Nat} : ∀ (r p fu : Nat) (μ : Mem), p + r = e → r < fu → tpX μ t c → μ 23 7 = nI p → e ≤ t → (∀ i, p ≤ i → i < e → isL (c i) = true) → (e = t ∨ (e < t ∧ isL (c e) = false)) → ∃ ν, fX1_readToken_L132 fu μ = some ν ∧ cF μ ν ∧ ν 23 7 = nI e ∧ (∀ j, j ≠ 7 → ν 23 j = μ 23 j)
  | 0, p, fu + 1, μ, h1, _, ht, h7, he, hr, hs => by
    have e0 : p = e := by omega
    subst e0
    have h160 := ht.1
    refine ⟨μ, ?_, cF.r μ, h7, fun _ _ => rfl⟩
    rw [fX1_readToken_L132, ht.2.1, h7]
    unfold fX1_readToken_J311
    rcases hs with rfl | ⟨h, hne⟩
    · rw [if_pos (Int32.le_refl _)]
    · have hc := ht.2.2 p h
      rw [if_neg (by rw [le_nI (by omega) (by omega)]; omega), gr_n (by omega) (by decide), cl_n (by omega), hc.2, x_let (by omega), bi_e, hne, if_pos bI_f]
  | r + 1, p, fu + 1, μ, h1, h2, ht, h7, he, hr, hs => by
    have h160 := ht.1
    have hc := ht.2.2 p (by omega)
    have g : cF μ (wr μ 23 7 (nI (p + 1))) := cF.w μ (by decide) (by decide) _
    obtain ⟨ν, q1, q2, q3, q4⟩ := x_ltr r (p + 1) fu (wr μ 23 7 (nI (p + 1))) (by omega) (by omega) (tpX_f ht g) (wr_s _ _ _ _) he (fun i a b => hr i (by omega) b) hs
    refine ⟨ν, ?_, g.t q2, q3, fun j hj => by rw [q4 j hj, wr_o (fun c => hj c.2)]⟩
    rw [fX1_readToken_L132, ht.2.1, h7, if_neg (by rw [le_nI (by omega) (by omega)]; omega), gr_n (by omega) (by decide), cl_n (by omega), hc.2, x_let (by omega), bi_e, hr p (by omega) (by omega), if_neg bI_t, lb_e, h7, nI_s1]
    exact q1
theorem m_ltr {t e : Nat} {c : Nat → Nat} : ∀ (r p fu : Nat) (κ : Mem), p + r = e → r < fu → tpM κ t c → κ 0 22 = nI p → e ≤ t → (∀ i, p ≤ i → i < e → isL (c i) = true) → (e = t ∨ (e < t ∧ isL (c e) = false)) → ∃ ξ, fX8_step_L84 fu κ = some ξ ∧ rF κ ξ ∧ ξ 0 22 = nI e ∧ ξ 0 24 = 1 ∧ (∀ j, j ≠ 22 → j ≠ 24 → ξ 0 j = κ 0 j)
  | 0, p, fu + 1, κ, h1, _, ht, h7, he, hr, hs => by
    have e0 : p = e := by omega
    subst e0
    have h160 := ht.1
    refine ⟨wr κ 0 24 1, ?_, rF.w κ (by decide) (by decide) _, by rw [wr_o (by omega)]; exact h7, wr_s _ _ _ _, fun j _ hj => wr_o (by omega)⟩
    rw [fX8_step_L84, h7]
    unfold fX8_step_J269
    rcases hs with rfl | ⟨h, hne⟩
    · rw [m_byN ht (Nat.le_refl _) (by omega), bi_e, m_let4, bi_e, if_pos rfl, lb_e]
    · have hc := ht.2.2 p h
      rw [m_byY ht h, bi_e, m_let (by omega), bi_e, hne, if_pos bI_f, lb_e]
  | r + 1, p, fu + 1, κ, h1, h2, ht, h7, he, hr, hs => by
    have h160 := ht.1
    have hc := ht.2.2 p (by omega)
    have g : rF κ (wr κ 0 22 (nI (p + 1))) := rF.w κ (by decide) (by decide) _
    obtain ⟨ξ, q1, q2, q3, q4, q5⟩ := m_ltr r (p + 1) fu (wr κ 0 22 (nI (p + 1))) (by omega) (by omega) (tpM_f ht g) (wr_s _ _ _ _) he (fun i a b => hr i (by omega) b) hs
    refine ⟨ξ, ?_, g.t q2, q3, q4, fun j hj hk => by rw [q5 j hj hk, wr_o (fun c => hj c.2)]⟩
    rw [fX8_step_L84, h7, m_byY ht (by omega), bi_e, m_let (by omega), bi_e, hr p (by omega) (by omega), if_neg bI_t, lb_e, h7, nI_s1]
    exact q1
/-! numbers -/
def dvX (c : Nat → Nat) (pl : Nat) : Nat → Int32
  | 0 => 0
  | k + 1 => dvX c pl k * 10 + (nI (c (pl + k)) - 48)
def dvM (c : Nat → Nat) (pl : Nat) : Nat → Int32
  | 0 => 0
  | k + 1 => if k < 2 then (10 * dvM c pl k + nI (c (pl + k))) - 48 else dvM c pl k
theorem dv_eq {c : Nat → Nat} {pl k : Nat} (hk : k ≤ 2) (h : ∀ i, pl ≤ i → i < pl + k → isD (c i) = true) : ∃ v, v < 100 ∧ dvX c pl k = nI v ∧ dvM c pl k = nI v := by
  have hd : ∀ i, pl ≤ i → i < pl + k → 48 ≤ c i ∧ c i ≤ 57 := fun i a b => of_decide_eq_true (h i a b)
  rcases (show k = 0 ∨ k = 1 ∨ k = 2 by omega) with rfl | rfl | rfl
  · exact ⟨0, by decide, rfl, rfl⟩
  · obtain ⟨h1, h2⟩ := hd pl (Nat.le_refl _) (by omega)
    refine ⟨c pl - 48, by omega, ?_, ?_⟩
    · rw [dvX, dvX, Nat.add_zero, show (48 : Int32) = nI 48 from rfl, pk_sub h1, show (0 : Int32) * 10 = nI 0 from rfl, nI_add, Nat.zero_add]
    · rw [dvM, if_pos (by decide), dvM, Nat.add_zero, show (48 : Int32) = nI 48 from rfl, show (10 : Int32) * 0 = nI 0 from rfl, nI_add, Nat.zero_add, pk_sub h1]
  · obtain ⟨h1, h2⟩ := hd pl (Nat.le_refl _) (by omega)
    obtain ⟨h3, h4⟩ := hd (pl + 1) (by omega) (by omega)
    refine ⟨(c pl - 48) * 10 + (c (pl + 1) - 48), by omega, ?_, ?_⟩
    · rw [dvX, dvX, dvX, Nat.add_zero, show (48 : Int32) = nI 48 from rfl, pk_sub h1, show (0 : Int32) * 10 = nI 0 from rfl, nI_add, Nat.zero_add, pk_sub h3, show (10 : Int32) = nI 10 from rfl, pk_mul, nI_add]
    · rw [dvM, if_pos (by decide), dvM, if_pos (by decide), dvM, Nat.add_zero, show (48 : Int32) = nI 48 from rfl, show (10 : Int32) * 0 = nI 0 from rfl, nI_add, Nat.zero_add, pk_sub h1, show (10 : Int32) = nI 10 from rfl, pk_mul, nI_add, pk_sub (by omega)]
      congr 1
      omega
theorem x_dig {t e pl : Nat} {c : Nat → Nat} : ∀ (r k fu : Nat) (μ : Mem), pl + k + r = e → r < fu → tpX μ t c → μ 23 7 = nI (pl + k) → μ 23 8 = dvX c pl k → e ≤ t → (∀ i, pl ≤ i → i < e → isD (c i) = true) → (e = t ∨ (e < t ∧ isD (c e) = false)) → ∃ ν, fX1_readToken_L205 fu μ = fX1_readToken_J277 ν ∧ cF μ ν ∧ ν 23 7 = nI e ∧ ν 23 8 = dvX c pl (e - pl) ∧ (∀ j, j ≠ 7 → j ≠ 8 → ν 23 j = μ 23 j)
  | 0, k, fu + 1, μ, h1, _, ht, h7, h8, he, hr, hs => by
    have e0 : pl + k = e := by omega
    have h160 := ht.1
    refine ⟨μ, ?_, cF.r μ, by rw [← e0]; exact h7, by rw [← e0, Nat.add_sub_cancel_left]; exact h8, fun _ _ _ => rfl⟩
    rw [e0] at h7
    rw [fX1_readToken_L205, ht.2.1, h7]
    rcases hs with rfl | ⟨h, hne⟩
    · rw [if_pos (Int32.le_refl _)]
    · have hc := ht.2.2 e h
      rw [if_neg (by rw [le_nI (by omega) (by omega)]; omega), gr_n (by omega) (by decide), cl_n (by omega), hc.2, x_fig (by omega), bi_e, hne, if_pos bI_f]
  | r + 1, k, fu + 1, μ, h1, h2, ht, h7, h8, he, hr, hs => by
    have h160 := ht.1
    have hc := ht.2.2 (pl + k) (by omega)
    have g : cF μ (wr (wr μ 23 8 (dvX c pl (k + 1))) 23 7 (nI (pl + (k + 1)))) := (cF.w μ (by decide) (by decide) _).t (cF.w _ (by decide) (by decide) _)
    obtain ⟨ν, q1, q2, q3, q4, q5⟩ := x_dig r (k + 1) fu (wr (wr μ 23 8 (dvX c pl (k + 1))) 23 7 (nI (pl + (k + 1)))) (by omega) (by omega) (tpX_f ht g) (wr_s _ _ _ _) (by rw [wr_o (by omega), wr_s]) he hr hs
    refine ⟨ν, ?_, g.t q2, q3, q4, fun j hj hk => by rw [q5 j hj hk, wr_o (fun c => hj c.2), wr_o (fun c => hk c.2)]⟩
    rw [fX1_readToken_L205, ht.2.1, h7, if_neg (by rw [le_nI (by omega) (by omega)]; omega), gr_n (by omega) (by decide), cl_n (by omega), hc.2, x_fig (by omega), bi_e, hr (pl + k) (by omega) (by omega), if_neg bI_t, h7, gr_n (by omega) (by decide), lb_e, cl_n (by omega), hc.2, h8, lb_e, wr_o (by omega), h7, nI_s1]
    exact q1
theorem m_dig {t e pl : Nat} {c : Nat → Nat} : ∀ (r k fu : Nat) (κ : Mem), pl + k + r = e → r < fu → tpM κ t c → κ 0 22 = nI (pl + k) → κ 0 23 = nI pl → κ 0 25 = dvM c pl k → e ≤ t → (∀ i, pl ≤ i → i < e → isD (c i) = true) → (e = t ∨ (e < t ∧ isD (c e) = false)) → ∃ ξ, fX8_step_L140 fu κ = (if ((wr ξ 0 24 2) 0 22 - (wr ξ 0 24 2) 0 23) ≤ (2 : Int32) then some (wr ξ 0 24 2) else (bv (fX8_fails (1 : Int32) (wr ξ 0 24 2)) fun m6 => some m6)) ∧ rF κ ξ ∧ ξ 0 22 = nI e ∧ ξ 0 25 = dvM c pl (e - pl) ∧ (∀ j, j ≠ 22 → j ≠ 25 → ξ 0 j = κ 0 j)
  | 0, k, fu + 1, κ, h1, _, ht, h7, h23, h8, he, hr, hs => by
    have e0 : pl + k = e := by omega
    have h160 := ht.1
    refine ⟨κ, ?_, rF.r κ, by rw [← e0]; exact h7, by rw [← e0, Nat.add_sub_cancel_left]; exact h8, fun _ _ _ => rfl⟩
    rw [e0] at h7
    rw [fX8_step_L140, h7]
    unfold fX8_step_J269
    rcases hs with rfl | ⟨h, hne⟩
    · rw [m_byN ht (Nat.le_refl _) (by omega), bi_e, m_fig4, bi_e, if_pos rfl, lb_e]
    · have hc := ht.2.2 e h
      rw [m_byY ht h, bi_e, m_fig (by omega), bi_e, hne, if_pos bI_f, lb_e]
  | r + 1, k, fu + 1, κ, h1, h2, ht, h7, h23, h8, he, hr, hs => by
    have h160 := ht.1
    have hc := ht.2.2 (pl + k) (by omega)
    have g : rF κ (wr (wr κ 0 25 (dvM c pl (k + 1))) 0 22 (nI (pl + (k + 1)))) := (rF.w κ (by decide) (by decide) _).t (rF.w _ (by decide) (by decide) _)
    obtain ⟨ξ, q1, q2, q3, q4, q5⟩ := m_dig r (k + 1) fu (wr (wr κ 0 25 (dvM c pl (k + 1))) 0 22 (nI (pl + (k + 1)))) (by omega) (by omega) (tpM_f ht g) (wr_s _ _ _ _) (by rw [wr_o (by omega), wr_o (by omega)]; exact h23) (by rw [wr_o (by omega), wr_s]) he hr hs
    refine ⟨ξ, ?_, g.t q2, q3, q4, fun j hj hk => by rw [q5 j hj hk, wr_o (fun c => hj c.2), wr_o (fun c => hk c.2)]⟩
    rw [fX8_step_L140, h7, m_byY ht (by omega), bi_e, m_fig (by omega), bi_e, hr (pl + k) (by omega) (by omega), if_neg bI_t, h7, h23, pk_sub (by omega), Nat.add_sub_cancel_left, m_byY ht (by omega), bi_e, h8]
    unfold fX8_step_J201
    simp only [lb_e]
    rw [wr_o (by omega), wr_o (by omega), h7, nI_s1]
    rw [dvM] at q1
    by_cases hk : k < 2
    · rw [if_pos hk] at q1
      rw [if_neg (by rw [show (2 : Int32) = nI 2 from rfl, le_nI (by omega) (by omega)]; omega)]
      exact q1
    · rw [if_neg hk] at q1
      rw [if_pos (by rw [show (2 : Int32) = nI 2 from rfl, le_nI (by omega) (by omega)]; omega)]
      exact q1
/-! a token, or a fault -/
def TK (μ κ : Mem) (t tk pl nx v : Nat) : Prop := (μ 23 3 = 0) ∧ (κ 0 20 = 0) ∧ (μ 23 5 = nI tk) ∧ (κ 0 24 = nI tk) ∧ (μ 23 6 = nI pl) ∧ (κ 0 23 = nI pl) ∧ (μ 23 7 = nI nx) ∧ (κ 0 22 = nI nx) ∧ (pl ≤ nx) ∧ (nx ≤ t) ∧ (tk ≤ 3) ∧ (tk = 0 → pl = t) ∧ (tk ≠ 0 → pl < nx) ∧ (tk = 2 → v < 100 ∧ μ 23 8 = nI v ∧ κ 0 25 = nI v)
theorem TK.x3 {μ κ : Mem} {t tk pl nx v : Nat} (h : TK μ κ t tk pl nx v) : μ 23 3 = 0 := h.1
theorem TK.m20 {μ κ : Mem} {t tk pl nx v : Nat} (h : TK μ κ t tk pl nx v) : κ 0 20 = 0 := h.2.1
theorem TK.x5 {μ κ : Mem} {t tk pl nx v : Nat} (h : TK μ κ t tk pl nx v) : μ 23 5 = nI tk := h.2.2.1
theorem TK.m24 {μ κ : Mem} {t tk pl nx v : Nat} (h : TK μ κ t tk pl nx v) : κ 0 24 = nI tk := h.2.2.2.1
theorem TK.x6 {μ κ : Mem} {t tk pl nx v : Nat} (h : TK μ κ t tk pl nx v) : μ 23 6 = nI pl := h.2.2.2.2.1
theorem TK.m23 {μ κ : Mem} {t tk pl nx v : Nat} (h : TK μ κ t tk pl nx v) : κ 0 23 = nI pl := h.2.2.2.2.2.1
theorem TK.x7 {μ κ : Mem} {t tk pl nx v : Nat} (h : TK μ κ t tk pl nx v) : μ 23 7 = nI nx := h.2.2.2.2.2.2.1
theorem TK.m22 {μ κ : Mem} {t tk pl nx v : Nat} (h : TK μ κ t tk pl nx v) : κ 0 22 = nI nx := h.2.2.2.2.2.2.2.1
theorem TK.l1 {μ κ : Mem} {t tk pl nx v : Nat} (h : TK μ κ t tk pl nx v) : pl ≤ nx := h.2.2.2.2.2.2.2.2.1
theorem TK.l2 {μ κ : Mem} {t tk pl nx v : Nat} (h : TK μ κ t tk pl nx v) : nx ≤ t := h.2.2.2.2.2.2.2.2.2.1
theorem TK.l3 {μ κ : Mem} {t tk pl nx v : Nat} (h : TK μ κ t tk pl nx v) : tk ≤ 3 := h.2.2.2.2.2.2.2.2.2.2.1
theorem TK.e0 {μ κ : Mem} {t tk pl nx v : Nat} (h : TK μ κ t tk pl nx v) : tk = 0 → pl = t := h.2.2.2.2.2.2.2.2.2.2.2.1
theorem TK.e1 {μ κ : Mem} {t tk pl nx v : Nat} (h : TK μ κ t tk pl nx v) : tk ≠ 0 → pl < nx := h.2.2.2.2.2.2.2.2.2.2.2.2.1
theorem TK.e2 {μ κ : Mem} {t tk pl nx v : Nat} (h : TK μ κ t tk pl nx v) : tk = 2 → v < 100 ∧ μ 23 8 = nI v ∧ κ 0 25 = nI v := h.2.2.2.2.2.2.2.2.2.2.2.2.2
def FLT (μ κ : Mem) : Prop := ∃ q, 1 ≤ q ∧ q ≤ 6 ∧ μ 23 3 = nI q ∧ κ 0 20 = nI q ∧ μ 23 4 = κ 0 21
theorem x_fail {μ : Mem} (h : μ 23 3 = 0) (x y : Int32) : fX1_fail x y μ = some (wr (wr μ 23 3 x) 23 4 y) := by
  unfold fX1_fail fX1_fail_J17
  rw [if_pos h, lb_e, lb_e]
theorem x_failN {μ : Mem} (h : ¬ μ 23 3 = 0) (x y : Int32) : fX1_fail x y μ = some μ := by
  unfold fX1_fail fX1_fail_J17
  rw [if_neg h]
theorem m_fail {κ : Mem} (h : κ 0 20 = 0) (x : Int32) : fX8_fails x κ = some (wr (wr κ 0 20 x) 0 21 (κ 0 23)) := by
  unfold fX8_fails fX8_fails_J20
  rw [if_pos h, lb_e, lb_e, wr_o (by omega)]
theorem m_failN {κ : Mem} (h : ¬ κ 0 20 = 0) (x : Int32) : fX8_fails x κ = some κ := by
  unfold fX8_fails fX8_fails_J20
  rw [if_neg h]
theorem flt_mk {μ κ : Mem} {y : Int32} (q : Nat) (h1 : 1 ≤ q) (h2 : q ≤ 6) (h : y = κ 0 23) : FLT (wr (wr μ 23 3 (nI q)) 23 4 y) (wr (wr κ 0 20 (nI q)) 0 21 (κ 0 23)) :=
  ⟨q, h1, h2, by rw [wr_o (by omega), wr_s], by rw [wr_o (by omega), wr_s], by rw [wr_s, wr_s]; exact h⟩
theorem cF.fl (μ : Mem) (x y : Int32) : cF μ (wr (wr μ 23 3 x) 23 4 y) := (cF.w μ (by decide) (by decide) _).t (cF.w _ (by decide) (by decide) _)
theorem rF.fl (κ : Mem) (x y : Int32) : rF κ (wr (wr κ 0 20 x) 0 21 y) := (rF.w κ (by decide) (by decide) _).t (rF.w _ (by decide) (by decide) _)
theorem x_at44 {μ : Mem} {t p : Nat} {c : Nat → Nat} (hx : tpX μ t c) (x7 : μ 23 7 = nI p) (hp : p < t) : fX1_readToken_J44 μ = if c p = 59 then some (wr (wr (wr μ 23 6 (nI p)) 23 5 3) 23 7 (nI (p + 1))) else if isL (c p) = true then fX1_readToken_L132 FU (wr (wr μ 23 6 (nI p)) 23 5 1) else if isD (c p) = true then fX1_readToken_L205 FU (wr (wr (wr μ 23 6 (nI p)) 23 5 2) 23 8 0) else fX1_fail 1 (nI p) (wr μ 23 6 (nI p)) := by
  have h160 := hx.1
  have hc := hx.2.2 p hp
  obtain ⟨M, hM⟩ : ∃ M, M = wr μ 23 6 (nI p) := ⟨_, rfl⟩
  have g : cF μ M := by rw [hM]; exact cF.w μ (by decide) (by decide) _
  have tM := tpX_f hx g
  have e7 : M 23 7 = nI p := by rw [hM, wr_o (by omega)]; exact x7
  have e6 : M 23 6 = nI p := by rw [hM, wr_s]
  have cM := (tM.2.2 p hp).2
  unfold fX1_readToken_J44
  rw [x7, lb_e, ← hM, e7, tM.2.1, if_pos (by rw [lt_nI (by omega) (by omega)]; omega)]
  simp only [gr_n (show p < 160 by omega) (show 160 < 2 ^ 31 by decide), cl_n (show p < 2 ^ 31 by omega), cM, x_let (show c p < 1000 by omega), x_fig (show c p < 1000 by omega), bi_e, e7, e6, lb_e]
  rw [show (59 : Int32) = nI 59 from rfl, ite_eqn (by omega) (by omega), wr_o (by omega), e7, nI_s1]
  unfold fX1_readToken_J311
  have fe : ∀ o : Option Mem, (bv o fun m6 => some m6) = o := fun o => by cases o <;> rfl
  rw [fe]
  by_cases h59 : c p = 59
  · rw [if_pos h59, if_pos h59]
  · rw [if_neg h59, if_neg h59]
    cases isL (c p) with
    | true => rw [if_neg bI_t, if_pos rfl]
    | false =>
      rw [if_pos bI_f, if_neg ff_t]
      cases isD (c p) with
      | true => rw [if_neg bI_t, if_pos rfl]
      | false => rw [if_pos bI_f, if_neg ff_t]
theorem m_at8 {κ : Mem} {t p fu : Nat} {c : Nat → Nat} (hm : tpM κ t c) (m22 : κ 0 22 = nI p) (hp : p < t) (hne : ¬ c p = 32) : fX8_step_L8 (fu + 1) κ = if isL (c p) = true then fX8_step_L84 FU (wr (wr κ 0 23 (nI p)) 0 25 0) else if isD (c p) = true then fX8_step_L140 FU (wr (wr κ 0 23 (nI p)) 0 25 0) else if c p = 59 then some (wr (wr (wr (wr κ 0 23 (nI p)) 0 25 0) 0 24 3) 0 22 (nI (p + 1))) else fX8_fails 1 (wr (wr (wr (wr κ 0 23 (nI p)) 0 25 0) 0 24 3) 0 22 (nI (p + 1))) := by
  have h160 := hm.1
  have hc := hm.2.2 p hp
  have g : rF κ (wr κ 0 23 (nI p)) := rF.w κ (by decide) (by decide) _
  have e22 : wr κ 0 23 (nI p) 0 22 = nI p := by rw [wr_o (by omega)]; exact m22
  have e22' : wr (wr (wr κ 0 23 (nI p)) 0 25 0) 0 24 3 0 22 = nI p := by rw [wr_o (by omega), wr_o (by omega)]; exact e22
  have n4 : ¬ nI (c p) = (-4 : Int32) := nI_ne_m4 (by omega)
  rw [fX8_step_L8, m22, m_byY hm hp, bi_e, if_neg (by rw [show (32 : Int32) = nI 32 from rfl, eq_nI (by omega) (by omega)]; exact hne), m22, lb_e, e22, m_byY (tpM_f hm g) hp, bi_e, lb_e, if_neg n4, m_let (by omega), bi_e, m_fig (by omega), bi_e, lb_e, e22', lb_e, nI_s1, show (59 : Int32) = nI 59 from rfl, ite_eqn (by omega) (by omega)]
  unfold fX8_step_J269
  have fe : ∀ o : Option Mem, (bv o fun m6 => some m6) = o := fun o => by cases o <;> rfl
  rw [fe]
  cases isL (c p) with
  | true => rw [if_neg bI_t, if_pos rfl]
  | false =>
    rw [if_pos bI_f, if_neg ff_t]
    cases isD (c p) with
    | true => rw [if_neg bI_t, if_pos rfl]
    | false => rw [if_pos bI_f, if_neg ff_t]
theorem tok_at {μ κ : Mem} {t p fu : Nat} {c : Nat → Nat} (hx : tpX μ t c) (hm : tpM κ t c) (x3 : μ 23 3 = 0) (m20 : κ 0 20 = 0) (x7 : μ 23 7 = nI p) (m22 : κ 0 22 = nI p) (hp : p = t ∨ (p < t ∧ ¬ c p = 32)) : ∃ ν ξ, fX1_readToken_J44 μ = some ν ∧ fX8_step_L8 (fu + 1) κ = some ξ ∧ cF μ ν ∧ rF κ ξ ∧ ((∃ tk nx v, TK ν ξ t tk p nx v) ∨ FLT ν ξ) := by
  have h160 := hx.1
  obtain ⟨fq, hfq⟩ := FU_s 300 (by decide)
  rcases hp with rfl | ⟨hp, hne⟩
  · refine ⟨wr (wr μ 23 6 (nI p)) 23 5 0, wr (wr (wr κ 0 23 (nI p)) 0 25 0) 0 24 0, ?_, ?_, (cF.w μ (by decide) (by decide) _).t (cF.w _ (by decide) (by decide) _), ((rF.w κ (by decide) (by decide) _).t (rF.w _ (by decide) (by decide) _)).t (rF.w _ (by decide) (by decide) _), Or.inl ⟨0, p, 0, ?_⟩⟩
    · have tM := tpX_f hx (cF.w μ (show 3 ≤ 6 by decide) (by decide) (nI p))
      unfold fX1_readToken_J44 fX1_readToken_J311
      rw [x7, lb_e, tM.2.1, wr_o (by omega), x7, if_neg Int32.lt_irrefl, lb_e]
    · have g : rF κ (wr κ 0 23 (nI p)) := rF.w κ (by decide) (by decide) _
      have e22 : wr κ 0 23 (nI p) 0 22 = nI p := by rw [wr_o (by omega)]; exact m22
      rw [fX8_step_L8, m22, m_byN hm (Nat.le_refl _) (by omega), bi_e, if_neg (by decide), m22, lb_e, e22, m_byN (tpM_f hm g) (Nat.le_refl _) (by omega), bi_e, lb_e, if_pos rfl, lb_e]
      rfl
    · refine ⟨?_, ?_, ?_, ?_, ?_, ?_, ?_, ?_, Nat.le_refl _, Nat.le_refl _, by decide, fun _ => rfl, fun h => absurd rfl h, fun h => absurd h (by decide)⟩
      · simp only [wr_i, Nat.reduceEqDiff, false_and, and_false, and_self, and_true, true_and, if_false, if_true, reduceIte, ne_eq, not_true_eq_false, not_false_eq_true]; exact x3
      · simp only [wr_i, Nat.reduceEqDiff, false_and, and_false, and_self, and_true, true_and, if_false, if_true, reduceIte, ne_eq, not_true_eq_false, not_false_eq_true]; exact m20
      · simp only [wr_i, Nat.reduceEqDiff, false_and, and_false, and_self, and_true, true_and, if_false, if_true, reduceIte, ne_eq, not_true_eq_false, not_false_eq_true]; rfl
      · simp only [wr_i, Nat.reduceEqDiff, false_and, and_false, and_self, and_true, true_and, if_false, if_true, reduceIte, ne_eq, not_true_eq_false, not_false_eq_true]; rfl
      · simp only [wr_i, Nat.reduceEqDiff, false_and, and_false, and_self, and_true, true_and, if_false, if_true, reduceIte, ne_eq, not_true_eq_false, not_false_eq_true]
      · simp only [wr_i, Nat.reduceEqDiff, false_and, and_false, and_self, and_true, true_and, if_false, if_true, reduceIte, ne_eq, not_true_eq_false, not_false_eq_true]
      · simp only [wr_i, Nat.reduceEqDiff, false_and, and_false, and_self, and_true, true_and, if_false, if_true, reduceIte, ne_eq, not_true_eq_false, not_false_eq_true]; exact x7
      · simp only [wr_i, Nat.reduceEqDiff, false_and, and_false, and_self, and_true, true_and, if_false, if_true, reduceIte, ne_eq, not_true_eq_false, not_false_eq_true]; exact m22
  · have hc := hx.2.2 p hp
    rw [x_at44 hx x7 hp, m_at8 hm m22 hp hne]
    obtain ⟨M, hM⟩ : ∃ M, M = wr μ 23 6 (nI p) := ⟨_, rfl⟩
    obtain ⟨K, hK⟩ : ∃ K, K = wr (wr κ 0 23 (nI p)) 0 25 0 := ⟨_, rfl⟩
    have gM : cF μ M := by rw [hM]; exact cF.w μ (by decide) (by decide) _
    have gK : rF κ K := by rw [hK]; exact (rF.w κ (by decide) (by decide) _).t (rF.w _ (by decide) (by decide) _)
    have M3 : M 23 3 = 0 := by rw [hM]; simp only [wr_i, Nat.reduceEqDiff, false_and, and_false, and_self, and_true, true_and, if_false, if_true, reduceIte, ne_eq, not_true_eq_false, not_false_eq_true]; exact x3
    have M6 : M 23 6 = nI p := by rw [hM]; simp only [wr_i, Nat.reduceEqDiff, false_and, and_false, and_self, and_true, true_and, if_false, if_true, reduceIte, ne_eq, not_true_eq_false, not_false_eq_true]
    have M7 : M 23 7 = nI p := by rw [hM]; simp only [wr_i, Nat.reduceEqDiff, false_and, and_false, and_self, and_true, true_and, if_false, if_true, reduceIte, ne_eq, not_true_eq_false, not_false_eq_true]; exact x7
    have K20 : K 0 20 = 0 := by rw [hK]; simp only [wr_i, Nat.reduceEqDiff, false_and, and_false, and_self, and_true, true_and, if_false, if_true, reduceIte, ne_eq, not_true_eq_false, not_false_eq_true]; exact m20
    have K23 : K 0 23 = nI p := by rw [hK]; simp only [wr_i, Nat.reduceEqDiff, false_and, and_false, and_self, and_true, true_and, if_false, if_true, reduceIte, ne_eq, not_true_eq_false, not_false_eq_true]
    have K25 : K 0 25 = 0 := by rw [hK]; simp only [wr_i, Nat.reduceEqDiff, false_and, and_false, and_self, and_true, true_and, if_false, if_true, reduceIte, ne_eq, not_true_eq_false, not_false_eq_true]
    have K22 : K 0 22 = nI p := by rw [hK]; simp only [wr_i, Nat.reduceEqDiff, false_and, and_false, and_self, and_true, true_and, if_false, if_true, reduceIte, ne_eq, not_true_eq_false, not_false_eq_true]; exact m22
    rw [← hM, ← hK]
    by_cases h59 : c p = 59
    · rw [if_pos h59, show isL (c p) = false by rw [h59]; decide, if_neg ff_t, show isD (c p) = false by rw [h59]; decide, if_neg ff_t, if_pos h59]
      refine ⟨_, _, rfl, rfl, (gM.t (cF.w _ (by decide) (by decide) _)).t (cF.w _ (by decide) (by decide) _), (gK.t (rF.w _ (by decide) (by decide) _)).t (rF.w _ (by decide) (by decide) _), Or.inl ⟨3, p + 1, 0, ?_, ?_, ?_, ?_, ?_, ?_, ?_, ?_, by omega, by omega, by decide, fun h => absurd h (by decide), fun _ => by omega, fun h => absurd h (by decide)⟩⟩
      · simp only [wr_i, Nat.reduceEqDiff, false_and, and_false, and_self, and_true, true_and, if_false, if_true, reduceIte, ne_eq, not_true_eq_false, not_false_eq_true]; exact M3
      · simp only [wr_i, Nat.reduceEqDiff, false_and, and_false, and_self, and_true, true_and, if_false, if_true, reduceIte, ne_eq, not_true_eq_false, not_false_eq_true]; exact K20
      · simp only [wr_i, Nat.reduceEqDiff, false_and, and_false, and_self, and_true, true_and, if_false, if_true, reduceIte, ne_eq, not_true_eq_false, not_false_eq_true]; rfl
      · simp only [wr_i, Nat.reduceEqDiff, false_and, and_false, and_self, and_true, true_and, if_false, if_true, reduceIte, ne_eq, not_true_eq_false, not_false_eq_true]; rfl
      · simp only [wr_i, Nat.reduceEqDiff, false_and, and_false, and_self, and_true, true_and, if_false, if_true, reduceIte, ne_eq, not_true_eq_false, not_false_eq_true]; exact M6
      · simp only [wr_i, Nat.reduceEqDiff, false_and, and_false, and_self, and_true, true_and, if_false, if_true, reduceIte, ne_eq, not_true_eq_false, not_false_eq_true]; exact K23
      · simp only [wr_i, Nat.reduceEqDiff, false_and, and_false, and_self, and_true, true_and, if_false, if_true, reduceIte, ne_eq, not_true_eq_false, not_false_eq_true]
      · simp only [wr_i, Nat.reduceEqDiff, false_and, and_false, and_self, and_true, true_and, if_false, if_true, reduceIte, ne_eq, not_true_eq_false, not_false_eq_true]
    · rw [if_neg h59]
      cases hL : isL (c p) with
      | true =>
        rw [if_pos rfl, if_pos rfl]
        obtain ⟨e, e1, e2, e3, e4⟩ := run_ex (fun i => isL (c i)) t (t - p) p (by omega)
        have e5 : p < e := by
          rcases e4 with h | ⟨_, h⟩
          · omega
          · by_cases q : e = p
            · rw [q] at h
              exact absurd (hL.symm.trans h) (by decide)
            · omega
        obtain ⟨ν, a1, a2, a3, a4⟩ := x_ltr (t := t) (e := e) (c := c) (e - p) p FU (wr M 23 5 1) (by omega) (by omega) (tpX_f hx (gM.t (cF.w _ (by decide) (by decide) _))) (by simp only [wr_i, Nat.reduceEqDiff, false_and, and_false, and_self, and_true, true_and, if_false, if_true, reduceIte, ne_eq, not_true_eq_false, not_false_eq_true]; exact M7) e2 e3 e4
        obtain ⟨ξ, b1, b2, b3, b4, b5⟩ := m_ltr (t := t) (e := e) (c := c) (e - p) p FU K (by omega) (by omega) (tpM_f hm gK) K22 e2 e3 e4
        refine ⟨ν, ξ, a1, b1, (gM.t (cF.w _ (by decide) (by decide) _)).t a2, gK.t b2, Or.inl ⟨1, e, 0, ?_, ?_, ?_, ?_, ?_, ?_, a3, b3, by omega, by omega, by decide, fun h => absurd h (by decide), fun _ => by omega, fun h => absurd h (by decide)⟩⟩
        · rw [a4 3 (by decide)]; simp only [wr_i, Nat.reduceEqDiff, false_and, and_false, and_self, and_true, true_and, if_false, if_true, reduceIte, ne_eq, not_true_eq_false, not_false_eq_true]; exact M3
        · rw [b5 20 (by decide) (by decide)]; exact K20
        · rw [a4 5 (by decide)]; simp only [wr_i, Nat.reduceEqDiff, false_and, and_false, and_self, and_true, true_and, if_false, if_true, reduceIte, ne_eq, not_true_eq_false, not_false_eq_true]; rfl
        · rw [b4]; rfl
        · rw [a4 6 (by decide)]; simp only [wr_i, Nat.reduceEqDiff, false_and, and_false, and_self, and_true, true_and, if_false, if_true, reduceIte, ne_eq, not_true_eq_false, not_false_eq_true]; exact M6
        · rw [b5 23 (by decide) (by decide)]; exact K23
      | false =>
        rw [if_neg ff_t, if_neg ff_t]
        cases hD : isD (c p) with
        | true =>
          rw [if_pos rfl, if_pos rfl]
          obtain ⟨e, e1, e2, e3, e4⟩ := run_ex (fun i => isD (c i)) t (t - p) p (by omega)
          have e5 : p < e := by
            rcases e4 with h | ⟨_, h⟩
            · omega
            · by_cases q : e = p
              · rw [q] at h
                exact absurd (hD.symm.trans h) (by decide)
              · omega
          have gM' : cF μ (wr (wr M 23 5 2) 23 8 0) := (gM.t (cF.w _ (by decide) (by decide) _)).t (cF.w _ (by decide) (by decide) _)
          obtain ⟨ν, a1, a2, a3, a4, a5⟩ := x_dig (t := t) (e := e) (c := c) (pl := p) (e - p) 0 FU (wr (wr M 23 5 2) 23 8 0) (by omega) (by omega) (tpX_f hx gM') (by simp only [wr_i, Nat.reduceEqDiff, false_and, and_false, and_self, and_true, true_and, if_false, if_true, reduceIte, ne_eq, not_true_eq_false, not_false_eq_true]; exact M7) (by simp only [wr_i, Nat.reduceEqDiff, false_and, and_false, and_self, and_true, true_and, if_false, if_true, reduceIte, ne_eq, not_true_eq_false, not_false_eq_true]; rfl) e2 e3 e4
          obtain ⟨ξ, b1, b2, b3, b4, b5⟩ := m_dig (t := t) (e := e) (c := c) (pl := p) (e - p) 0 FU K (by omega) (by omega) (tpM_f hm gK) K22 K23 K25 e2 e3 e4
          have N3 : ν 23 3 = 0 := by rw [a5 3 (by decide) (by decide)]; simp only [wr_i, Nat.reduceEqDiff, false_and, and_false, and_self, and_true, true_and, if_false, if_true, reduceIte, ne_eq, not_true_eq_false, not_false_eq_true]; exact M3
          have N5 : ν 23 5 = nI 2 := by rw [a5 5 (by decide) (by decide)]; simp only [wr_i, Nat.reduceEqDiff, false_and, and_false, and_self, and_true, true_and, if_false, if_true, reduceIte, ne_eq, not_true_eq_false, not_false_eq_true]; rfl
          have N6 : ν 23 6 = nI p := by rw [a5 6 (by decide) (by decide)]; simp only [wr_i, Nat.reduceEqDiff, false_and, and_false, and_self, and_true, true_and, if_false, if_true, reduceIte, ne_eq, not_true_eq_false, not_false_eq_true]; exact M6
          have X20 : ξ 0 20 = 0 := by rw [b5 20 (by decide) (by decide)]; exact K20
          have X23 : ξ 0 23 = nI p := by rw [b5 23 (by decide) (by decide)]; exact K23
          have W22 : wr ξ 0 24 2 0 22 = nI e := by simp only [wr_i, Nat.reduceEqDiff, false_and, and_false, and_self, and_true, true_and, if_false, if_true, reduceIte, ne_eq, not_true_eq_false, not_false_eq_true]; exact b3
          have W23 : wr ξ 0 24 2 0 23 = nI p := by simp only [wr_i, Nat.reduceEqDiff, false_and, and_false, and_self, and_true, true_and, if_false, if_true, reduceIte, ne_eq, not_true_eq_false, not_false_eq_true]; exact X23
          have W20 : wr ξ 0 24 2 0 20 = 0 := by simp only [wr_i, Nat.reduceEqDiff, false_and, and_false, and_self, and_true, true_and, if_false, if_true, reduceIte, ne_eq, not_true_eq_false, not_false_eq_true]; exact X20
          have gX : rF κ (wr ξ 0 24 2) := (gK.t b2).t (rF.w _ (by decide) (by decide) _)
          have fe : ∀ o : Option Mem, (bv o fun m6 => some m6) = o := fun o => by cases o <;> rfl
          rw [a1, b1, W22, W23, fe]
          unfold fX1_readToken_J277 fX1_readToken_J311
          rw [a3, N6, pk_sub (by omega), fe]
          have hle : (nI (e - p) ≤ (2 : Int32)) ↔ e - p ≤ 2 := by rw [show (2 : Int32) = nI 2 from rfl, le_nI (by omega) (by omega)]
          by_cases h2 : e - p ≤ 2
          · rw [if_pos (hle.2 h2), if_pos (hle.2 h2)]
            obtain ⟨v, v1, v2, v3⟩ := dv_eq (c := c) (pl := p) (k := e - p) h2 (fun i q1 q2 => e3 i q1 (by omega))
            refine ⟨_, _, rfl, rfl, gM'.t a2, gX, Or.inl ⟨2, e, v, N3, W20, N5, ?_, N6, W23, a3, W22, by omega, by omega, by decide, fun h => absurd h (by decide), fun _ => by omega, fun _ => ⟨v1, by rw [a4]; exact v2, ?_⟩⟩⟩
            · simp only [wr_i, Nat.reduceEqDiff, false_and, and_false, and_self, and_true, true_and, if_false, if_true, reduceIte, ne_eq, not_true_eq_false, not_false_eq_true]; rfl
            · simp only [wr_i, Nat.reduceEqDiff, false_and, and_false, and_self, and_true, true_and, if_false, if_true, reduceIte, ne_eq, not_true_eq_false, not_false_eq_true]; rw [b4]; exact v3
          · rw [if_neg (fun q => h2 (hle.1 q)), if_neg (fun q => h2 (hle.1 q)), x_fail N3, m_fail W20]
            exact ⟨_, _, rfl, rfl, (gM'.t a2).t (cF.fl _ _ _), gX.t (rF.fl _ _ _), Or.inr (flt_mk 1 (by decide) (by decide) W23.symm)⟩
        | false =>
          rw [if_neg ff_t, if_neg ff_t, if_neg h59, x_fail M3, m_fail (by simp only [wr_i, Nat.reduceEqDiff, false_and, and_false, and_self, and_true, true_and, if_false, if_true, reduceIte, ne_eq, not_true_eq_false, not_false_eq_true]; exact K20)]
          refine ⟨_, _, rfl, rfl, gM.t (cF.fl _ _ _), ((gK.t (rF.w _ (by decide) (by decide) _)).t (rF.w _ (by decide) (by decide) _)).t (rF.fl _ _ _), Or.inr (flt_mk 1 (by decide) (by decide) ?_)⟩
          simp only [wr_i, Nat.reduceEqDiff, false_and, and_false, and_self, and_true, true_and, if_false, if_true, reduceIte, ne_eq, not_true_eq_false, not_false_eq_true]; exact K23.symm
/-- readToken() and step() -/
theorem tok_step {μ κ : Mem} {t p : Nat} {c : Nat → Nat} (hx : tpX μ t c) (hm : tpM κ t c) (x3 : μ 23 3 = 0) (m20 : κ 0 20 = 0) (x7 : μ 23 7 = nI p) (m22 : κ 0 22 = nI p) (hp : p ≤ t) : ∃ ν ξ, fX1_readToken μ = some ν ∧ fX8_step κ = some ξ ∧ cF μ ν ∧ rF κ ξ ∧ ((∃ tk pl nx v, p ≤ pl ∧ TK ν ξ t tk pl nx v) ∨ FLT ν ξ) := by
  have h160 := hx.1
  obtain ⟨fq, hfq⟩ := FU_s 300 (by decide)
  obtain ⟨e, e1, e2, e3, e4⟩ := run_ex (fun i => decide (c i = 32)) t (t - p) p (by omega)
  have e3' : ∀ i, p ≤ i → i < e → c i = 32 := fun i a b => of_decide_eq_true (e3 i a b)
  have e4' : e = t ∨ (e < t ∧ ¬ c e = 32) := e4.imp id (fun h => ⟨h.1, of_decide_eq_false h.2⟩)
  obtain ⟨m1, a1, a2, a3, a4⟩ := x_bl (t := t) (e := e) (c := c) (e - p) p FU μ (by omega) (by omega) hx x7 e2 e3' e4'
  obtain ⟨k1, fu', b1, b2, b3, b4⟩ := m_bl (t := t) (e := e) (c := c) (e - p) p FU κ (by omega) (by omega) hm m22 e2 e3'
  obtain ⟨ν, ξ, c1, c2, c3, c4, c5⟩ := tok_at (fu := fu') (tpX_f hx a2) (tpM_f hm b2) (by rw [a4 3 (by decide)]; exact x3) (by rw [b4 20 (by decide)]; exact m20) a3 b3 e4'
  refine ⟨ν, ξ, ?_, ?_, a2.t c3, b2.t c4, ?_⟩
  · unfold fX1_readToken
    rw [a1, c1]
  · unfold fX8_step
    rw [m20, if_pos (Int32.le_refl _), b1, c2]
  · rcases c5 with ⟨tk, nx, v, h⟩ | h
    · exact Or.inl ⟨tk, e, nx, v, e1, h⟩
    · exact Or.inr h
theorem tok_next {μ κ : Mem} {t tk pl nx v : Nat} {c : Nat → Nat} (hx : tpX μ t c) (hm : tpM κ t c) (h : TK μ κ t tk pl nx v) : ∃ ν ξ, fX1_readToken μ = some ν ∧ fX8_step κ = some ξ ∧ cF μ ν ∧ rF κ ξ ∧ ((∃ tk pl' nx' v, nx ≤ pl' ∧ TK ν ξ t tk pl' nx' v) ∨ FLT ν ξ) := tok_step hx hm h.x3 h.m20 h.x7 h.m22 h.l2
theorem m_stepF {κ : Mem} {q : Nat} (h1 : 1 ≤ q) (h2 : q ≤ 6) (h : κ 0 20 = nI q) : fX8_step κ = some κ := by
  unfold fX8_step
  rw [h, if_neg (by rw [show (0 : Int32) = nI 0 from rfl, le_nI (by omega) (by omega)]; omega)]
