/-! ===== all arrangements: the reference ===== -/
theorem m_cdL {κ : Mem} {n : Nat} (h : κ 0 5 = nI n) (hn : n ≤ 5) : ∀ (r i fu : Nat), i + r = n → r < fu → fX8_codes_L4 fu (nI (5 ^ i)) (nI i) κ = some (nI (5 ^ n), κ)
  | 0, i, fu + 1, h1, _ => by
    have e : i = n := by omega
    subst e
    rw [fX8_codes_L4, h, if_pos (Int32.le_refl _)]
  | r + 1, i, fu + 1, h1, h2 => by
    have q := m_cdL h hn r (i + 1) fu (by omega) (by omega)
    rw [fX8_codes_L4, h, if_neg (by rw [le_nI (by omega) (by omega)]; omega), lb_e, lb_e, show (5 : Int32) = nI 5 from rfl, pk_mul, nI_s1, ← Nat.pow_succ]
    exact q
theorem m_codes {κ : Mem} {n : Nat} (h : κ 0 5 = nI n) (hn : n ≤ 5) : fX8_codes κ = some (nI (5 ^ n), κ) := by
  obtain ⟨f, hf⟩ := FU_s 100 (by decide)
  unfold fX8_codes
  rw [lb_e, lb_e]
  exact m_cdL h hn n 0 FU (by omega) (by omega)
/-- whether the code is one of an arrangement, digit by digit -/
def lcK (n : Nat) : Nat → Nat → Nat → Bool → Bool
  | 0, _, _, ok => ok
  | i + 1, c, b, ok => lcK n i (c / 5) (b ||| 2 ^ (c % 5)) (ok && decide (c % 5 < n) && !(b.testBit (c % 5)))
theorem lcK_q : ∀ n, n < 6 → ∀ a, a < 25 → ∀ b, b < 125 → 125 * a + b < 5 ^ n → (lcK n n (125 * a + b) 0 true = okP n (dg n (125 * a + b)) ∧ num n (dg n (125 * a + b)) = 125 * a + b) := by decide +kernel
theorem pw5b : ∀ n, n < 6 → 5 ^ n ≤ 3125 := by decide
theorem lcK_r (n : Nat) (hn : n < 6) (c : Nat) (hc : c < 5 ^ n) : lcK n n c 0 true = okP n (dg n c) ∧ num n (dg n c) = c := by
  have h := pw5b n hn
  have e : 125 * (c / 125) + c % 125 = c := Nat.div_add_mod c 125
  have q := lcK_q n hn (c / 125) (by omega) (c % 125) (Nat.mod_lt _ (by decide)) (by omega)
  rw [e] at q
  exact q
theorem lcK_ok (n : Nat) (hn : n < 6) (c : Nat) (hc : c < 5 ^ n) : lcK n n c 0 true = okP n (dg n c) := (lcK_r n hn c hc).1
theorem irm5 {c : Nat} (hc : c < 10000) : irm (nI c) (5 : Int32) = nI (c % 5) := by
  unfold irm; rw [show (5 : Int32) = nI 5 from rfl, pk_rem (by omega) (by omega) (by omega)]
theorem div5 {c : Nat} (hc : c < 10000) : nI c / (5 : Int32) = nI (c / 5) := by
  rw [show (5 : Int32) = nI 5 from rfl, pk_div (by omega) (by omega) (by omega)]
theorem bI_n (b : Bool) : (bI b = (0 : Int32)) = (b = false) := by cases b <;> decide
theorem m_lcL {κ : Mem} {n : Nat} (h : κ 0 5 = nI n) (hn : n ≤ 5) (x1 x2 : Int32) : ∀ (i fu c b : Nat) (ok : Bool), i ≤ n → i < fu → c < 10000 → b < 32 → fX8_laysCode_L16 fu x1 x2 (nI c) (nI b) (bI ok) (pI i) κ = fX8_laysCode_L86 FU x1 x2 (bI (lcK n i c b ok)) (nI n - 1) κ
  | 0, fu + 1, c, b, ok, _, _, _, _ => by rw [fX8_laysCode_L16, if_pos (by decide), lb_e, h, lcK]
  | i + 1, fu + 1, c, b, ok, h1, h2, hc, hb => by
    have hm := Nat.mod_lt c (show 5 > 0 by decide)
    have hor := bt_or b hb (c % 5) hm
    have q := fun ok' => m_lcL h hn x1 x2 i fu (c / 5) (b ||| 2 ^ (c % 5)) ok' (by omega) (by omega) (by omega) hor.2
    rw [pI, fX8_laysCode_L16, if_neg (nI_pos (by omega)), gd_t (by decide), lb_e, gd_t (by decide), lb_e, irm5 hc, div5 hc]
    unfold fX8_laysCode_J58 fX8_laysCode_J59
    simp only [lb_e, hor.1, pI_s]
    rw [lcK]
    cases ok with
    | false =>
      rw [if_pos (show bI false = (0 : Int32) from rfl)]
      exact q false
    | true =>
      rw [if_neg (show ¬ bI true = (0 : Int32) by decide), h]
      by_cases e1 : n ≤ c % 5
      · rw [if_pos (by rw [le_nI (by omega) (by omega)]; exact e1), decide_eq_false (show ¬ c % 5 < n by omega)]
        exact q false
      · rw [if_neg (by rw [le_nI (by omega) (by omega)]; exact e1), decide_eq_true (show c % 5 < n by omega)]
        cases e2 : b.testBit (c % 5) with
        | false => rw [if_pos ((bt_f b hb _ hm).2 e2)]; exact q true
        | true => rw [if_neg (fun c' => by have := (bt_f b hb _ hm).1 c'; rw [e2] at this; exact absurd this (by decide))]; exact q false
theorem dg_len : ∀ n c, (dg n c).length = n
  | 0, _ => rfl
  | n + 1, c => by rw [dg, List.length_append, dg_len n]; rfl
theorem dg_lo {n c i : Nat} (hi : i < n) : rw_ (dg (n + 1) c) i = rw_ (dg n (c / 5)) i := by
  unfold rw_
  rw [dg, List.getD_eq_getElem?_getD, List.getD_eq_getElem?_getD, List.getElem?_append_left (by rw [dg_len]; exact hi)]
theorem dg_hi (n c : Nat) : rw_ (dg (n + 1) c) n = c % 5 := by
  unfold rw_
  rw [dg, List.getD_eq_getElem?_getD, List.getElem?_append_right (by rw [dg_len]; exact Nat.le_refl n), dg_len, Nat.sub_self]
  rfl
theorem m_lwL {r n : Nat} (hr : r + 5 ≤ 160) (hn : n ≤ 5) : ∀ (i fu c : Nat) (κ : Mem), i ≤ n → i < fu → c < 10000 → ∃ ξ, fX8_laysCode_L86 fu (nI r) (nI c) 1 (pI i) κ = some (1, ξ) ∧ (∀ b, b ≠ 1 → ξ b = κ b) ∧ (∀ j, (j < r ∨ r + i ≤ j) → ξ 1 j = κ 1 j) ∧ rowM ξ r i (dg i c)
  | 0, fu + 1, c, κ, _, _, _ => by
    refine ⟨κ, ?_, fun b _ => rfl, fun j _ => rfl, fun i hi => absurd hi (by omega)⟩
    rw [fX8_laysCode_L86, if_pos (by decide)]
    exact gd_t (Or.inr rfl)
  | i + 1, fu + 1, c, κ, h1, h2, hc => by
    obtain ⟨ξ, a1, a2, a3, a4⟩ := m_lwL hr hn i fu (c / 5) (wr κ 1 (r + i) (nI (c % 5) - nI i)) (by omega) (by omega) (by omega)
    refine ⟨ξ, ?_, fun b hb => by rw [a2 b hb, wr_f _ _ _ _ hb], fun j hj => by rw [a3 j (by omega), wr_o (by omega)], fun j hj => ?_⟩
    · rw [pI, fX8_laysCode_L86, if_neg (nI_pos (by omega)), if_neg one_ne, gd_t (by decide), nI_add, gr_n (by omega) (by omega), lb_e, gd_t (by decide), lb_e, lb_e, cl_n (by omega), irm5 hc, div5 hc, pI_s]
      exact a1
    · by_cases e : j = i
      · subst e; rw [a3 _ (by omega), wr_s, dg_hi]
      · rw [a4 j (by omega), dg_lo (by omega)]
theorem pw5 : ∀ n, n < 6 → 5 ^ n < 10000 := by decide
theorem m_lays {κ : Mem} {n r c : Nat} (h : κ 0 5 = nI n) (hn : n ≤ 5) (hr : r + 5 ≤ 160) (hc : c < 5 ^ n) : (okP n (dg n c) = true → ∃ ξ, fX8_laysCode (nI r) (nI c) κ = some (1, ξ) ∧ (∀ b, b ≠ 1 → ξ b = κ b) ∧ (∀ j, (j < r ∨ r + n ≤ j) → ξ 1 j = κ 1 j) ∧ rowM ξ r n (dg n c)) ∧ (okP n (dg n c) = false → fX8_laysCode (nI r) (nI c) κ = some (0, κ)) := by
  obtain ⟨f, hf⟩ := FU_s 100 (by decide)
  have h5 := pw5 n (by omega)
  have e1 : nI n - 1 = pI n := by
    rcases (show n = 0 ∨ n = 1 ∨ n = 2 ∨ n = 3 ∨ n = 4 ∨ n = 5 by omega) with rfl | rfl | rfl | rfl | rfl | rfl <;> decide
  have e2 : fX8_laysCode (nI r) (nI c) κ = fX8_laysCode_L86 FU (nI r) (nI c) (bI (okP n (dg n c))) (pI n) κ := by
    unfold fX8_laysCode
    rw [lb_e, lb_e, lb_e, h, e1]
    have q := m_lcL h hn (nI r) (nI c) n FU c 0 true (Nat.le_refl n) (by omega) (by omega) (by decide)
    rw [lcK_ok n (by omega) c hc, e1] at q
    exact q
  constructor
  · intro ho
    rw [e2, ho]
    exact m_lwL hr hn n FU c κ (Nat.le_refl n) (by omega) (by omega)
  · intro ho
    rw [e2, ho, hf, fX8_laysCode_L86]
    unfold fX8_laysCode_J121
    rw [if_pos (show bI false = (0 : Int32) from rfl), gd_t (show bI false = (0 : Int32) ∨ bI false = (1 : Int32) from Or.inl rfl), ite_self]
    rfl
/-- how many codes below c are of arrangements -/
def pcnt (n : Nat) : Nat → Nat
  | 0 => 0
  | c + 1 => pcnt n c + (if okP n (dg n c) then 1 else 0)
def pmL (n m : Nat) : List (List Nat) := ((List.range m).map (dg n)).filter (okP n)
theorem pmL_s (n m : Nat) : pmL n (m + 1) = pmL n m ++ (if okP n (dg n m) then [dg n m] else []) := by
  unfold pmL
  rw [List.range_succ, List.map_append, List.filter_append]
  congr 1
  cases h : okP n (dg n m) <;> simp [h]
theorem pmL_len (n : Nat) : ∀ m, (pmL n m).length = pcnt n m
  | 0 => rfl
  | m + 1 => by
    rw [pmL_s, List.length_append, pmL_len n m, pcnt]
    congr 1
    split <;> rfl
theorem pmL_get (n c : Nat) (ho : okP n (dg n c) = true) : ∀ d, (pmL n (c + 1 + d)).getD (pcnt n c) [] = dg n c
  | 0 => by
    rw [Nat.add_zero, pmL_s, ho, List.getD_eq_getElem?_getD, List.getElem?_append_right (by rw [pmL_len]; exact Nat.le_refl _), pmL_len, Nat.sub_self]
    rfl
  | d + 1 => by
    have q := pmL_get n c ho d
    have hl : pcnt n c < (pmL n (c + 1 + d)).length := by
      rw [pmL_len]
      have mono : ∀ d, pcnt n (c + 1) ≤ pcnt n (c + 1 + d) := by
        intro d
        induction d with
        | zero => exact Nat.le_refl _
        | succ d ih => exact Nat.le_trans ih (Nat.le_add_right _ _)
      have h2 := mono d
      rw [pcnt, ho, if_pos rfl] at h2
      omega
    rw [show c + 1 + (d + 1) = (c + 1 + d) + 1 by omega, pmL_s, List.getD_eq_getElem?_getD, List.getElem?_append_left hl, ← List.getD_eq_getElem?_getD]
    exact q
theorem num_dg (n : Nat) (hn : n < 6) (c : Nat) (hc : c < 5 ^ n) : num n (dg n c) = c := (lcK_r n hn c hc).2
theorem pcnt_all {n : Nat} (hn : n ≤ 5) : pcnt n (5 ^ n) = fct n := by
  rw [← pmL_len]
  exact (prm_len n (by omega)).1
theorem pcnt_mono (n a : Nat) : ∀ d, pcnt n a ≤ pcnt n (a + d)
  | 0 => Nat.le_refl _
  | d + 1 => Nat.le_trans (pcnt_mono n a d) (Nat.le_add_right _ _)
theorem pc_ok {n c : Nat} (hn : n ≤ 5) (hc : c < 5 ^ n) (ho : okP n (dg n c) = true) : prm n (pcnt n c) = dg n c ∧ pcnt n c < fct n ∧ pcnt n (c + 1) = pcnt n c + 1 := by
  have e : pcnt n (c + 1) = pcnt n c + 1 := by rw [pcnt, ho, if_pos rfl]
  refine ⟨?_, ?_, e⟩
  · have := pmL_get n c ho (5 ^ n - (c + 1))
    rw [show c + 1 + (5 ^ n - (c + 1)) = 5 ^ n by omega] at this
    exact this
  · have := pcnt_mono n (c + 1) (5 ^ n - (c + 1))
    rw [show c + 1 + (5 ^ n - (c + 1)) = 5 ^ n by omega, pcnt_all hn, e] at this
    omega
theorem pc_no {n c : Nat} (ho : okP n (dg n c) = false) : pcnt n (c + 1) = pcnt n c := by
  rw [pcnt, ho]; rfl
theorem pm_cod : ∀ n, n < 6 → ∀ P ∈ perms n, num n P < 5 ^ n ∧ dg n (num n P) = P ∧ okP n P = true := by decide +kernel
/-- the row is laid again -/
theorem m_relay {κ : Mem} {n r : Nat} {P : List Nat} (h : κ 0 5 = nI n) (hn : n ≤ 5) (hr : r + 5 ≤ 160) (hP : P ∈ perms n) : ∃ ξ, fX8_laysCode (nI r) (nI (num n P)) κ = some (1, ξ) ∧ (∀ b, b ≠ 1 → ξ b = κ b) ∧ (∀ j, (j < r ∨ r + n ≤ j) → ξ 1 j = κ 1 j) ∧ rowM ξ r n P := by
  obtain ⟨h1, h2, h3⟩ := pm_cod n (by omega) P hP
  have := (m_lays (κ := κ) (c := num n P) h hn hr h1).1 (by rw [h2]; exact h3)
  rw [h2] at this
  exact this
