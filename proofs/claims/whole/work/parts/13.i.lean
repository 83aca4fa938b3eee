/-! fractions in lowest terms -/
theorem cmp_eq (a b : Int64) : (lg_cmp a b = 0) = (a = b) := by
  unfold lg_cmp
  apply propext
  by_cases h1 : b < a
  · rw [if_pos h1]
    exact ⟨fun h => absurd h (by decide), fun h => absurd h1 (by rw [h]; exact fun c => Int64.lt_irrefl c)⟩
  · rw [if_neg h1]
    by_cases h2 : a = b
    · rw [if_pos h2]; exact ⟨fun _ => h2, fun _ => rfl⟩
    · rw [if_neg h2]; exact ⟨fun h => absurd h (by decide), fun h => absurd h h2⟩
theorem half {a b : Nat} (hb : 0 < b) : b % (a % b) ≤ (b - 1) / 2 ∨ a % b = 0 := by
  have h1 := Nat.mod_lt a hb
  by_cases h0 : a % b = 0
  · exact Or.inr h0
  · left
    by_cases h2 : 2 * (a % b) ≤ b
    · have := Nat.mod_lt b (show a % b > 0 by omega)
      omega
    · rw [Nat.mod_eq_sub_mod (by omega), Nat.mod_eq_of_lt (by omega)]
      omega
theorem gcd_st (a b : Nat) : Nat.gcd a b = Nat.gcd b (a % b) := by rw [Nat.gcd_comm a b, Nat.gcd_rec b a, Nat.gcd_comm]
theorem lN_z {b : Nat} (hb : b < 2 ^ 63) : (lN b = 0) = (b = 0) := propext (pk_lEQ (b := 0) hb (by decide))
theorem cz {b : Nat} (hb : b < 2 ^ 63) : lg_cmp (lN b) 0 = 0 ↔ b = 0 := by rw [cmp_eq, lN_z hb]
theorem x_gcdL (x0 x2 : Int64) (x4 : Int32) (μ : Mem) : ∀ (k a b i fu : Nat), a < 2 ^ 63 → b < 2 ^ 63 → b < 2 ^ k → i + 2 * k + 1 ≤ 100 → 2 * k + 1 < fu → fX7_partOfFraction_L9 fu x0 x2 x4 (lN a) (lN b) (nI i) μ = fX7_partOfFraction_J44 x0 x2 x4 (lN (Nat.gcd a b)) μ
  | 0, a, b, i, fu + 1, ha, hb, hk, h1, h2 => by
    have e : b = 0 := by omega
    subst e
    rw [fX7_partOfFraction_L9, if_neg (by rw [show (100 : Int32) = nI 100 from rfl, le_nI (by omega) (by omega)]; omega), if_pos (by rw [cmp_eq]; rfl), Nat.gcd_zero_right]
  | k + 1, a, b, i, fu + 2, ha, hb, hk, h1, h2 => by
    rw [fX7_partOfFraction_L9, if_neg (by rw [show (100 : Int32) = nI 100 from rfl, le_nI (by omega) (by omega)]; omega)]
    by_cases e : b = 0
    · rw [if_pos ((cz hb).2 e), e, Nat.gcd_zero_right]
    · have h3 := Nat.mod_lt a (show b > 0 by omega)
      rw [if_neg (fun c => e ((cz hb).1 c)), gd_t (by rw [lN_z hb]; exact e), lb_e, lb_e, lrm, pk_lRem ha (by omega) hb, nI_s1, fX7_partOfFraction_L9, if_neg (by rw [show (100 : Int32) = nI 100 from rfl, le_nI (by omega) (by omega)]; omega)]
      by_cases e2 : a % b = 0
      · rw [if_pos ((cz (by omega)).2 e2), gcd_st, e2, Nat.gcd_zero_right]
      · have h4 := Nat.mod_lt b (show a % b > 0 by omega)
        have h5 : b % (a % b) < 2 ^ k := by
          rcases half (a := a) (show 0 < b by omega) with h | h
          · have : 2 ^ (k + 1) = 2 * 2 ^ k := by rw [Nat.pow_succ]; omega
            omega
          · exact absurd h e2
        rw [if_neg (fun c => e2 ((cz (by omega)).1 c)), gd_t (by rw [lN_z (by omega)]; exact e2), lb_e, lb_e, lrm, pk_lRem hb (by omega) (by omega), nI_s1, x_gcdL x0 x2 x4 μ k (a % b) (b % (a % b)) (i + 1 + 1) fu (by omega) (by omega) h5 (by omega) (by omega), gcd_st a b, gcd_st b (a % b)]
theorem m_gcdL (x0 x2 : Int64) (x4 : Int32) (κ : Mem) : ∀ (k a b fu : Nat), a < 2 ^ 63 → b < 2 ^ 63 → b < 2 ^ k → 2 * k + 1 < fu → fX8_lowest_L6 fu x0 x2 x4 (lN a) (lN b) κ = if x4 = (0 : Int32) then (fX8_lowest_J41 (lN (Nat.gcd a b)) x0 κ) else (fX8_lowest_J41 (lN (Nat.gcd a b)) x2 κ)
  | 0, a, b, fu + 1, ha, hb, hk, h2 => by
    have e : b = 0 := by omega
    subst e
    rw [fX8_lowest_L6, if_pos (by rw [cmp_eq]; rfl), Nat.gcd_zero_right]
  | k + 1, a, b, fu + 2, ha, hb, hk, h2 => by
    rw [fX8_lowest_L6]
    by_cases e : b = 0
    · rw [if_pos ((cz hb).2 e), e, Nat.gcd_zero_right]
    · have h3 := Nat.mod_lt a (show b > 0 by omega)
      rw [if_neg (fun c => e ((cz hb).1 c)), gd_t (by rw [lN_z hb]; exact e), lb_e, lrm, pk_lRem ha (by omega) hb, fX8_lowest_L6]
      by_cases e2 : a % b = 0
      · rw [if_pos ((cz (by omega)).2 e2), gcd_st, e2, Nat.gcd_zero_right]
      · have h4 := Nat.mod_lt b (show a % b > 0 by omega)
        have h5 : b % (a % b) < 2 ^ k := by
          rcases half (a := a) (show 0 < b by omega) with h | h
          · have : 2 ^ (k + 1) = 2 * 2 ^ k := by rw [Nat.pow_succ]; omega
            omega
          · exact absurd h e2
        rw [if_neg (fun c => e2 ((cz (by omega)).1 c)), gd_t (by rw [lN_z (by omega)]; exact e2), lb_e, lrm, pk_lRem hb (by omega) (by omega), m_gcdL x0 x2 x4 κ k (a % b) (b % (a % b)) fu (by omega) (by omega) h5 (by omega), gcd_st a b, gcd_st b (a % b)]
theorem lowest_eq {t d : Nat} (ht : t < 2 ^ 24) (hd : d < 2 ^ 24) (h0 : 0 < d) (w : Int32) (μ κ : Mem) : ∃ r, fX7_partOfFraction (lN t) (lN d) w μ = some (r, μ) ∧ fX8_lowest (lN t) (lN d) w κ = some (r, κ) := by
  obtain ⟨q, hq⟩ := FU_s 100 (by decide)
  have hg : 0 < Nat.gcd d t := Nat.gcd_pos_of_pos_left _ h0
  have hg2 : Nat.gcd d t ≤ d := Nat.gcd_le_left _ h0
  have hz : ¬ lN (Nat.gcd d t) = 0 := by rw [lN_z (by omega)]; omega
  have hz2 : ¬ lN (Nat.gcd t d) = 0 := by rw [Nat.gcd_comm]; exact hz
  unfold fX7_partOfFraction fX8_lowest
  rw [lb_e, show (0 : Int32) = nI 0 from rfl, x_gcdL _ _ _ _ 24 d t 0 FU (by omega) (by omega) ht (by decide) (by omega), m_gcdL _ _ _ _ 24 t d FU (by omega) (by omega) hd (by omega)]
  unfold fX7_partOfFraction_J44 fX8_lowest_J41 fX7_partOfFraction_J69
  rw [if_neg (by rw [cmp_eq]; exact hz), gd_t hz, gd_t hz, gd_t hz2, gd_t hz2, Nat.gcd_comm t d]
  by_cases e : w = 0
  · rw [if_pos e, if_pos e]; exact ⟨_, rfl, rfl⟩
  · rw [if_neg e, if_neg e]; exact ⟨_, rfl, rfl⟩
theorem ten_sub {v : Nat} (hv : v < 11) : ((10 : Int32) - nI v).toInt64 = lN (10 - v) := by
  rw [show (10 : Int32) = nI 10 from rfl, pk_sub (by omega), nI_l (by omega)]
theorem st_mean : ST_mean Inv := by
  intro μ κ h x y
  obtain ⟨n, H, D, hs, P, R, ps, st, g⟩ := h.main
  have hn := g.ok.n5
  unfold fX7_mean fX8_mean fX7_mean_J19 fX8_mean_J22
  rw [x_within, bi_e, if_10, m_i10, bi_e, if_10, x_within, bi_e, if_10, m_i1, bi_e, if_10]
  by_cases hc : (0 : Int32) ≤ x ∧ x ≤ 10
  · rw [if_pos hc, if_pos hc]
    obtain ⟨v, hv, rfl⟩ := (wn (n := 10) (by decide)).1 hc
    by_cases hd : (0 : Int32) ≤ y ∧ y ≤ 1
    · rw [if_pos hd, if_pos hd]
      obtain ⟨ν, a1, a2, a3, a4⟩ := x_round g.fix g.shp
      obtain ⟨ξ, b1, b4⟩ := m_whole (κ := κ) g.fix g.wlk g.sm
      have q := m_penN g.fix g.wlk (all_lt n) b4 _ (pow5 n (by omega)).1
      obtain ⟨b2, b3, b4⟩ := b4
      have key := h.tr (fun b hb => a2 b (by omega)) b2 b3
      obtain ⟨p, hp1, hp2⟩ := tP_nb (s := 2 ^ n - 1) g.ok ps st P R
      have q : fX8_penniesOf (nI (2 ^ n - 1)) ξ = some (tP D hs n ps st P R (2 ^ n - 1), ξ) := q
      obtain ⟨r, r1, r2⟩ := lowest_eq (t := p * (10 - v)) (d := 10) (Nat.lt_of_le_of_lt (Nat.mul_le_mul hp1 (Nat.sub_le 10 v)) (by decide)) (by decide) (by decide) y ν ξ
      have r1 : fX7_partOfFraction (lN (p * (10 - v))) (10 : Int64) y ν = _ := r1
      have r2 : fX8_lowest (lN (p * (10 - v))) (10 : Int64) y ξ = _ := r2
      rw [a1, bv_e, b1, bi_e, m_every (by rw [b3 5 (by decide) (by decide) (by decide) (by decide) (by decide)]; exact g.nm) hn, bi_e, q, bi_e, a3.2.2.2.2.2.2.1, hp2, nI_l (by omega), ten_sub hv, lN_mul, r1, r2, bl_e, bl_e]
      exact ⟨_, _, _, rfl, rfl, key⟩
    · rw [if_neg hd, if_neg hd]; exact ⟨_, _, _, rfl, rfl, h⟩
  · rw [if_neg hc, if_neg hc]; exact ⟨_, _, _, rfl, rfl, h⟩
/-! luck -/
theorem x_powL (b t : Nat) (ht : t < 100) (μ : Mem) : ∀ (r i fu : Nat), i + r = t → r < fu → fX7_power_L5 fu (lN b) (nI t) (lN (b ^ i)) (nI i) μ = some (lN (b ^ t), μ)
  | 0, i, fu + 1, h1, _ => by
    have e : i = t := by omega
    subst e
    rw [fX7_power_L5, if_pos (by rw [le_nI (by omega) (by omega)]; omega)]
  | r + 1, i, fu + 1, h1, h2 => by
    rw [fX7_power_L5, if_neg (by rw [le_nI (by omega) (by omega)]; omega), lb_e, lb_e, nI_s1, lN_mul, ← Nat.pow_succ]
    exact x_powL b t ht μ r (i + 1) fu (by omega) (by omega)
theorem x_pow (b t : Nat) (ht : t < 100) (μ : Mem) : fX7_power (lN b) (nI t) μ = some (lN (b ^ t), μ) := by
  obtain ⟨q, hq⟩ := FU_s 100 (by decide)
  unfold fX7_power
  rw [lb_e, lb_e]
  exact x_powL b t ht μ t 0 FU (by omega) (by omega)
/-- the weight of one way in which n doors open -/
def lkW (v m : Nat) : Nat → Nat
  | 0 => 1
  | i + 1 => lkW v m i * (if m.testBit i then 10 - v else v)
def ppc (m : Nat) : Nat → Nat
  | 0 => 0
  | i + 1 => ppc m i + (if m.testBit i then 1 else 0)
theorem ppc_le (m : Nat) : ∀ i, ppc m i ≤ i
  | 0 => Nat.le_refl 0
  | i + 1 => by have := ppc_le m i; rw [ppc]; split <;> omega
theorem ppc_n : ∀ n, n < 6 → ∀ m, m < 2 ^ n → ppc m n = popc m := by decide +kernel
theorem lkW_p (v m : Nat) : ∀ i, lkW v m i = (10 - v) ^ ppc m i * v ^ (i - ppc m i)
  | 0 => rfl
  | i + 1 => by
    have h := ppc_le m i
    rw [lkW, lkW_p v m i, ppc]
    split
    · rw [Nat.pow_succ, show i + 1 - (ppc m i + 1) = i - ppc m i by omega]; ac_rfl
    · rw [Nat.add_zero, show i + 1 - ppc m i = (i - ppc m i) + 1 by omega, Nat.pow_succ]; ac_rfl
theorem lkW_le {v : Nat} (hv : v < 11) (m : Nat) : ∀ i, lkW v m i ≤ 10 ^ i
  | 0 => Nat.le_refl 1
  | i + 1 => by
    rw [lkW, Nat.pow_succ]
    exact Nat.mul_le_mul (lkW_le hv m i) (by split <;> omega)
/-- the ways out of the first m -/
def lkT (f : Nat → Bool) (v n : Nat) : Nat → Nat
  | 0 => 0
  | m + 1 => lkT f v n m + (if f m then lkW v m n else 0)
theorem lkT_le {v : Nat} (hv : v < 11) (f : Nat → Bool) (n : Nat) : ∀ m, lkT f v n m ≤ m * 10 ^ n
  | 0 => Nat.zero_le _
  | m + 1 => by
    have h1 := lkT_le hv f n m
    have h2 := lkW_le hv m n
    rw [lkT, Nat.add_mul, Nat.one_mul]
    exact Nat.add_le_add h1 (by split <;> omega)
