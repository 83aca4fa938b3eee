/-! ===== the pure side: words ===== -/
theorem lb_e {α β : Type} (x : α) (f : α → β) : lb x f = f x := rfl
theorem bi_e {ρ : Type} (v : Int32) (μ : Mem) (f : Int32 → Mem → Option ρ) : bi (some (v, μ)) f = f v μ := rfl
theorem bl_e {ρ : Type} (v : Int64) (μ : Mem) (f : Int64 → Mem → Option ρ) : bl (some (v, μ)) f = f v μ := rfl
theorem bv_e {ρ : Type} (μ : Mem) (f : Mem → Option ρ) : bv (some μ) f = f μ := rfl
theorem gd_t {ρ : Type} {c : Prop} [Decidable c] {x : Option ρ} (h : c) : gd c x = x := if_pos h
theorem gr_n {ρ : Type} {k n : Nat} {x : Option ρ} (h : k < n) (hn : n < 2 ^ 31) : gr (nI k) n x = x := if_neg (nI_in h hn)
theorem cl_n {k : Nat} (h : k < 2 ^ 31) : (nI k).toNatClampNeg = k := nI_clamp h
theorem lit (n : Nat) : (OfNat.ofNat n : Int32) = nI n := rfl
theorem wr_s (μ : Mem) (k j : Nat) (v : Int32) : wr μ k j v k j = v := by simp [wr]
theorem wr_o {μ : Mem} {k j a b : Nat} {v : Int32} (h : ¬ (a = k ∧ b = j)) : wr μ k j v a b = μ a b := by
  unfold wr
  by_cases h1 : a = k
  · rw [if_pos h1, if_neg (fun h2 => h ⟨h1, h2⟩)]
  · rw [if_neg h1]
theorem wr_f (μ : Mem) (k j : Nat) (v : Int32) {a : Nat} (h : a ≠ k) : wr μ k j v a = μ a := by
  funext b; exact wr_ne h
theorem wrA_f (μ : Mem) (k : Nat) (f : Nat → Int32) {a : Nat} (h : a ≠ k) : wrA μ k f a = μ a := by
  funext b; exact wrA_ne h
theorem FU_s (k : Nat) (h : k < 3900) : ∃ q, FU = q + k + 1 := ⟨3999 - k, by show 4000 = _; omega⟩
theorem le_nI {a b : Nat} (ha : a < 2 ^ 31) (hb : b < 2 ^ 31) : (nI a ≤ nI b) = (a ≤ b) := propext (nI_leI ha hb)
theorem lt_nI {a b : Nat} (ha : a < 2 ^ 31) (hb : b < 2 ^ 31) : (nI a < nI b) = (a < b) := propext (nI_ltI ha hb)
theorem eq_nI {a b : Nat} (ha : a < 2 ^ 31) (hb : b < 2 ^ 31) : (nI a = nI b) = (a = b) := propext (nI_eq ha hb)
theorem i_lt (a b : Int32) : a < b ↔ a.toInt < b.toInt := Int32.lt_iff_toInt_lt
theorem i_le (a b : Int32) : a ≤ b ↔ a.toInt ≤ b.toInt := Int32.le_iff_toInt_le
theorem i_eq (a b : Int32) : a = b ↔ a.toInt = b.toInt := Int32.toInt_inj.symm
/-- a number is one of the first n, or lies outside -/
theorem cases_n (x : Int32) {n : Nat} (hn : n < 2 ^ 31) : (∃ o, o < n ∧ x = nI o) ∨ (x < 0 ∨ nI n ≤ x) := by
  rcases pk_ix x hn with h | h | h
  · exact Or.inr (Or.inl h)
  · exact Or.inr (Or.inr h)
  · exact Or.inl h
/-! in and within -/
theorem x_within (x a b : Int32) (μ : Mem) : fX7_within x a b μ = some (if a ≤ x ∧ x ≤ b then 1 else 0, μ) := by
  unfold fX7_within fX7_within_J14 fX7_within_J15
  by_cases h1 : x < a
  · rw [if_pos h1, gd_t (Or.inl rfl), if_neg (fun h => absurd h.1 (Int32.not_le.mpr h1))]
  · rw [if_neg h1]
    by_cases h2 : b < x
    · rw [if_pos h2, gd_t (Or.inl rfl), if_neg (fun h => absurd h.2 (Int32.not_le.mpr h2))]
    · rw [if_neg h2, gd_t (Or.inr rfl), if_pos ⟨Int32.not_lt.mp h1, Int32.not_lt.mp h2⟩]
theorem cmp_lt (a b : Int64) : (lg_cmp a b < 0) = (a < b) := by
  unfold lg_cmp
  apply propext
  by_cases h1 : b < a
  · rw [if_pos h1]
    exact ⟨fun h => absurd h (by decide), fun h => absurd h (by rw [Int64.not_lt]; exact Int64.le_of_lt h1)⟩
  · rw [if_neg h1]
    by_cases h2 : a = b
    · rw [if_pos h2]
      subst h2
      exact ⟨fun h => absurd h (by decide), fun h => absurd h h1⟩
    · rw [if_neg h2]
      exact ⟨fun _ => Int64.lt_of_le_of_ne (Int64.not_lt.mp h1) h2, fun _ => by decide⟩
theorem cmp_gt (a b : Int64) : (0 < lg_cmp a b) = (b < a) := by
  unfold lg_cmp
  apply propext
  by_cases h1 : b < a
  · rw [if_pos h1]
    exact ⟨fun _ => h1, fun _ => by decide⟩
  · rw [if_neg h1]
    by_cases h2 : a = b
    · rw [if_pos h2]
      exact ⟨fun h => absurd h (by decide), fun h => absurd h h1⟩
    · rw [if_neg h2]
      exact ⟨fun h => absurd h (by decide), fun h => absurd h h1⟩
theorem m_in (x a b : Int64) (μ : Mem) : fX8_in x a b μ = some (if a ≤ x ∧ x ≤ b then 1 else 0, μ) := by
  unfold fX8_in fX8_in_J17 fX8_in_J18
  by_cases h1 : x < a
  · rw [if_pos (by rw [cmp_lt]; exact h1), gd_t (Or.inl rfl), if_neg (fun h => absurd h.1 (Int64.not_le.mpr h1))]
  · rw [if_neg (by rw [cmp_lt]; exact h1)]
    by_cases h2 : b < x
    · rw [if_pos (by rw [cmp_gt]; exact h2), gd_t (Or.inl rfl), if_neg (fun h => absurd h.2 (Int64.not_le.mpr h2))]
    · rw [if_neg (by rw [cmp_gt]; exact h2), gd_t (Or.inr rfl), if_pos ⟨Int64.not_lt.mp h1, Int64.not_lt.mp h2⟩]
theorem w_le (a b : Int32) : (a.toInt64 ≤ b.toInt64) = (a ≤ b) := by
  apply propext
  rw [Int64.le_iff_toInt_le, Int32.le_iff_toInt_le, Int32.toInt_toInt64, Int32.toInt_toInt64]
theorem m_inw (x a b : Int32) (μ : Mem) : fX8_in x.toInt64 a.toInt64 b.toInt64 μ = some (if a ≤ x ∧ x ≤ b then 1 else 0, μ) := by
  rw [m_in]
  simp only [w_le]
theorem l0 : (0 : Int64) = (0 : Int32).toInt64 := by decide
theorem l1 : (1 : Int64) = (1 : Int32).toInt64 := by decide
theorem lk (n : Nat) (h : n < 1000) : (Int64.ofNat n) = (nI n).toInt64 := by rw [nI_l (by omega)]; rfl
theorem gd_01 {c : Prop} [Decidable c] {ρ : Type} {x : Option ρ} : gd ((if c then (1 : Int32) else 0) = (0 : Int32) ∨ (if c then (1 : Int32) else 0) = (1 : Int32)) x = x := gd_t (by by_cases h : c <;> simp [h])
theorem if_10 {c : Prop} [Decidable c] {α : Type} {x y : α} : (if (if c then (1 : Int32) else 0) = (0 : Int32) then x else y) = if c then y else x := by by_cases h : c <;> simp [h]
theorem n1_le {x : Int32} {n : Nat} (hn : n < 2 ^ 30) : ((0 : Int32) ≤ x ∧ x ≤ nI n - 1) ↔ ∃ o, o < n ∧ x = nI o := by
  have e : (nI n - 1).toInt = (n : Int) - 1 := pk_sub_toInt (a := n) (b := 1) hn (by omega)
  rw [i_le, i_le, e]
  constructor
  · rintro ⟨h1, h2⟩
    have h1 : (0 : Int) ≤ x.toInt := by simpa using h1
    refine ⟨x.toInt.toNat, by omega, ?_⟩
    rw [i_eq, nI_toInt (by omega)]
    omega
  · rintro ⟨o, h1, rfl⟩
    rw [nI_toInt (by omega)]
    exact ⟨by simp, by omega⟩
theorem x_isOrder {μ : Mem} {n : Nat} (hn : μ 3 5 = nI n) (h5 : n ≤ 5) (x : Int32) : fX7_isOrder x μ = some (if ∃ o, o < n ∧ x = nI o then 1 else 0, μ) := by
  unfold fX7_isOrder
  rw [x_within, bi_e, gd_01, hn]
  simp only [n1_le (x := x) (n := n) (by omega)]
theorem m_isOrder {κ : Mem} {n : Nat} (hn : κ 0 5 = nI n) (h5 : n ≤ 5) (x : Int32) : fX8_isOrder x κ = some (if ∃ o, o < n ∧ x = nI o then 1 else 0, κ) := by
  unfold fX8_isOrder
  rw [l0, m_inw, bi_e, gd_01, hn]
  simp only [n1_le (x := x) (n := n) (by omega)]
theorem ex_no {n : Nat} {x : Int32} (h : x < 0 ∨ nI n ≤ x) (hn : n < 2 ^ 31) : ¬ ∃ o, o < n ∧ x = nI o := by
  rintro ⟨o, h1, rfl⟩
  rcases h with h | h
  · exact nI_pos (by omega) h
  · rw [le_nI hn (by omega)] at h
    omega
theorem x_isY {μ : Mem} {n : Nat} (hn : μ 3 5 = nI n) (h5 : n ≤ 5) {o : Nat} (ho : o < n) : fX7_isOrder (nI o) μ = some (1, μ) := by rw [x_isOrder hn h5, if_pos ⟨o, ho, rfl⟩]
theorem x_isN {μ : Mem} {n : Nat} (hn : μ 3 5 = nI n) (h5 : n ≤ 5) {x : Int32} (h : x < 0 ∨ nI n ≤ x) : fX7_isOrder x μ = some (0, μ) := by rw [x_isOrder hn h5, if_neg (ex_no h (by omega))]
theorem m_isY {κ : Mem} {n : Nat} (hn : κ 0 5 = nI n) (h5 : n ≤ 5) {o : Nat} (ho : o < n) : fX8_isOrder (nI o) κ = some (1, κ) := by rw [m_isOrder hn h5, if_pos ⟨o, ho, rfl⟩]
theorem m_isN {κ : Mem} {n : Nat} (hn : κ 0 5 = nI n) (h5 : n ≤ 5) {x : Int32} (h : x < 0 ∨ nI n ≤ x) : fX8_isOrder x κ = some (0, κ) := by rw [m_isOrder hn h5, if_neg (ex_no h (by omega))]
theorem one_ne : ¬ (1 : Int32) = 0 := by decide
