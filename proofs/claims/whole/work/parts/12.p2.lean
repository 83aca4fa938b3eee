/-! ===== bits, sums over bits, ways ===== -/
def mcl (m c : Nat) : Nat := m &&& (31 ^^^ c)
def popc (m : Nat) : Nat := m % 2 + m / 2 % 2 + m / 4 % 2 + m / 8 % 2 + m / 16 % 2
theorem bt_t : ∀ m, m < 32 → ∀ o, o < 5 → ((((nI m >>> (nI o &&& 31)) &&& (1 : Int32)) = 1) ↔ m.testBit o = true) := by decide +kernel
theorem bt_f : ∀ m, m < 32 → ∀ o, o < 5 → ((((nI m >>> (nI o &&& 31)) &&& (1 : Int32)) = 0) ↔ m.testBit o = false) := by decide +kernel
theorem bt_or : ∀ m, m < 32 → ∀ o, o < 5 → (nI m ||| ((1 : Int32) <<< (nI o &&& 31)) = nI (m ||| 2 ^ o) ∧ m ||| 2 ^ o < 32) := by decide +kernel
theorem bt_orm : ∀ m, m < 32 → ∀ o, o < 32 → (nI m ||| nI o = nI (m ||| o) ∧ m ||| o < 32) := by decide +kernel
theorem bt_an : ∀ m, m < 32 → ∀ o, o < 32 → (nI m &&& nI o = nI (m &&& o) ∧ m &&& o < 32) := by decide +kernel
theorem bt_one : ∀ o, o < 5 → ((1 : Int32) <<< (nI o &&& 31)) = nI (2 ^ o) := by decide +kernel
theorem bt_cl : ∀ m, m < 32 → ∀ c, c < 32 → (nI m &&& (nI c ^^^ (-1 : Int32)) = nI (mcl m c) ∧ mcl m c < 32) := by decide +kernel
theorem bt_all : ∀ n, n < 6 → (((1 : Int32) <<< (nI n &&& 31)) - 1 = nI (2 ^ n - 1)) := by decide +kernel
theorem bt_pow : ∀ o, o < 5 → 2 ^ o < 32 := by decide
theorem pow5 : ∀ n, n < 6 → 2 ^ n - 1 < 32 ∧ 2 ^ n ≤ 32 := by decide
theorem bit1_n : ∀ k, k < 6 → (((1 : Int32) <<< (nI k &&& 31)) = nI (2 ^ k)) := by decide +kernel
theorem bc_ok : ∀ m, m < 32 → ∀ μ : Mem, fJ6_bitCount_0f7a4 (nI m) μ = some (nI (popc m), μ) := by
  have h : ∀ m, m < 32 → (let y1 := nI m - ((ush (nI m) (1 : Int32)) &&& (1431655765 : Int32)); let y2 := (y1 &&& (858993459 : Int32)) + ((ush y1 (2 : Int32)) &&& (858993459 : Int32)); let y3 := (y2 + (ush y2 (4 : Int32))) &&& (252645135 : Int32); let y4 := y3 + (ush y3 (8 : Int32)); let y5 := y4 + (ush y4 (16 : Int32)); y5 &&& (63 : Int32)) = nI (popc m) := by decide +kernel
  intro m hm μ
  have := h m hm
  unfold fJ6_bitCount_0f7a4
  simp only [lb_e]
  simp only at this
  rw [this]
def bsv (m : Nat) : Nat → Int32
  | 0 => 0
  | i + 1 => bsv m i + ((nI m >>> (nI i &&& 31)) &&& (1 : Int32))
theorem bsv_5 : ∀ m, m < 32 → bsv m 5 = nI (popc m) := by decide +kernel
theorem bo_L (m : Nat) (κ : Mem) : ∀ (k i fu : Nat), i + k = 5 → k < fu → fX8_bitsOf_L4 fu (nI m) (bsv m i) (nI i) κ = some (bsv m 5, κ)
  | 0, i, fu + 1, h, _ => by
    have e : i = 5 := by omega
    subst e
    rw [fX8_bitsOf_L4, if_pos (by decide)]
  | k + 1, i, fu + 1, h, hf => by
    rw [fX8_bitsOf_L4, if_neg (show ¬ (5 : Int32) ≤ nI i from nI_ge (b := 5) (by omega) (by omega)), lb_e, lb_e, nI_s1]
    exact bo_L m κ k (i + 1) fu (by omega) (by omega)
theorem bo_ok (m : Nat) (hm : m < 32) (κ : Mem) : fX8_bitsOf (nI m) κ = some (nI (popc m), κ) := by
  unfold fX8_bitsOf
  rw [lb_e, lb_e, ← bsv_5 m hm]
  exact bo_L m κ 5 0 FU (by omega) (by show 5 < 4000; omega)
/-- a sum over the bits of m below k -/
def bsum (g : Nat → Int32) (m : Nat) : Nat → Int32
  | 0 => 0
  | k + 1 => bsum g m k + (if m.testBit k then g k else 0)
/-- the class's shop at sh holds the data D of n orders -/
def datX (μ : Mem) (sh n : Nat) (D : Nat → Nat → Int32) : Prop := μ sh 5 = nI n ∧ n ≤ 5 ∧ ∀ o w, o < n → w < 5 → μ (sh + 2) (5 * o + w) = D w o
theorem nI_o5 (o w : Nat) : nI o * 5 + nI w = nI (5 * o + w) := nI_m5 o w
theorem x_of {μ : Mem} {sh n : Nat} {D : Nat → Nat → Int32} (h : datX μ sh n D) {o w : Nat} (ho : o < n) (hw : w < 5) : fX4_ofOrder sh (nI o) (nI w) μ = some (D w o, μ) := by
  have := h.2.1
  unfold fX4_ofOrder
  rw [nI_o5, gr_n (by omega) (by omega), cl_n (by omega), h.2.2 o w ho hw]
theorem x_sumL {μ : Mem} {sh n : Nat} {D : Nat → Nat → Int32} (h : datX μ sh n D) {w : Nat} (hw : w < 5) : ∀ (k i fu : Nat), i + k = n → k < fu → fX4_sum_L4 sh fu (nI w) (bsum (D w) (2 ^ n - 1) i) (nI i) μ = some (bsum (D w) (2 ^ n - 1) n, μ)
  | 0, i, fu + 1, h1, _ => by
    have := h.2.1
    have e : i = n := by omega
    subst e
    rw [fX4_sum_L4, if_pos (by rw [h.1]; exact nI_le (Nat.le_refl _) (by omega))]
  | k + 1, i, fu + 1, h1, hf => by
    have := h.2.1
    rw [fX4_sum_L4, if_neg (by rw [h.1]; exact nI_ge (by omega) (by omega)), x_of h (by omega) hw, bi_e, lb_e, lb_e, nI_s1]
    have ih := x_sumL h hw k (i + 1) fu (by omega) (by omega)
    rw [bsum, if_pos (by rw [Nat.testBit_two_pow_sub_one]; simp; omega)] at ih
    exact ih
theorem x_sum {μ : Mem} {sh n : Nat} {D : Nat → Nat → Int32} (h : datX μ sh n D) {w : Nat} (hw : w < 5) : fX4_sum sh (nI w) μ = some (bsum (D w) (2 ^ n - 1) n, μ) := by
  have := h.2.1
  unfold fX4_sum
  rw [lb_e, lb_e]
  exact x_sumL h hw n 0 FU (by omega) (by show n < 4000; omega)
theorem x_penL {μ : Mem} {sh n m : Nat} {D : Nat → Nat → Int32} (h : datX μ sh n D) (hm : m < 32) : ∀ (k i fu : Nat), i + k = n → k < fu → fX4_penniesOf_L4 sh fu (nI m) (bsum (D 3) m i) (nI i) μ = some (bsum (D 3) m n, μ)
  | 0, i, fu + 1, h1, _ => by
    have := h.2.1
    have e : i = n := by omega
    subst e
    rw [fX4_penniesOf_L4, if_pos (by rw [h.1]; exact nI_le (Nat.le_refl _) (by omega))]
  | k + 1, i, fu + 1, h1, hf => by
    have := h.2.1
    have ih := x_penL h hm k (i + 1) fu (by omega) (by omega)
    rw [bsum] at ih
    rw [fX4_penniesOf_L4, if_neg (by rw [h.1]; exact nI_ge (by omega) (by omega))]
    unfold fX4_penniesOf_J30
    simp only [lb_e, nI_s1]
    by_cases e : m.testBit i = true
    · rw [if_pos ((bt_t m hm i (by omega)).mpr e), show (3 : Int32) = nI 3 from rfl, x_of h (by omega) (by omega), bi_e]
      rw [if_pos e] at ih
      exact ih
    · rw [if_neg (fun q => e ((bt_t m hm i (by omega)).mp q))]
      rw [if_neg e, Int32.add_zero] at ih
      exact ih
theorem x_pen {μ : Mem} {sh n m : Nat} {D : Nat → Nat → Int32} (h : datX μ sh n D) (hm : m < 32) : fX4_penniesOf sh (nI m) μ = some (bsum (D 3) m n, μ) := by
  have := h.2.1
  unfold fX4_penniesOf
  rw [lb_e, lb_e]
  exact x_penL h hm n 0 FU (by omega) (by show n < 4000; omega)
/-- the model's page holds the data D of n orders -/
def datM (κ : Mem) (n : Nat) (D : Nat → Nat → Int32) : Prop := κ 0 5 = nI n ∧ n ≤ 5 ∧ ∀ o, o < n → κ 1 o = D 0 o ∧ κ 4 o = D 1 o ∧ κ 1 (5 + o) = D 2 o ∧ κ 1 (10 + o) = D 3 o ∧ κ 1 (15 + o) = D 4 o
theorem m_wtL {κ : Mem} {n m : Nat} {D : Nat → Nat → Int32} (h : datM κ n D) (hm : m < 32) : ∀ (k i fu : Nat), i + k = n → k < fu → fX8_weightOf_L4 fu (nI m) (bsum (D 2) m i) (nI i) κ = some (bsum (D 2) m n, κ)
  | 0, i, fu + 1, h1, _ => by
    have := h.2.1
    have e : i = n := by omega
    subst e
    rw [fX8_weightOf_L4, if_pos (by rw [h.1]; exact nI_le (Nat.le_refl _) (by omega))]
  | k + 1, i, fu + 1, h1, hf => by
    have := h.2.1
    have ih := m_wtL h hm k (i + 1) fu (by omega) (by omega)
    rw [bsum] at ih
    rw [fX8_weightOf_L4, if_neg (by rw [h.1]; exact nI_ge (by omega) (by omega))]
    unfold fX8_weightOf_J34
    simp only [lb_e, nI_s1, show (5 : Int32) = nI 5 from rfl, nI_add]
    by_cases e : m.testBit i = true
    · rw [if_pos ((bt_t m hm i (by omega)).mpr e), gr_n (by omega) (by omega), cl_n (by omega), (h.2.2 i (by omega)).2.2.1]
      rw [if_pos e] at ih
      exact ih
    · rw [if_neg (fun q => e ((bt_t m hm i (by omega)).mp q))]
      rw [if_neg e] at ih
      exact ih
theorem m_wt {κ : Mem} {n m : Nat} {D : Nat → Nat → Int32} (h : datM κ n D) (hm : m < 32) : fX8_weightOf (nI m) κ = some (bsum (D 2) m n, κ) := by
  have := h.2.1
  unfold fX8_weightOf
  rw [lb_e, lb_e]
  exact m_wtL h hm n 0 FU (by omega) (by show n < 4000; omega)
theorem m_penL {κ : Mem} {n m sp lt : Nat} {D : Nat → Nat → Int32} (h : datM κ n D) (hm : m < 32) (hs : sp < 32) (hl : lt < 32) (h1 : κ 0 32 = nI sp) (h2 : κ 0 33 = nI lt) : ∀ (k i fu : Nat), i + k = n → k < fu → fX8_penniesOf_L4 fu (nI m) (bsum (D 3) (mcl (mcl m sp) lt) i) (nI i) κ = some (bsum (D 3) (mcl (mcl m sp) lt) n, κ)
  | 0, i, fu + 1, h1, _ => by
    have := h.2.1
    have e : i = n := by omega
    subst e
    rw [fX8_penniesOf_L4, if_pos (by rw [h.1]; exact nI_le (Nat.le_refl _) (by omega))]
  | k + 1, i, fu + 1, h3, hf => by
    have := h.2.1
    have ih := m_penL h hm hs hl h1 h2 k (i + 1) fu (by omega) (by omega)
    obtain ⟨e1, l1⟩ := bt_cl m hm sp hs
    obtain ⟨e2, l2⟩ := bt_cl (mcl m sp) l1 lt hl
    rw [bsum] at ih
    rw [fX8_penniesOf_L4, if_neg (by rw [h.1]; exact nI_ge (by omega) (by omega)), h1, h2, e1, e2]
    unfold fX8_penniesOf_J49
    simp only [lb_e, nI_s1, show (10 : Int32) = nI 10 from rfl, nI_add]
    by_cases e : (mcl (mcl m sp) lt).testBit i = true
    · rw [if_pos ((bt_t _ l2 i (by omega)).mpr e), gr_n (by omega) (by omega), cl_n (by omega), (h.2.2 i (by omega)).2.2.2.1]
      rw [if_pos e] at ih
      exact ih
    · rw [if_neg (fun q => e ((bt_t _ l2 i (by omega)).mp q))]
      rw [if_neg e] at ih
      exact ih
theorem m_pen {κ : Mem} {n m sp lt : Nat} {D : Nat → Nat → Int32} (h : datM κ n D) (hm : m < 32) (hs : sp < 32) (hl : lt < 32) (h1 : κ 0 32 = nI sp) (h2 : κ 0 33 = nI lt) : fX8_penniesOf (nI m) κ = some (bsum (D 3) (mcl (mcl m sp) lt) n, κ) := by
  have := h.2.1
  unfold fX8_penniesOf
  rw [lb_e, lb_e]
  exact m_penL h hm hs hl h1 h2 n 0 FU (by omega) (by show n < 4000; omega)
/-! ways: a sum of stretches -/
def sgm (g : Nat → Int32) (lo : Nat) : Nat → Int32
  | 0 => 0
  | c + 1 => sgm g lo c + g (lo + c)
/-- the stretch k, for one who is heavy or not, where 'hard' is up for him -/
def lgF (D : Nat → Nat → Int32) (hv : Bool) (hard : Int32) (k : Nat) : Int32 := D 5 k * (if hv = true ∧ D 6 k = hard then 2 else 1)
def wayV (D : Nat → Nat → Int32) (a b : Nat) (hv : Bool) : Int32 := if a < b then sgm (lgF D hv 1) a (b - a) else sgm (lgF D hv 2) b (a - b)
def bI (b : Bool) : Int32 := if b then 1 else 0
def roaX (μ : Mem) (sh H : Nat) (D : Nat → Nat → Int32) : Prop := μ sh 4 = nI H ∧ H ≤ 6 ∧ ∀ h, h < H → μ (sh + 1) (2 * h) = D 5 h ∧ μ (sh + 1) (2 * h + 1) = D 6 h
def roaM (κ : Mem) (H : Nat) (D : Nat → Nat → Int32) : Prop := κ 0 3 = nI H ∧ H ≤ 6 ∧ ∀ h, h < H → κ 2 h = D 5 h ∧ κ 3 h = D 6 h
theorem x_oh {μ : Mem} {sh H : Nat} {D : Nat → Nat → Int32} (h : roaX μ sh H D) {k w : Nat} (hk : k < H) (hw : w < 2) : fX4_ofHouse sh (nI (k + 1)) (nI w) μ = some (if w = 0 then D 5 k else D 6 k, μ) := by
  have := h.2.1
  unfold fX4_ofHouse
  rw [nI_sm1, show (2 : Int32) = nI 2 from rfl, pk_mul, nI_add, gr_n (by omega) (by omega), cl_n (by omega)]
  rcases (show w = 0 ∨ w = 1 by omega) with rfl | rfl
  · rw [if_pos rfl, show k * 2 + 0 = 2 * k by omega, (h.2.2 k hk).1]
  · rw [if_neg (by decide), show k * 2 + 1 = 2 * k + 1 by omega, (h.2.2 k hk).2]
theorem ax_n {a b : Nat} (ha : a < 2 ^ 31) (hb : b < 2 ^ 31) : imax (nI a) (nI b) = nI (if a < b then b else a) := by
  unfold imax
  simp only [lt_nI ha hb]
  by_cases h : a < b <;> simp [h]
theorem in_n {a b : Nat} (ha : a < 2 ^ 31) (hb : b < 2 ^ 31) : imin (nI a) (nI b) = nI (if b < a then b else a) := by
  unfold imin
  simp only [lt_nI hb ha]
  by_cases h : b < a <;> simp [h]
theorem x_mbL {μ : Mem} {sh H a b : Nat} {D : Nat → Nat → Int32} (h : roaX μ sh H D) (hv : Bool) (hard : Int32) (ha : a ≤ H) (hb : b ≤ H) (lo c : Nat) (hlc : lo + c = if a < b then b else a) : ∀ (k i fu : Nat), i + k = c → k < fu → fX4_minutesBetween_L24 sh fu (nI a) (nI b) (bI hv) hard (sgm (lgF D hv hard) lo i) (nI (lo + i + 1)) μ = some (sgm (lgF D hv hard) lo c, μ)
  | 0, i, fu + 1, h1, _ => by
    have := h.2.1
    have hle : lo + c ≤ H := by rw [hlc]; split <;> omega
    have e : i = c := by omega
    subst e
    rw [fX4_minutesBetween_L24, ax_n (by omega) (by omega), ← hlc, if_pos (nI_lt (by omega) (by omega))]
  | k + 1, i, fu + 1, h1, hf => by
    have h6 := h.2.1
    have hle : lo + c ≤ H := by rw [hlc]; split <;> omega
    have hlH : lo + i < H := by omega
    have ih := x_mbL h hv hard ha hb lo c hlc k (i + 1) fu (by omega) (by omega)
    rw [sgm] at ih
    have e0 := x_oh h hlH (w := 0) (by omega)
    have e1 := x_oh h hlH (w := 1) (by omega)
    rw [fX4_minutesBetween_L24, ax_n (by omega) (by omega), ← hlc, if_neg (nI_nlt (by omega) (by omega))]
    unfold fX4_minutesBetween_J54 fX4_minutesBetween_J55 fX4_minutesBetween_J76
    have e0 : fX4_ofHouse sh (nI (lo + i + 1)) 0 μ = some (D 5 (lo + i), μ) := e0
    have e1 : fX4_ofHouse sh (nI (lo + i + 1)) 1 μ = some (D 6 (lo + i), μ) := e1
    simp only [lb_e, nI_s1, e0, e1, bi_e, ↓reduceIte, one_ne]
    have hz : lo + (i + 1) + 1 = lo + i + 1 + 1 := by omega
    rw [hz] at ih
    have ih : fX4_minutesBetween_L24 sh fu (nI a) (nI b) (bI hv) hard (sgm (lgF D hv hard) lo i + D 5 (lo + i) * (if hv = true ∧ D 6 (lo + i) = hard then 2 else 1)) (nI (lo + i + 1 + 1)) μ = some (sgm (lgF D hv hard) lo c, μ) := ih
    cases hv with
    | false =>
      rw [if_pos (show bI false = 0 from rfl)]
      rw [if_neg (fun q => by cases q.1)] at ih
      exact ih
    | true =>
      rw [if_neg (show ¬ bI true = 0 by decide)]
      by_cases e2 : D 6 (lo + i) = hard
      · rw [if_pos e2]
        rw [if_pos ⟨rfl, e2⟩] at ih
        exact ih
      · rw [if_neg e2]
        rw [if_neg (fun q => e2 q.2)] at ih
        exact ih
theorem x_mb {μ : Mem} {sh H a b : Nat} {D : Nat → Nat → Int32} (h : roaX μ sh H D) (hv : Bool) (ha : a ≤ H) (hb : b ≤ H) : fX4_minutesBetween sh (nI a) (nI b) (bI hv) μ = some (wayV D a b hv, μ) := by
  have h6 := h.2.1
  unfold fX4_minutesBetween fX4_minutesBetween_J10 wayV
  simp only [lb_e]
  by_cases e : a < b
  · rw [if_neg (nI_ge e (by omega)), if_pos e, in_n (by omega) (by omega), if_neg (by omega), nI_s1]
    exact x_mbL h hv 1 ha hb a (b - a) (by rw [if_pos e]; omega) (b - a) 0 FU (by omega) (by show _ < 4000; omega)
  · rw [if_pos (nI_le (by omega) (by omega)), if_neg e, in_n (by omega) (by omega), nI_s1]
    have e3 : (if b < a then b else a) = b := by split <;> omega
    rw [e3]
    exact x_mbL h hv 2 ha hb b (a - b) (by rw [if_neg e]; omega) (a - b) 0 FU (by omega) (by show _ < 4000; omega)
theorem m_push {κ : Mem} : fX8_push κ = some (κ 1 30 + 10, κ) := rfl
theorem m_wyA {κ : Mem} {H a b : Nat} {D : Nat → Nat → Int32} {w ps : Int32} (h : roaM κ H D) (hps : κ 1 30 + 10 = ps) (ha : a ≤ H) (hb : b ≤ H) (hab : a ≤ b) : ∀ (k i fu : Nat), i + k = b - a → k < fu → fX8_wayOf_L8 fu (nI a) (nI b) w (sgm (lgF D (decide (ps < w)) 1) a i) (nI (a + i + 1)) κ = fX8_wayOf_L64 FU (nI b) w (sgm (lgF D (decide (ps < w)) 1) a (b - a)) (nI a) κ
  | 0, i, fu + 1, h1, _ => by
    have := h.2.1
    have e : i = b - a := by omega
    subst e
    rw [fX8_wayOf_L8, if_pos (nI_lt (by omega) (by omega))]
  | k + 1, i, fu + 1, h1, hf => by
    have h6 := h.2.1
    have ih := m_wyA (w := w) h hps ha hb hab k (i + 1) fu (by omega) (by omega)
    rw [sgm] at ih
    rw [fX8_wayOf_L8, if_neg (nI_nlt (by omega) (by omega)), nI_sm1, gr_n (by omega) (by omega), gr_n (by omega) (by omega)]
    unfold fX8_wayOf_J50 fX8_wayOf_J51
    simp only [lb_e, nI_s1, m_push, bi_e, hps]
    rw [cl_n (by omega), (h.2.2 (a + i) (by omega)).1, (h.2.2 (a + i) (by omega)).2]
    have hz : a + (i + 1) + 1 = a + i + 1 + 1 := by omega
    rw [hz] at ih
    have ih : fX8_wayOf_L8 fu (nI a) (nI b) w (sgm (lgF D (decide (ps < w)) 1) a i + D 5 (a + i) * (if decide (ps < w) = true ∧ D 6 (a + i) = 1 then 2 else 1)) (nI (a + i + 1 + 1)) κ = fX8_wayOf_L64 FU (nI b) w (sgm (lgF D (decide (ps < w)) 1) a (b - a)) (nI a) κ := ih
    by_cases e2 : D 6 (a + i) = 1
    · rw [if_pos e2]
      by_cases e3 : w ≤ ps
      · rw [if_pos e3]
        rw [if_neg (fun q => absurd (of_decide_eq_true q.1) (Int32.not_lt.mpr e3))] at ih
        exact ih
      · rw [if_neg e3]
        rw [if_pos ⟨decide_eq_true (Int32.not_le.mp e3), e2⟩] at ih
        exact ih
    · rw [if_neg e2]
      rw [if_neg (fun q => e2 q.2)] at ih
      exact ih
theorem sgm_front (g : Nat → Int32) : ∀ (lo c : Nat), sgm g lo (c + 1) = g lo + sgm g (lo + 1) c
  | lo, 0 => by
    show 0 + g (lo + 0) = g lo + 0
    rw [Nat.add_zero, Int32.zero_add, Int32.add_zero]
  | lo, c + 1 => by
    rw [sgm, sgm_front g lo c, sgm, Int32.add_assoc, show lo + (c + 1) = lo + 1 + c by omega]
theorem m_wyB {κ : Mem} {H b : Nat} {D : Nat → Nat → Int32} {w ps : Int32} (h : roaM κ H D) (hps : κ 1 30 + 10 = ps) (hb : b ≤ H) : ∀ (k fu : Nat) (acc : Int32), b + k ≤ H → k < fu → fX8_wayOf_L64 fu (nI b) w acc (nI (b + k)) κ = some (acc + sgm (lgF D (decide (ps < w)) 2) b k, κ)
  | 0, fu + 1, acc, h1, _ => by
    have := h.2.1
    rw [fX8_wayOf_L64, Nat.add_zero, if_pos (nI_le (Nat.le_refl _) (by omega)), sgm, Int32.add_zero]
  | k + 1, fu + 1, acc, h1, hf => by
    have h6 := h.2.1
    have ih := fun acc => m_wyB (w := w) h hps hb k fu acc (by omega) (by omega)
    rw [fX8_wayOf_L64, show b + (k + 1) = b + k + 1 by omega, if_neg (nI_ge (by omega) (by omega)), nI_sm1, gr_n (by omega) (by omega), gr_n (by omega) (by omega)]
    unfold fX8_wayOf_J106 fX8_wayOf_J107
    simp only [lb_e, nI_d1, m_push, bi_e, hps]
    rw [cl_n (by omega), (h.2.2 (b + k) (by omega)).1, (h.2.2 (b + k) (by omega)).2, sgm]
    have key : ∀ v : Int32, (acc + v) + sgm (lgF D (decide (ps < w)) 2) b k = acc + (sgm (lgF D (decide (ps < w)) 2) b k + v) := fun v => by rw [Int32.add_assoc, Int32.add_comm v]
    by_cases e2 : D 6 (b + k) = 2
    · rw [if_pos e2]
      by_cases e3 : w ≤ ps
      · rw [if_pos e3, ih, key]
        conv => rhs; rw [lgF, if_neg (fun q => absurd (of_decide_eq_true q.1) (Int32.not_lt.mpr e3))]
      · rw [if_neg e3, ih, key]
        conv => rhs; rw [lgF, if_pos ⟨decide_eq_true (Int32.not_le.mp e3), e2⟩]
    · rw [if_neg e2, ih, key]
      conv => rhs; rw [lgF, if_neg (fun q => e2 q.2)]
theorem m_way {κ : Mem} {H a b : Nat} {D : Nat → Nat → Int32} {w ps : Int32} (h : roaM κ H D) (hps : κ 1 30 + 10 = ps) (ha : a ≤ H) (hb : b ≤ H) : fX8_wayOf (nI a) (nI b) w κ = some (wayV D a b (decide (ps < w)), κ) := by
  have h6 := h.2.1
  unfold fX8_wayOf wayV
  rw [lb_e, lb_e, nI_s1]
  by_cases e : a < b
  · rw [if_pos e]
    refine (m_wyA (w := w) h hps ha hb (by omega) (b - a) 0 FU (by omega) (by show _ < 4000; omega)).trans ?_
    obtain ⟨q, hq⟩ := FU_s 0 (by omega)
    rw [hq, fX8_wayOf_L64, if_pos (nI_le (by omega) (by omega))]
  · rw [if_neg e]
    obtain ⟨q, hq⟩ := FU_s 0 (by omega)
    have e1 : fX8_wayOf_L8 FU (nI a) (nI b) w 0 (nI (a + 1)) κ = fX8_wayOf_L64 FU (nI b) w 0 (nI a) κ := by
      conv => lhs; rw [hq]
      rw [fX8_wayOf_L8, if_pos (nI_lt (by omega) (by omega))]
    rw [e1]
    have := m_wyB (w := w) h hps hb (a - b) FU 0 (by omega) (by show _ < 4000; omega)
    rw [show b + (a - b) = a by omega, Int32.zero_add] at this
    exact this
