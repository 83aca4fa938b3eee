/-! ===== a round of some orders: the reference ===== -/
theorem datM_f {κ ξ : Mem} {n : Nat} {D : Nat → Nat → Int32} (h5 : ξ 0 5 = κ 0 5) (h1 : ξ 1 = κ 1) (h4 : ξ 4 = κ 4) (h : datM κ n D) : datM ξ n D := ⟨by rw [h5]; exact h.1, h.2.1, fun o ho => by rw [h1, h4]; exact h.2.2 o ho⟩
theorem roaM_f {κ ξ : Mem} {H : Nat} {D : Nat → Nat → Int32} (h3 : ξ 0 3 = κ 0 3) (h1 : ξ 2 = κ 2) (h4 : ξ 3 = κ 3) (h : roaM κ H D) : roaM ξ H D := ⟨by rw [h3]; exact h.1, h.2.1, fun k hk => by rw [h1, h4]; exact h.2.2 k hk⟩
theorem rowM_f {κ ξ : Mem} {r n : Nat} {P : List Nat} (h1 : ξ 1 = κ 1) (h : rowM κ r n P) : rowM ξ r n P := fun i hi => by rw [h1]; exact h i hi
theorem abP_lt {n : Nat} {P : List Nat} (h5 : n ≤ 5) (hP : P ∈ perms n) : ∀ j, j ≤ n → abm (rw_ P) j < 32
  | 0, _ => (by decide : (0 : Nat) < 32)
  | j + 1, hj => (bt_or _ (abP_lt h5 hP j (by omega)) _ (by have := pm_lt n (by omega) P hP j (by omega); omega)).2
theorem m_abL {κ : Mem} {n o m : Nat} {P : List Nat} (hr : rowM κ 20 n P) (h5 : n ≤ 5) (hP : P ∈ perms n) (ho : o < n) (hm : m < 32) : ∀ (r j fu : Nat), j + r = P.idxOf o → r < fu → fX8_above_L5 fu (nI o) (nI m) (nI (m &&& abm (rw_ P) j)) (nI j) κ = some (nI (m &&& abm (rw_ P) (P.idxOf o)), κ)
  | 0, j, fu + 1, h1, _ => by
    obtain ⟨g1, g2, -⟩ := pm_idx n (by omega) P hP o ho
    have e : j = P.idxOf o := by omega
    subst e
    rw [fX8_above_L5, show (20 : Int32) = nI 20 from rfl, m_at hr g1 (by omega), bi_e, g2, if_pos rfl]
  | r + 1, j, fu + 1, h1, hf => by
    obtain ⟨g1, g2, -⟩ := pm_idx n (by omega) P hP o ho
    have hne : ¬ rw_ P j = o := fun e => by
      have := pm_inj n (by omega) P hP j (by omega) _ g1 (by rw [g2]; exact e)
      omega
    have hl := pm_lt n (by omega) P hP j (by omega)
    have ha := abP_lt h5 hP j (by omega)
    have b1 := bt_an m hm _ (bt_pow (rw_ P j) (by omega))
    have b2 := bt_an m hm _ ha
    rw [fX8_above_L5, show (20 : Int32) = nI 20 from rfl, m_at hr (by omega) (by omega), bi_e, if_neg (by rw [eq_nI (by omega) (by omega)]; exact hne), m_at hr (by omega) (by omega), bi_e, lb_e, lb_e, bt_one _ (by omega), b1.1, (bt_orm _ b2.2 _ b1.2).1, nI_s1, ← Nat.and_or_distrib_left]
    exact m_abL hr h5 hP ho hm r (j + 1) fu (by omega) (by omega)
theorem m_ab {κ : Mem} {n o m : Nat} {P : List Nat} (hr : rowM κ 20 n P) (h5 : n ≤ 5) (hP : P ∈ perms n) (ho : o < n) (hm : m < 32) : fX8_above (nI o) (nI m) κ = some (nI (m &&& abm (rw_ P) (P.idxOf o)), κ) := by
  have g1 := (pm_idx n (by omega) P hP o ho).1
  unfold fX8_above
  rw [lb_e, lb_e]
  have := m_abL hr h5 hP ho hm (P.idxOf o) 0 FU (by omega) (by show _ < 4000; omega)
  rw [show abm (rw_ P) 0 = 0 from rfl, Nat.and_zero] at this
  exact this
def rab (f : Nat → Nat) (s : Nat) : Nat → Option Nat
  | 0 => none
  | j + 1 => if s.testBit (f j) then some (f j) else rab f s j
def oI (q : Option Nat) : Int32 := match q with
  | none => -4
  | some q => nI q
theorem rab_lt {n : Nat} {P : List Nat} (h5 : n ≤ 5) (hP : P ∈ perms n) (s : Nat) : ∀ j, j ≤ n → ∀ q, rab (rw_ P) s j = some q → q < n
  | 0, _, q, h => by cases h
  | j + 1, hj, q, h => by
    rw [rab] at h
    split at h
    · cases h
      exact pm_lt n (by omega) P hP j (by omega)
    · exact rab_lt h5 hP s j (by omega) q h
theorem m_raL {κ : Mem} {n o s : Nat} {P : List Nat} (hr : rowM κ 20 n P) (h5 : n ≤ 5) (hP : P ∈ perms n) (ho : o < n) (hs : s < 32) : ∀ (r j fu : Nat), j + r = P.idxOf o → r < fu → fX8_rightAbove_L6 fu (nI o) (nI s) (oI (rab (rw_ P) s j)) (nI j) κ = some (oI (rab (rw_ P) s (P.idxOf o)), κ)
  | 0, j, fu + 1, h1, _ => by
    obtain ⟨g1, g2, -⟩ := pm_idx n (by omega) P hP o ho
    have e : j = P.idxOf o := by omega
    subst e
    rw [fX8_rightAbove_L6, show (20 : Int32) = nI 20 from rfl, m_at hr g1 (by omega), bi_e, g2, if_pos rfl]
  | r + 1, j, fu + 1, h1, hf => by
    obtain ⟨g1, g2, -⟩ := pm_idx n (by omega) P hP o ho
    have hne : ¬ rw_ P j = o := fun e => by
      have := pm_inj n (by omega) P hP j (by omega) _ g1 (by rw [g2]; exact e)
      omega
    have hl := pm_lt n (by omega) P hP j (by omega)
    have ih := m_raL hr h5 hP ho hs r (j + 1) fu (by omega) (by omega)
    rw [rab] at ih
    rw [fX8_rightAbove_L6, show (20 : Int32) = nI 20 from rfl, m_at hr (by omega) (by omega), bi_e, if_neg (by rw [eq_nI (by omega) (by omega)]; exact hne), m_at hr (by omega) (by omega), bi_e]
    unfold fX8_rightAbove_J46
    simp only [lb_e, nI_s1, bi_e]
    by_cases e : s.testBit (rw_ P j) = true
    · rw [if_pos ((bt_t s hs _ (by omega)).mpr e), m_at hr (by omega) (by omega), bi_e]
      rw [if_pos e] at ih
      exact ih
    · rw [if_neg (fun q => e ((bt_t s hs _ (by omega)).mp q))]
      rw [if_neg e] at ih
      exact ih
theorem m_ra {κ : Mem} {n o s : Nat} {P : List Nat} (hr : rowM κ 20 n P) (h5 : n ≤ 5) (hP : P ∈ perms n) (ho : o < n) (hs : s < 32) : fX8_rightAbove (nI o) (nI s) κ = some (oI (rab (rw_ P) s (P.idxOf o)), κ) := by
  have g1 := (pm_idx n (by omega) P hP o ho).1
  unfold fX8_rightAbove
  rw [lb_e, lb_e]
  exact m_raL hr h5 hP ho hs (P.idxOf o) 0 FU (by omega) (by show _ < 4000; omega)
/-- what lies above o in the basket -/
def abF (P : List Nat) (s : Nat) : Nat → Nat := fun o => s &&& abm (rw_ P) (P.idxOf o)
/-- which are crushed or spoilt from above, as the reference has it -/
def crM (D : Nat → Nat → Int32) (n : Nat) (P : List Nat) (s cm : Nat) : Prop := cm < 32 ∧ ∀ o, o < n → s.testBit o = true → (cm.testBit o = true ↔ ((∃ q, rab (rw_ P) s (P.idxOf o) = some q ∧ D 0 q = 4) ∨ (D 0 o = 1 ∧ 5 < bsum (D 2) (abF P s o) n)))
theorem lft_sub (c : Nat → Nat) (s : Nat) : ∀ i, lft c s i &&& s = lft c s i
  | 0 => Nat.and_self s
  | i + 1 => by
    show (lft c s i &&& (31 ^^^ 2 ^ c i)) &&& s = _
    rw [Nat.and_assoc, Nat.and_comm (31 ^^^ 2 ^ c i) s, ← Nat.and_assoc, lft_sub c s i]
    rfl
theorem dig_eq (P : List Nat) (c : Nat → Nat) (s o i : Nat) : lft c s i &&& abm (rw_ P) (P.idxOf o) = abF P s o &&& lft c s i := by
  unfold abF
  conv => lhs; rw [← lft_sub c s i]
  rw [Nat.and_assoc, Nat.and_comm]
theorem tb_sub {n s : Nat} {c : Nat → Nat} {i : Nat} (o : Nat) (h : (lft c s i).testBit o = true) : s.testBit o = true := by
  rw [← lft_sub c s i, Nat.testBit_and, Bool.and_eq_true] at h
  exact h.2
theorem acs (a b c d e : Int32) : a + b + c + d + e = a + (b + e) + c + d := by ac_rfl
theorem acn (st g d u w dr x : Int32) : st + g + d + u + ((w + x) + dr) = st + (g + w) + (d + dr) + (u + x) := by ac_rfl
theorem or_mm : ∀ a, a < 32 → ∀ m, m < 32 → ∀ o, o < 32 → ((a ||| m) ||| o = a ||| (m ||| o) ∧ a ||| m < 32) := by
  intro a ha m hm o _
  exact ⟨Nat.or_assoc a m o, (bt_orm a ha m hm).2⟩
/-- behind goes() -/
def gosM (κ ξ : Mem) (D : Nat → Nat → Int32) (hs : Nat → Nat) (n : Nat) (ps st : Int32) (P : List Nat) (c : Nat → Nat) (s k cm sp0 lt0 : Nat) : Prop :=
  let q := kq D st (bareV D hs n ps st c s) (abF P s) c s (κ 14) k
  (∀ b, b ≠ 0 → b ≠ 14 → ξ b = κ b) ∧ (∀ j, j ≠ 29 → j ≠ 30 → j ≠ 31 → j ≠ 32 → j ≠ 33 → ξ 0 j = κ 0 j) ∧ ξ 0 29 = κ 0 29 + q.1 ∧ ξ 0 30 = κ 0 30 + goneV D hs n ps c s k ∧ ξ 0 31 = κ 0 31 + (jq D hs n ps c s k).2.2.2 ∧ ξ 0 32 = nI (sp0 ||| ((s &&& cm) ||| q.2.2.1)) ∧ ξ 0 33 = nI (lt0 ||| q.2.2.2) ∧ ξ 14 = q.2.1
/-- between two doors -/
def midM (κ : Mem) (D : Nat → Nat → Int32) (hs : Nat → Nat) (n : Nat) (ps st : Int32) (P : List Nat) (c : Nat → Nat) (s cm sp0 lt0 : Nat) (u0 g0 d0 : Int32) (tm : Nat → Int32) (i : Nat) : Prop :=
  let q := kq D st (bareV D hs n ps st c s) (abF P s) c s tm i
  κ 0 29 = u0 + q.1 ∧ κ 0 30 = g0 + (jq D hs n ps c s i).2.2.1 ∧ κ 0 31 = d0 + (jq D hs n ps c s i).2.2.2 ∧ κ 0 32 = nI (sp0 ||| ((abm c i &&& cm) ||| q.2.2.1)) ∧ κ 0 33 = nI (lt0 ||| q.2.2.2) ∧ κ 14 = q.2.1
/-- the world of a walk of the reference -/
def wlkM (κ : Mem) (n H : Nat) (D : Nat → Nat → Int32) (P R : List Nat) (ps : Int32) : Prop := datM κ n D ∧ roaM κ H D ∧ rowM κ 20 n P ∧ rowM κ 25 n R ∧ κ 1 30 + 10 = ps
theorem wlkM_f {κ ξ : Mem} {n H : Nat} {D : Nat → Nat → Int32} {P R : List Nat} {ps : Int32} (h : wlkM κ n H D P R ps) (hb : ∀ b, b ≠ 0 → b ≠ 14 → ξ b = κ b) (h3 : ξ 0 3 = κ 0 3) (h5 : ξ 0 5 = κ 0 5) : wlkM ξ n H D P R ps :=
  ⟨datM_f h5 (hb 1 (by decide) (by decide)) (hb 4 (by decide) (by decide)) h.1, roaM_f h3 (hb 2 (by decide) (by decide)) (hb 3 (by decide) (by decide)) h.2.1, rowM_f (hb 1 (by decide) (by decide)) h.2.2.1, rowM_f (hb 1 (by decide) (by decide)) h.2.2.2.1, by rw [hb 1 (by decide) (by decide)]; exact h.2.2.2.2⟩
theorem or_cm2 : ∀ m, m < 32 → ∀ q, q < 32 → ∀ o, o < 5 → ∀ a, a < 32 → ((q.testBit o = true → ((m &&& q) ||| a) ||| 2 ^ o = ((m ||| 2 ^ o) &&& q) ||| a)) := by
  intro m hm q hq o ho a ha h
  rw [Nat.or_assoc, Nat.or_comm a, ← Nat.or_assoc, (or_cm m hm q hq o ho).1 h]
theorem or_cm3 : ∀ m, m < 32 → ∀ q, q < 32 → ∀ o, o < 5 → ∀ a, a < 32 → (((m &&& q) ||| a) ||| 2 ^ o = ((m ||| 2 ^ o) &&& q) ||| (a ||| 2 ^ o)) := by
  intro m hm q hq o ho a ha
  by_cases h : q.testBit o = true
  · rw [← (or_cm m hm q hq o ho).1 h]
    apply Nat.eq_of_testBit_eq
    intro i
    simp only [Nat.testBit_or]
    cases (m &&& q).testBit i <;> cases a.testBit i <;> cases (2 ^ o).testBit i <;> rfl
  · rw [← (or_cm m hm q hq o ho).2 (Bool.eq_false_iff.mpr h), Nat.or_assoc]
