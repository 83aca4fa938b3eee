/-! ===== the text: what is missing, the other orders ===== -/
theorem hi_sh : ∀ U, U < 32 → ∀ m, m < 6 → (((nI U >>> (nI m &&& 31)) = 0) ↔ hiB U ≤ m) := by decide +kernel
theorem pI_lt : ∀ x, x < 6 → ∀ m, m < 6 → ((pI x < nI m) ↔ x ≤ m) := by decide +kernel
theorem hi_le : ∀ a, a < 32 → ∀ b, b < 32 → ∀ m, m < 6 → (m < hiB (a ||| b) ∨ (a < 2 ^ m ∧ b < 2 ^ m)) := by decide +kernel
theorem hi_b6 : ∀ U, U < 32 → hiB U < 6 := by decide +kernel
theorem x_fmF {μ : Mem} {m : Nat} (hm : m ≤ 5) (h5 : μ 18 5 = nI m) : ∀ (r o fu : Nat), o + r = m → r < fu → fX1_findMissing_L28 fu 1 (nI o) μ = fX1_fail 6 (μ 1 1) μ
  | 0, o, fu + 1, h1, _ => by
    have e : o = m := by omega
    subst e
    rw [fX1_findMissing_L28, h5, if_pos (Int32.le_refl _), if_neg one_ne]
    unfold fX1_findMissing_J91
    rw [bv_s]
  | r + 1, o, fu + 1, h1, h2 => by
    rw [fX1_findMissing_L28, h5, if_neg (by rw [le_nI (by omega) (by omega)]; omega), if_neg one_ne]
    unfold fX1_findMissing_J62 fX1_findMissing_J67
    rw [lb_e, nI_s1]
    exact x_fmF hm h5 r (o + 1) fu (by omega) (by omega)
theorem x_fmL {μ : Mem} {m h : Nat} {d : Nat → Nat} (hm : m ≤ 5) (hh : h ≤ 6) (h5 : μ 18 5 = nI m) (h4 : μ 18 4 = nI h) (hd : ∀ o, o < m → d o ≤ 6 ∧ μ 20 (5 * o + 1) = nI (d o)) : ∀ (r o fu : Nat), o + r = m → r < fu → ((∀ q, o ≤ q → q < m → d q ≤ h) → fX1_findMissing_L28 fu 0 (nI o) μ = some μ) ∧ ((∃ q, o ≤ q ∧ q < m ∧ h < d q) → fX1_findMissing_L28 fu 0 (nI o) μ = fX1_fail 6 (μ 1 1) μ)
  | 0, o, fu + 1, h1, _ => by
    have e : o = m := by omega
    subst e
    refine ⟨fun _ => ?_, fun ⟨q, q1, q2, _⟩ => by omega⟩
    rw [fX1_findMissing_L28, h5, if_pos (Int32.le_refl _), if_pos rfl]
    rfl
  | r + 1, o, fu + 1, h1, h2 => by
    obtain ⟨i1, i2⟩ := x_fmL hm hh h5 h4 hd r (o + 1) fu (by omega) (by omega)
    have i3 := x_fmF hm h5 r (o + 1) fu (by omega) (by omega)
    obtain ⟨d1, d2⟩ := hd o (by omega)
    have hof : fX4_ofOrder 18 (nI o) (1 : Int32) μ = some (nI (d o), μ) := by
      have q := x_of (μ := μ) (sh := 18) (n := m) (D := fun w o => μ 20 (5 * o + w)) ⟨h5, hm, fun _ _ _ _ => rfl⟩ (show o < m by omega) (show 1 < 5 by decide)
      have q : fX4_ofOrder 18 (nI o) (1 : Int32) μ = some (μ 20 (5 * o + 1), μ) := q
      rw [q, d2]
    have base : fX1_findMissing_L28 (fu + 1) 0 (nI o) μ = if d o ≤ h then fX1_findMissing_L28 fu 0 (nI (o + 1)) μ else fX1_findMissing_L28 fu 1 (nI (o + 1)) μ := by
      rw [fX1_findMissing_L28, h5, if_neg (by rw [le_nI (by omega) (by omega)]; omega), if_pos rfl, hof, bi_e, h4, ite_len (by omega) (by omega)]
      unfold fX1_findMissing_J62 fX1_findMissing_J67
      rw [lb_e, nI_s1]
      rfl
    rw [base]
    by_cases e : d o ≤ h
    · rw [if_pos e]
      refine ⟨fun q => i1 (fun x x1 x2 => q x (by omega) x2), fun ⟨q, q1, q2, q3⟩ => i2 ⟨q, ?_, q2, q3⟩⟩
      by_cases eq : q = o
      · subst eq; omega
      · omega
    · rw [if_neg e]
      exact ⟨fun q => absurd (q o (Nat.le_refl _) (by omega)) e, fun _ => i3⟩
theorem x_miss {μ κ : Mem} {h m hh L T k0 k1 : Nat} {A B : List Nat} (H : DTp μ κ h m hh L T k0 k1 A B) : ((hh ≤ h ∧ hiB (abm (rw_ A) k0 ||| abm (rw_ B) k1) ≤ m) → fX1_findMissing μ = some μ) ∧ (¬ (hh ≤ h ∧ hiB (abm (rw_ A) k0 ||| abm (rw_ B) k1) ≤ m) → fX1_findMissing μ = fX1_fail 6 (μ 1 1) μ) := by
  obtain ⟨f, hf⟩ := FU_s 100 (by decide)
  obtain ⟨hm, hh6, h5, -, -, hmax, hall⟩ := H.od
  have h6 := H.hs.1
  have g0 := (sb_ok k0 (by have := H.r0.1; omega) A H.r0.2.1).1
  have g1 := (sb_ok k1 (by have := H.r1.1; omega) B H.r1.2.1).1
  have e10 : μ 23 10 = _ := H.r0.2.2.2.2
  have e11 : μ 23 11 = _ := H.r1.2.2.2.2
  have hd : ∀ o, o < m → (μ 20 (5 * o + 1)).toNatClampNeg ≤ hh ∧ μ 20 (5 * o + 1) = nI (μ 20 (5 * o + 1)).toNatClampNeg := fun o ho => by
    obtain ⟨k, d, w, p, u, f1, f2, f3, f4, f5, f6, f7, f8, f9, -⟩ := hall o ho
    rw [f9, cl_n (by omega)]
    exact ⟨f3, rfl⟩
  have L0 := x_fmL (μ := μ) (d := fun o => (μ 20 (5 * o + 1)).toNatClampNeg) hm h6 h5 H.hs.2.1 (fun o ho => ⟨by have := (hd o ho).1; omega, (hd o ho).2⟩) m 0 FU (by omega) (by omega)
  have L1 := x_fmF hm h5 m 0 FU (by omega) (by omega)
  have L1 : fX1_findMissing_L28 FU 1 0 μ = _ := L1
  have sh := hi_sh _ (bt_orm _ g0 _ g1).2 m (by omega)
  unfold fX1_findMissing fX1_findMissing_J25
  rw [e10, e11, (bt_orm _ g0 _ g1).1, h5, lb_e, lb_e, L1]
  constructor
  · intro ⟨c1, c2⟩
    rw [if_pos (sh.2 c2)]
    exact L0.1 (fun q _ hq => by have := (hd q hq).1; omega)
  · intro c
    by_cases c2 : hiB (abm (rw_ A) k0 ||| abm (rw_ B) k1) ≤ m
    · rw [if_pos (sh.2 c2)]
      refine L0.2 ?_
      rcases hmax with e | ⟨o, ho, eo⟩
      · exact absurd ⟨by omega, c2⟩ c
      · refine ⟨o, by omega, ho, ?_⟩
        have : (μ 20 (5 * o + 1)).toNatClampNeg = hh := by rw [eo, cl_n (by omega)]
        rw [this]
        by_cases e : hh ≤ h
        · exact absurd ⟨e, c2⟩ c
        · omega
    · rw [if_neg (fun q => c2 (sh.1 q))]
theorem m_miss {μ κ : Mem} {h m hh L T k0 k1 : Nat} {A B : List Nat} (H : DTp μ κ h m hh L T k0 k1 A B) (m20 : κ 0 20 = 0) (x : Int32) : ((hh ≤ h ∧ hiB (abm (rw_ A) k0 ||| abm (rw_ B) k1) ≤ m) → fX8_text_J34 x κ = fX8_text_J69 x κ) ∧ (¬ (hh ≤ h ∧ hiB (abm (rw_ A) k0 ||| abm (rw_ B) k1) ≤ m) → fX8_text_J34 x κ = fX8_text_J69 x (wr (wr κ 0 20 6) 0 21 (κ 0 23))) := by
  obtain ⟨hm, hh6, h5, m11, m15, -, -⟩ := H.od
  have h6 := H.hs.1
  have b6 := hi_b6 _ H.hi.1
  have lt := pI_lt _ b6 m (by omega)
  have e63 : fX8_text_J63 x κ = fX8_text_J69 x (wr (wr κ 0 20 6) 0 21 (κ 0 23)) := by
    unfold fX8_text_J63
    rw [m_fail m20, bv_e]
  unfold fX8_text_J34
  rw [if_pos m20, H.hs.2.2.1, m15, ite_ltn (by omega) (by omega), H.hi.2, m11, e63]
  constructor
  · intro ⟨c1, c2⟩
    rw [if_neg (by omega), if_pos (lt.2 c2)]
  · intro c
    by_cases e : h < hh
    · rw [if_pos e]
    · rw [if_neg e, if_neg (fun q => c ⟨by omega, lt.1 q⟩)]
/-! the other orders -/
def othU (b : Nat) : Nat → List Nat
  | 0 => []
  | o + 1 => othU b o ++ (if b.testBit o then [] else [o])
theorem ot_p : ∀ m, m < 6 → ∀ k, k < 6 → ∀ A ∈ sbs k, (2 ^ m ≤ abm (rw_ A) k ∨ A ++ othU (abm (rw_ A) k) m ∈ perms m) := by decide +kernel
theorem ot_5 : ∀ b, b < 32 → ∀ m, m < 6 → ∀ o, o < 6 → (2 ^ m ≤ b ∨ m < o ∨ popc b + (othU b o).length < 5 ∨ othU b m = othU b o) := by decide +kernel
theorem ot_m : ∀ b, b < 32 → ∀ m, m < 6 → ∀ o, o < 6 → (2 ^ m ≤ b ∨ m ≤ o ∨ b.testBit o = true ∨ popc b + (othU b o).length < m) := by decide +kernel
theorem sb_len : ∀ k, k < 6 → ∀ A ∈ sbs k, A.length = k := by decide +kernel
theorem sb_ab : ∀ k, k < 6 → ∀ A ∈ sbs k, ∀ i, i < 6 → (k < i ∨ abm (rw_ A) i < 32) := by decide +kernel
theorem ot_len (b : Nat) : ∀ o, (othU b o).length ≤ o
  | 0 => Nat.le_refl 0
  | o + 1 => by
    have := ot_len b o
    rw [othU, List.length_append]
    split
    · rw [List.length_nil]; omega
    · rw [List.length_singleton]; omega
theorem x_aoY {a k m : Nat} {A : List Nat} (ha : a ≠ 18) (hk : k < 6) (hA : A ∈ sbs k) (hm : m ≤ 5) (hb : abm (rw_ A) k < 2 ^ m) : ∀ (r o fu : Nat) (μ : Mem), o + r = m → r < fu → μ 18 5 = nI m → (∀ i, i < k + (othU (abm (rw_ A) k) o).length → μ a i = nI (rw_ (A ++ othU (abm (rw_ A) k) o) i)) → ∃ ν, fX1_addOthers_L8 a fu (nI (abm (rw_ A) k)) (nI (k + (othU (abm (rw_ A) k) o).length)) (nI o) μ = some ν ∧ (∀ b, b ≠ a → ν b = μ b) ∧ rowX ν a m (A ++ othU (abm (rw_ A) k) m) := by
  have hl := sb_len k hk A hA
  have hP := (ot_p m (by omega) k hk A hA).resolve_left (by omega)
  have hPl := pm_len m (by omega) _ hP
  rw [List.length_append, hl] at hPl
  obtain ⟨g1, g2, -⟩ := sb_ok k hk A hA
  intro r
  induction r with
  | zero =>
    intro o fu μ h1 h2 h5 hr
    obtain ⟨fu, rfl⟩ : ∃ f, fu = f + 1 := ⟨fu - 1, by omega⟩
    have e : o = m := by omega
    subst e
    refine ⟨μ, ?_, fun _ _ => rfl, fun i hi => hr i (by omega)⟩
    rw [fX1_addOthers_L8, h5, if_pos (Int32.le_refl _)]
    rfl
  | succ r ih =>
    intro o fu μ h1 h2 h5 hr
    obtain ⟨fu, rfl⟩ : ∃ f, fu = f + 1 := ⟨fu - 1, by omega⟩
    have hol := ot_len (abm (rw_ A) k) o
    rw [fX1_addOthers_L8, h5, if_neg (by rw [le_nI (by omega) (by omega)]; omega)]
    by_cases e5 : 5 ≤ k + (othU (abm (rw_ A) k) o).length
    · rw [if_pos (by rw [show (5 : Int32) = nI 5 from rfl, le_nI (by omega) (by omega)]; exact e5)]
      refine ⟨μ, rfl, fun _ _ => rfl, fun i hi => ?_⟩
      have q := ot_5 _ g1 m (by omega) o (by omega)
      have e : othU (abm (rw_ A) k) m = othU (abm (rw_ A) k) o := by
        rcases q with q | q | q | q
        · omega
        · omega
        · omega
        · exact q
      rw [e]
      exact hr i (by omega)
    · rw [if_neg (by rw [show (5 : Int32) = nI 5 from rfl, le_nI (by omega) (by omega)]; exact e5)]
      unfold fX1_addOthers_J42
      rw [gr_n (by omega) (by decide), cl_n (by omega), lb_e, lb_e, lb_e, lb_e, nI_s1, nI_s1]
      cases hbt : (abm (rw_ A) k).testBit o with
      | true =>
        have e : othU (abm (rw_ A) k) (o + 1) = othU (abm (rw_ A) k) o := by rw [othU, hbt, if_pos rfl, List.append_nil]
        obtain ⟨ν, q1, q2, q3⟩ := ih (o + 1) fu μ (by omega) (by omega) h5 (by rw [e]; exact hr)
        rw [e] at q1
        rw [if_neg (fun q => by have := (bt_f _ g1 o (by omega)).1 q; rw [hbt] at this; exact absurd this (by decide))]
        exact ⟨ν, q1, q2, q3⟩
      | false =>
        have e : othU (abm (rw_ A) k) (o + 1) = othU (abm (rw_ A) k) o ++ [o] := by rw [othU, hbt, if_neg ff_t]
        have el : k + (othU (abm (rw_ A) k) (o + 1)).length = k + (othU (abm (rw_ A) k) o).length + 1 := by rw [e, List.length_append, List.length_singleton, Nat.add_assoc]
        obtain ⟨ν, q1, q2, q3⟩ := ih (o + 1) fu (wr μ a (k + (othU (abm (rw_ A) k) o).length) (nI o)) (by omega) (by omega) (by rw [wr_f _ _ _ _ ha.symm]; exact h5) (fun i hi => by
          rw [el] at hi
          rw [e, ← List.append_assoc, rw_app1, List.length_append, hl]
          by_cases q : i = k + (othU (abm (rw_ A) k) o).length
          · rw [q, wr_s, if_neg (by omega), if_pos rfl]
          · rw [wr_o (fun c => q c.2), if_pos (by omega)]
            exact hr i (by omega))
        rw [el] at q1
        rw [if_pos ((bt_f _ g1 o (by omega)).2 hbt)]
        exact ⟨ν, q1, fun b hb => by rw [q2 b hb, wr_f _ _ _ _ hb], q3⟩
theorem x_ao {a k m : Nat} {A : List Nat} {μ : Mem} (ha : a ≠ 18) (hk : k < 6) (hA : A ∈ sbs k) (hm : m ≤ 5) (hb : abm (rw_ A) k < 2 ^ m) (h5 : μ 18 5 = nI m) (hr : ∀ i, i < k → μ a i = nI (rw_ A i)) : ∃ ν, fX1_addOthers a (nI (abm (rw_ A) k)) μ = some ν ∧ (∀ b, b ≠ a → ν b = μ b) ∧ rowX ν a m (A ++ othU (abm (rw_ A) k) m) := by
  obtain ⟨f, hf⟩ := FU_s 100 (by decide)
  obtain ⟨g1, g2, -⟩ := sb_ok k hk A hA
  obtain ⟨ν, q1, q2, q3⟩ := x_aoY ha hk hA hm hb m 0 FU μ (by omega) (by omega) h5 (fun i hi => by
    rw [othU, List.append_nil]
    exact hr i hi)
  have q1 : fX1_addOthers_L8 a FU (nI (abm (rw_ A) k)) (nI k) 0 μ = _ := q1
  unfold fX1_addOthers
  rw [bc_ok _ g1, bi_e, lb_e, g2, q1]
  exact ⟨ν, rfl, q2, q3⟩
/-! the reference's rows -/
theorem m_lr7 {k m at_ : Nat} {A : List Nat} (hk : k < 6) (hA : A ∈ sbs k) (hm : m ≤ 5) (hat : at_ + 5 ≤ 32) (hb : abm (rw_ A) k < 2 ^ m) : ∀ (r o fu : Nat) (κ : Mem), o + r = m → r < fu → κ 0 11 = nI m → (∀ i, i < k + (othU (abm (rw_ A) k) o).length → κ 5 (at_ + i) = nI (rw_ (A ++ othU (abm (rw_ A) k) o) i) - nI i) → ∃ ξ, fX8_laysRow_L70 fu (nI at_) (nI (abm (rw_ A) k)) (nI (k + (othU (abm (rw_ A) k) o).length)) (nI o) κ = some ξ ∧ (∀ b, b ≠ 5 → ξ b = κ b) ∧ (∀ j, (j < at_ ∨ at_ + 5 ≤ j) → ξ 5 j = κ 5 j) ∧ (∀ i, i < m → ξ 5 (at_ + i) = nI (rw_ (A ++ othU (abm (rw_ A) k) m) i) - nI i) := by
  have hl := sb_len k hk A hA
  have hP := (ot_p m (by omega) k hk A hA).resolve_left (by omega)
  have hPl := pm_len m (by omega) _ hP
  rw [List.length_append, hl] at hPl
  obtain ⟨g1, g2, -⟩ := sb_ok k hk A hA
  intro r
  induction r with
  | zero =>
    intro o fu κ h1 h2 h5 hr
    obtain ⟨fu, rfl⟩ : ∃ f, fu = f + 1 := ⟨fu - 1, by omega⟩
    have e : o = m := by omega
    subst e
    refine ⟨κ, ?_, fun _ _ => rfl, fun _ _ => rfl, fun i hi => hr i (by omega)⟩
    rw [fX8_laysRow_L70, h5, if_pos (Int32.le_refl _)]
  | succ r ih =>
    intro o fu κ h1 h2 h5 hr
    obtain ⟨fu, rfl⟩ : ∃ f, fu = f + 1 := ⟨fu - 1, by omega⟩
    have hol := ot_len (abm (rw_ A) k) o
    rw [fX8_laysRow_L70, h5, if_neg (by rw [le_nI (by omega) (by omega)]; omega)]
    unfold fX8_laysRow_J105
    cases hbt : (abm (rw_ A) k).testBit o with
    | true =>
      have e : othU (abm (rw_ A) k) (o + 1) = othU (abm (rw_ A) k) o := by rw [othU, hbt, if_pos rfl, List.append_nil]
      obtain ⟨ξ, q1, q2⟩ := ih (o + 1) fu κ (by omega) (by omega) h5 (by rw [e]; exact hr)
      rw [e] at q1
      rw [if_neg (fun q => by have := (bt_f _ g1 o (by omega)).1 q; rw [hbt] at this; exact absurd this (by decide)), lb_e, nI_s1]
      exact ⟨ξ, q1, q2⟩
    | false =>
      have hlt : k + (othU (abm (rw_ A) k) o).length < m := by
        rcases ot_m _ g1 m (by omega) o (by omega) with q | q | q | q
        · omega
        · omega
        · rw [hbt] at q; exact absurd q (by decide)
        · omega
      have e : othU (abm (rw_ A) k) (o + 1) = othU (abm (rw_ A) k) o ++ [o] := by rw [othU, hbt, if_neg ff_t]
      have el : k + (othU (abm (rw_ A) k) (o + 1)).length = k + (othU (abm (rw_ A) k) o).length + 1 := by rw [e, List.length_append, List.length_singleton, Nat.add_assoc]
      obtain ⟨ξ, q1, q2, q3, q4⟩ := ih (o + 1) fu (wr κ 5 (at_ + (k + (othU (abm (rw_ A) k) o).length)) (nI o - nI (k + (othU (abm (rw_ A) k) o).length))) (by omega) (by omega) (by rw [wr_f _ _ _ _ (by decide)]; exact h5) (fun i hi => by
        rw [el] at hi
        rw [e, ← List.append_assoc, rw_app1, List.length_append, hl]
        by_cases q : i = k + (othU (abm (rw_ A) k) o).length
        · rw [q, wr_s, if_neg (by omega), if_pos rfl]
        · rw [wr_o (fun c => q (by omega)), if_pos (by omega)]
          exact hr i (by omega))
      rw [el] at q1
      rw [if_pos ((bt_f _ g1 o (by omega)).2 hbt), nI_add, gr_n (by omega) (by decide), cl_n (by omega), lb_e, lb_e, lb_e, nI_s1, nI_s1]
      exact ⟨ξ, q1, fun b hb => by rw [q2 b hb, wr_f _ _ _ _ hb], fun j hj => by rw [q3 j hj, wr_o (by omega)], q4⟩
theorem m_lr8 {k m at_ rr : Nat} {A : List Nat} (hr2 : rr < 2) (hk : k < 6) (hA : A ∈ sbs k) (hat : at_ + 5 ≤ 32) : ∀ (r i fu : Nat) (κ : Mem), i + r = k → r < fu → κ 10 rr = nI k → (∀ j, j < k → κ 9 (5 * rr + j) = nI (rw_ A j)) → (∀ j, j < i → κ 5 (at_ + j) = nI (rw_ A j) - nI j) → ∃ ξ, fX8_laysRow_L8 fu (nI rr) (nI at_) (nI (abm (rw_ A) i)) (nI i) (nI i) κ = fX8_laysRow_L70 FU (nI at_) (nI (abm (rw_ A) k)) (nI k) 0 ξ ∧ (∀ b, b ≠ 5 → ξ b = κ b) ∧ (∀ j, (j < at_ ∨ at_ + 5 ≤ j) → ξ 5 j = κ 5 j) ∧ (∀ j, j < k → ξ 5 (at_ + j) = nI (rw_ A j) - nI j) := by
  intro r
  induction r with
  | zero =>
    intro i fu κ h1 h2 h10 h9 hr
    obtain ⟨fu, rfl⟩ : ∃ f, fu = f + 1 := ⟨fu - 1, by omega⟩
    have e : i = k := by omega
    subst e
    refine ⟨κ, ?_, fun _ _ => rfl, fun _ _ => rfl, hr⟩
    rw [fX8_laysRow_L8, gr_n hr2 (by decide), cl_n (by omega), h10, if_pos (Int32.le_refl _), lb_e]
  | succ r ih =>
    intro i fu κ h1 h2 h10 h9 hr
    obtain ⟨fu, rfl⟩ : ∃ f, fu = f + 1 := ⟨fu - 1, by omega⟩
    obtain ⟨g1, g2, g3⟩ := sb_ok k hk A hA
    have gi := (sb_ab k hk A hA i (by omega)).resolve_left (by omega)
    have hAi := g3 i (by omega)
    have hor := (bt_or _ gi _ hAi).1
    have e5 : (5 : Int32) * nI rr + nI i = nI (5 * rr + i) := by rw [show (5 : Int32) = nI 5 from rfl, pk_mul, nI_add]
    obtain ⟨ξ, q1, q2, q3, q4⟩ := ih (i + 1) fu (wr κ 5 (at_ + i) (nI (rw_ A i) - nI i)) (by omega) (by omega) (by rw [wr_f _ _ _ _ (by decide)]; exact h10) (fun j hj => by rw [wr_f _ _ _ _ (by decide)]; exact h9 j hj) (fun j hj => by
      by_cases e : j = i
      · rw [e, wr_s]
      · rw [wr_o (fun q => e (by omega))]
        exact hr j (by omega))
    refine ⟨ξ, ?_, fun b hb => by rw [q2 b hb, wr_f _ _ _ _ hb], fun j hj => by rw [q3 j hj, wr_o (by omega)], q4⟩
    rw [fX8_laysRow_L8, gr_n hr2 (by decide), cl_n (by omega), h10, if_neg (by rw [le_nI (by omega) (by omega)]; omega), e5, gr_n (by omega) (by decide), nI_add, gr_n (by omega) (by decide), cl_n (by omega), cl_n (by omega), h9 i (by omega), lb_e, gr_n (by omega) (by decide), wr_f _ _ _ _ (show 9 ≠ 5 by decide), h9 i (by omega), hor, lb_e, nI_s1, lb_e, lb_e]
    exact q1
theorem m_lr {k m at_ rr : Nat} {A : List Nat} {κ : Mem} (hr2 : rr < 2) (hk : k < 6) (hA : A ∈ sbs k) (hm : m ≤ 5) (hat : at_ + 5 ≤ 32) (hb : abm (rw_ A) k < 2 ^ m) (h11 : κ 0 11 = nI m) (h10 : κ 10 rr = nI k) (h9 : ∀ j, j < k → κ 9 (5 * rr + j) = nI (rw_ A j)) : ∃ ξ, fX8_laysRow (nI rr) (nI at_) κ = some ξ ∧ (∀ b, b ≠ 5 → ξ b = κ b) ∧ (∀ j, (j < at_ ∨ at_ + 5 ≤ j) → ξ 5 j = κ 5 j) ∧ (∀ i, i < m → ξ 5 (at_ + i) = nI (rw_ (A ++ othU (abm (rw_ A) k) m) i) - nI i) := by
  obtain ⟨f, hf⟩ := FU_s 100 (by decide)
  obtain ⟨k1, a1, a2, a3, a4⟩ := m_lr8 (m := m) hr2 hk hA hat k 0 FU κ (by omega) (by omega) h10 h9 (fun j hj => absurd hj (by omega))
  have a1 : fX8_laysRow_L8 FU (nI rr) (nI at_) 0 0 0 κ = _ := a1
  obtain ⟨ξ, b1, b2, b3, b4⟩ := m_lr7 hk hA hm hat hb m 0 FU k1 (by omega) (by omega) (by rw [a2 0 (by decide)]; exact h11) (fun i hi => by
    rw [othU, List.append_nil]
    exact a4 i hi)
  have b1 : fX8_laysRow_L70 FU (nI at_) (nI (abm (rw_ A) k)) (nI k) 0 k1 = _ := b1
  unfold fX8_laysRow
  rw [lb_e, lb_e, lb_e, a1, b1]
  exact ⟨ξ, rfl, fun b hb => by rw [b2 b hb, a2 b hb], fun j hj => by rw [b3 j hj, a3 j hj], b4⟩
