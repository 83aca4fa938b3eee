/-! ===== one round: what both find ===== -/
theorem ld_ok : ∀ n, n < 6 → ∀ P ∈ perms n, ∀ s, s < 2 ^ n → ((∀ i, i < (csl n P s).length → (abF P s (rw_ (csl n P s) i) = abm (rw_ (csl n P s)) i ∧ rab (rw_ P) s (P.idxOf (rw_ (csl n P s) i)) = if i = 0 then none else some (rw_ (csl n P s) (i - 1)))) ∧ ∀ o, o < n → s.testBit o = true → ∃ i, i < (csl n P s).length ∧ rw_ (csl n P s) i = o) := by decide +kernel
theorem ex_mask (p : Nat → Prop) : ∀ k, k ≤ 5 → ∃ m, m < 32 ∧ ∀ o, o < 5 → (m.testBit o = true ↔ (o < k ∧ p o))
  | 0, _ => ⟨0, by decide, fun o _ => by simp⟩
  | k + 1, hk => by
    obtain ⟨m, h1, h2⟩ := ex_mask p k (by omega)
    by_cases e : p k
    · refine ⟨m ||| 2 ^ k, (bt_or m h1 k (by omega)).2, fun o ho => ?_⟩
      rw [or_tb m h1 k (by omega) o ho, Bool.or_eq_true, h2 o ho, decide_eq_true_eq]
      constructor
      · rintro (⟨a, b⟩ | rfl)
        · exact ⟨by omega, b⟩
        · exact ⟨by omega, e⟩
      · rintro ⟨a, b⟩
        rcases Nat.lt_or_ge o k with q | q
        · exact Or.inl ⟨q, b⟩
        · exact Or.inr (by omega)
    · refine ⟨m, h1, fun o ho => ?_⟩
      rw [h2 o ho]
      constructor
      · rintro ⟨a, b⟩; exact ⟨by omega, b⟩
      · rintro ⟨a, b⟩
        refine ⟨?_, b⟩
        rcases Nat.lt_or_ge o k with q | q
        · exact q
        · exact absurd (by rw [show k = o by omega]; exact b) e
theorem crM_ex (D : Nat → Nat → Int32) (n : Nat) (P : List Nat) (s : Nat) : ∃ cm, cm < 32 ∧ ∀ o, o < 5 → (cm.testBit o = true ↔ (o < 5 ∧ ((∃ q, rab (rw_ P) s (P.idxOf o) = some q ∧ D 0 q = 4) ∨ (D 0 o = 1 ∧ 5 < bsum (D 2) (abF P s o) n)))) := ex_mask _ 5 (Nat.le_refl _)
noncomputable def cmF (D : Nat → Nat → Int32) (n : Nat) (P : List Nat) (s : Nat) : Nat := Classical.choose (crM_ex D n P s)
theorem cmF_M (D : Nat → Nat → Int32) {n : Nat} (h5 : n ≤ 5) (P : List Nat) (s : Nat) : crM D n P s (cmF D n P s) := by
  obtain ⟨h1, h2⟩ := Classical.choose_spec (crM_ex D n P s)
  exact ⟨h1, fun o ho _ => by rw [show cmF D n P s = Classical.choose (crM_ex D n P s) from rfl, h2 o (by omega)]; exact ⟨fun h => h.2, fun h => ⟨by omega, h⟩⟩⟩
theorem crM_X {D : Nat → Nat → Int32} {n s cm : Nat} {P : List Nat} (h5 : n ≤ 5) (hP : P ∈ perms n) (hs : s < 2 ^ n) (h : crM D n P s cm) : crOk D n (rw_ (csl n P s)) (csl n P s).length cm := by
  have hc := cl_of h5 hP hs
  refine ⟨h.1, fun i hi => ?_⟩
  obtain ⟨e1, e2⟩ := (ld_ok n (by omega) P hP s hs).1 i hi
  obtain ⟨g1, g2, -⟩ := hc.2.2.2.2 i hi
  rw [h.2 _ g1 (tb_sub (n := n) _ g2), e1, e2]
  constructor
  · rintro (⟨q, h1, h2⟩ | h1)
    · left
      by_cases e : i = 0
      · rw [if_pos e] at h1; cases h1
      · rw [if_neg e] at h1
        cases h1
        exact ⟨by omega, h2⟩
    · exact Or.inr h1
  · rintro (⟨h1, h2⟩ | h1)
    · left
      rw [if_neg (by omega)]
      exact ⟨_, rfl, h2⟩
    · exact Or.inr h1
/-! the row of times that was there before does not matter -/
theorem kq_i (D : Nat → Nat → Int32) (st : Int32) (b : Nat → Int32) (ab c : Nat → Nat) (s : Nat) (tm tn : Nat → Int32) : ∀ i, (kq D st b ab c s tm i).1 = (kq D st b ab c s tn i).1 ∧ (kq D st b ab c s tm i).2.2 = (kq D st b ab c s tn i).2.2
  | 0 => ⟨rfl, rfl⟩
  | i + 1 => by
    obtain ⟨h1, h2⟩ := kq_i D st b ab c s tm tn i
    rw [kq, kq]
    dsimp only
    rw [h1, h2]
    exact ⟨rfl, rfl⟩
theorem kq_t {D : Nat → Nat → Int32} {st : Int32} {b : Nat → Int32} {ab c : Nat → Nat} {n s k : Nat} (h : clOk n c s k) (tm tn : Nat → Int32) {j : Nat} (hj : j < k) : ∀ i, i ≤ k → j < i → (kq D st b ab c s tm i).2.1 (c j) = (kq D st b ab c s tn i).2.1 (c j)
  | 0, _, h0 => absurd h0 (Nat.not_lt_zero j)
  | i + 1, hi, h1 => by
    obtain ⟨e1, e2⟩ := kq_i D st b ab c s tm tn i
    rw [kq, kq]
    dsimp only
    rw [e1]
    unfold upd
    by_cases e : j = i
    · rw [e, if_pos rfl, if_pos rfl]
    · rw [if_neg (cl_ne h hj (by omega) e), if_neg (cl_ne h hj (by omega) e)]
      exact kq_t h tm tn hj i (by omega) (by omega)
/-! the round's numbers -/
def tQ (D : Nat → Nat → Int32) (hs : Nat → Nat) (n : Nat) (ps st : Int32) (P R : List Nat) (s : Nat) : KS := kq D st (bareV D hs n ps st (rw_ (csl n R s)) s) (abF P s) (rw_ (csl n R s)) s (fun _ => 0) (csl n R s).length
def tG (D : Nat → Nat → Int32) (hs : Nat → Nat) (n : Nat) (ps : Int32) (R : List Nat) (s : Nat) : Int32 := goneV D hs n ps (rw_ (csl n R s)) s (csl n R s).length
def tR (D : Nat → Nat → Int32) (hs : Nat → Nat) (n : Nat) (ps : Int32) (R : List Nat) (s : Nat) : Int32 := (jq D hs n ps (rw_ (csl n R s)) s (csl n R s).length).2.2.2
def tH (D : Nat → Nat → Int32) (hs : Nat → Nat) (n : Nat) (ps st : Int32) (P R : List Nat) (s : Nat) : Int32 := ((st + tG D hs n ps R s) + tR D hs n ps R s) + (tQ D hs n ps st P R s).1
noncomputable def tS (D : Nat → Nat → Int32) (hs : Nat → Nat) (n : Nat) (ps st : Int32) (P R : List Nat) (s : Nat) : Nat := (s &&& cmF D n P s) ||| (tQ D hs n ps st P R s).2.2.1
noncomputable def tP (D : Nat → Nat → Int32) (hs : Nat → Nat) (n : Nat) (ps st : Int32) (P R : List Nat) (s : Nat) : Int32 := bsum (D 3) (mcl (mcl s (tS D hs n ps st P R s)) (tQ D hs n ps st P R s).2.2.2) n
theorem tS_lt {D : Nat → Nat → Int32} {hs : Nat → Nat} {n s : Nat} {ps st : Int32} {P R : List Nat} (h5 : n ≤ 5) (hR : R ∈ perms n) (hs2 : s < 2 ^ n) : tS D hs n ps st P R s < 32 ∧ (tQ D hs n ps st P R s).2.2.2 < 32 ∧ (tQ D hs n ps st P R s).2.2.1 < 32 := by
  obtain ⟨h1, h2⟩ := kq_lt (D := D) (st := st) (b := bareV D hs n ps st (rw_ (csl n R s)) s) (ab := abF P s) (tm := fun _ => 0) (cl_of h5 hR hs2) (csl n R s).length (Nat.le_refl _)
  have hp := pow5 n (by omega)
  exact ⟨(bt_orm _ (bt_an s (by omega) _ (cmF_M D h5 P s).1).2 _ h1).2, h2, h1⟩
/-- the class's shop, whole -/
def shpX (μ : Mem) (n H : Nat) (D : Nat → Nat → Int32) (hs : Nat → Nat) (P R : List Nat) (ps st : Int32) : Prop := datX μ 3 n D ∧ roaX μ 3 H D ∧ rowX μ 6 n P ∧ rowX μ 7 n R ∧ μ 3 6 = ps ∧ μ 3 7 = st
theorem shpX_f {μ ν : Mem} {n H : Nat} {D : Nat → Nat → Int32} {hs : Nat → Nat} {P R : List Nat} {ps st : Int32} (h : shpX μ n H D hs P R ps st) (hb : ∀ b, b < 24 → ν b = μ b) : shpX ν n H D hs P R ps st := ⟨datX_f (hb 3 (by decide)) (hb 5 (by decide)) h.1, roaX_f (hb 3 (by decide)) (hb 4 (by decide)) h.2.1, fun i hi => by rw [hb 6 (by decide)]; exact h.2.2.1 i hi, fun i hi => by rw [hb 7 (by decide)]; exact h.2.2.2.1 i hi, by rw [hb 3 (by decide)]; exact h.2.2.2.2.1, by rw [hb 3 (by decide)]; exact h.2.2.2.2.2⟩
/-- fixed facts of the data -/
def fixO (n H : Nat) (D : Nat → Nat → Int32) (hs : Nat → Nat) (P R : List Nat) : Prop := n ≤ 5 ∧ hsOk n H D hs ∧ P ∈ perms n ∧ R ∈ perms n
/-- the trip's numbers stand in the memory -/
def resX (ν : Mem) (D : Nat → Nat → Int32) (hs : Nat → Nat) (n : Nat) (ps st : Int32) (P R : List Nat) (s : Nat) : Prop := ν 24 10 = tG D hs n ps R s ∧ ν 24 11 = tR D hs n ps R s ∧ ν 24 12 = (tQ D hs n ps st P R s).1 ∧ ν 24 13 = tH D hs n ps st P R s ∧ ν 24 14 = nI (tS D hs n ps st P R s) ∧ ν 24 15 = nI (tQ D hs n ps st P R s).2.2.2 ∧ ν 24 16 = tP D hs n ps st P R s ∧ ∀ o, o < n → s.testBit o = true → ν 29 o = (tQ D hs n ps st P R s).2.1 o
/-- stow() and finish(), behind ride(): any load P, any calls R -/
theorem x_stfin {μ : Mem} {n H s : Nat} {D : Nat → Nat → Int32} {hs : Nat → Nat} {ps st : Int32} {P R : List Nat} (hf : fixO n H D hs P R) (hs2 : s < 2 ^ n) (hd : datX μ 3 n D) (ht : trpX μ (csl n R s).length (csl n R s) (csl n P s) ps st) (h10 : μ 24 10 = tG D hs n ps R s) (h11 : μ 24 11 = tR D hs n ps R s) (h27 : ∀ i, i < (csl n R s).length → μ 27 i = bareV D hs n ps st (rw_ (csl n R s)) s i) : ∃ m1 ν, fX6_stow μ = some m1 ∧ fX6_finish m1 = some ν ∧ (∀ b, b ≠ 24 → b ≠ 28 → b ≠ 29 → ν b = μ b) ∧ (∀ j, j < 9 → ν 24 j = μ 24 j) ∧ resX ν D hs n ps st P R s := by
  obtain ⟨h5, hh, hP, hR⟩ := hf
  obtain ⟨t1, t2, t3, t4, t5⟩ := ht
  have hcR := cl_of h5 hR hs2
  have hcP := cl_of h5 hP hs2
  have hlen := cs_len n (by omega) R hR P hP s hs2
  have hcm := cmF_M D h5 P s
  have hp := pow5 n (by omega)
  obtain ⟨m1, s1, s2, s3, s4, s5⟩ := x_stow (c := rw_ (csl n P s)) (k := (csl n P s).length) hd (by rw [hlen]; exact t1) (fun j hj => t5 j (by omega)) hcP (crM_X h5 hP hs2 hcm)
  have hmask := (bt_an s (by omega) _ hcm.1).2
  obtain ⟨ν, f1, f2, f3, f4, f5, f6, f7, f8, f9⟩ := x_fin (μ := m1) (D := D) (st := st) (b := bareV D hs n ps st (rw_ (csl n R s)) s) (ab := abF P s) (c := rw_ (csl n R s)) (c0 := s &&& cmF D n P s) hcR hmask (fun i hi => (bt_an s (by omega) _ (by
      have := (pm_idx n (by omega) P hP _ (hcR.2.2.2.2 i hi).1).1
      exact abP_lt h5 hP _ (Nat.le_of_lt this))).2) (datX_f (s2 3 (by decide) (by decide)) (s2 5 (by decide) (by decide)) hd) (by rw [s3 6 (by decide)]; exact t1) (by rw [s3 8 (by decide)]; exact t3) (fun j hj => by rw [s2 25 (by decide) (by decide)]; exact t4 j hj) (fun j hj => by rw [s2 27 (by decide) (by decide)]; exact h27 j hj) (fun j hj => by
      obtain ⟨g1, g2, -⟩ := hcR.2.2.2.2 j hj
      obtain ⟨i, hi, e⟩ := (ld_ok n (by omega) P hP s hs2).2 _ g1 (tb_sub (n := n) _ g2)
      rw [← e, s5 i hi, ((ld_ok n (by omega) P hP s hs2).1 i hi).1]) s4
  obtain ⟨i1, i2⟩ := kq_i D st (bareV D hs n ps st (rw_ (csl n R s)) s) (abF P s) (rw_ (csl n R s)) s (m1 29) (fun _ => 0) (csl n R s).length
  refine ⟨m1, ν, s1, f1, fun b b1 b2 b3 => by rw [f2 b b1 b3, s2 b b1 b2], fun j hj => by rw [f3 j (by omega) (by omega) (by omega) (by omega) (by omega), s3 j (by omega)], ?_, ?_, ?_, ?_, ?_, ?_, ?_, fun o ho hb => ?_⟩
  · rw [f3 10 (by decide) (by decide) (by decide) (by decide) (by decide), s3 10 (by decide)]; exact h10
  · rw [f3 11 (by decide) (by decide) (by decide) (by decide) (by decide), s3 11 (by decide)]; exact h11
  · rw [f4, i1]; rfl
  · rw [f5, i1, s3 10 (by decide), s3 11 (by decide), h10, h11]; rfl
  · rw [f6, i2]; rfl
  · rw [f7, i2]; rfl
  · rw [f8, i2]; rfl
  · obtain ⟨i, hi, e⟩ := (ld_ok n (by omega) R hR s hs2).2 o ho hb
    rw [f9, ← e]
    exact kq_t hcR _ _ hi _ (Nat.le_refl _) hi
theorem x_goSome {μ : Mem} {n H s : Nat} {D : Nat → Nat → Int32} {hs : Nat → Nat} {ps st0 : Int32} {P R : List Nat} (st : Int32) (hf : fixO n H D hs P R) (hx : shpX μ n H D hs P R ps st0) (hs2 : s < 2 ^ n) : ∃ ν, fX7_goSome (nI s) st μ = some (tP D hs n ps st P R s, ν) ∧ (∀ b, b < 24 ∨ 29 < b → ν b = μ b) ∧ resX ν D hs n ps st P R s ∧ trpX ν (csl n R s).length (csl n R s) (csl n P s) ps st := by
  obtain ⟨h5, hh, hP, hR⟩ := id hf
  obtain ⟨hd, hr, hp, hrr, hps, hst⟩ := hx
  obtain ⟨m1, a1, a2, a3, a4⟩ := x_take st hd.1 h5 hrr hp hR hP hs2
  rw [hps] at a4
  have hc := cl_of h5 hR hs2
  obtain ⟨m2, b1, b2, b3, b4, b5, b6⟩ := x_ride (D := D) (datX_f (a2 3 (by decide) (by decide) (by decide)) (a2 5 (by decide) (by decide) (by decide)) hd) (roaX_f (a2 3 (by decide) (by decide) (by decide)) (a2 4 (by decide) (by decide) (by decide)) hr) hh a4 hc
  have t2 : trpX m2 (csl n R s).length (csl n R s) (csl n P s) ps st := ⟨by rw [b3 6 (by decide) (by decide)]; exact a4.1, by rw [b3 7 (by decide) (by decide)]; exact a4.2.1, by rw [b3 8 (by decide) (by decide)]; exact a4.2.2.1, fun i hi => by rw [b2 25 (by decide) (by decide)]; exact a4.2.2.2.1 i hi, fun i hi => by rw [b2 26 (by decide) (by decide)]; exact a4.2.2.2.2 i hi⟩
  obtain ⟨m3, ν, c1, c2, c3, c4, c5⟩ := x_stfin (μ := m2) hf hs2 (datX_f (by rw [b2 3 (by decide) (by decide), a2 3 (by decide) (by decide) (by decide)]) (by rw [b2 5 (by decide) (by decide), a2 5 (by decide) (by decide) (by decide)]) hd) t2 b4 b5 b6
  refine ⟨ν, ?_, fun b hb => by rw [c3 b (by omega) (by omega) (by omega), b2 b (by omega) (by omega), a2 b (by omega) (by omega) (by omega)], c5, ⟨by rw [c4 6 (by decide)]; exact t2.1, by rw [c4 7 (by decide)]; exact t2.2.1, by rw [c4 8 (by decide)]; exact t2.2.2.1, fun i hi => by rw [c3 25 (by decide) (by decide) (by decide)]; exact t2.2.2.2.1 i hi, fun i hi => by rw [c3 26 (by decide) (by decide) (by decide)]; exact t2.2.2.2.2 i hi⟩⟩
  unfold fX7_goSome
  rw [a1, bv_e, b1, bv_e, c1, bv_e, c2, bv_e, c5.2.2.2.2.2.2.1]
/-- the reference's walk, from any numbers -/
def resM (κ ξ : Mem) (D : Nat → Nat → Int32) (hs : Nat → Nat) (n : Nat) (ps st : Int32) (P R : List Nat) (s sp0 lt0 : Nat) : Prop := (∀ b, b ≠ 0 → b ≠ 14 → ξ b = κ b) ∧ (∀ j, j ≠ 29 → j ≠ 30 → j ≠ 31 → j ≠ 32 → j ≠ 33 → ξ 0 j = κ 0 j) ∧ ξ 0 29 = κ 0 29 + (tQ D hs n ps st P R s).1 ∧ ξ 0 30 = κ 0 30 + tG D hs n ps R s ∧ ξ 0 31 = κ 0 31 + tR D hs n ps R s ∧ ξ 0 32 = nI (sp0 ||| tS D hs n ps st P R s) ∧ ξ 0 33 = nI (lt0 ||| (tQ D hs n ps st P R s).2.2.2) ∧ ∀ o, o < n → s.testBit o = true → ξ 14 o = (tQ D hs n ps st P R s).2.1 o
theorem m_goes {κ : Mem} {n H s sp0 lt0 : Nat} {D : Nat → Nat → Int32} {hs : Nat → Nat} {ps : Int32} {P R : List Nat} (st : Int32) (hf : fixO n H D hs P R) (hw : wlkM κ n H D P R ps) (hs2 : s < 2 ^ n) (hsp : sp0 < 32) (hlt : lt0 < 32) (h32 : κ 0 32 = nI sp0) (h33 : κ 0 33 = nI lt0) : ∃ ξ, fX8_goes (nI s) st κ = some (tH D hs n ps st P R s, ξ) ∧ resM κ ξ D hs n ps st P R s sp0 lt0 := by
  obtain ⟨h5, hh, hP, hR⟩ := hf
  have hcR := cl_of h5 hR hs2
  obtain ⟨ξ, k1, k2, k3, k4, k5, k6, k7, k8, k9⟩ := m_goL (st := st) (u0 := κ 0 29) (g0 := κ 0 30) (d0 := κ 0 31) (tm := κ 14) hh h5 hP hR hs2 (cmF_M D h5 P s) hsp hlt n 0 FU κ (by omega) (by show n < 4000; omega) hw ⟨(Int32.add_zero _).symm, (Int32.add_zero _).symm, (Int32.add_zero _).symm, by
    show κ 0 32 = nI (sp0 ||| ((0 &&& _) ||| 0)); rw [Nat.zero_and, Nat.or_zero, Nat.or_zero]; exact h32, by show κ 0 33 = nI (lt0 ||| 0); rw [Nat.or_zero]; exact h33, rfl⟩
  obtain ⟨i1, i2⟩ := kq_i D st (bareV D hs n ps st (rw_ (csl n R s)) s) (abF P s) (rw_ (csl n R s)) s (κ 14) (fun _ => 0) (csl n R s).length
  refine ⟨ξ, ?_, k2, k3, ?_, k5, k6, ?_, ?_, fun o ho hb => ?_⟩
  · unfold fX8_goes
    rw [lb_e, lb_e]
    have k1 : fX8_goes_L11 FU (nI s) st (((st + 0) + 0) + 0) (nI s) 0 0 κ = _ := k1
    rw [Int32.add_zero, Int32.add_zero, Int32.add_zero] at k1
    rw [k1, i1]
    rfl
  · rw [k4, i1]; rfl
  · rw [k7, i2]; rfl
  · rw [k8, i2]; rfl
  · obtain ⟨i, hi, e⟩ := (ld_ok n (by omega) R hR s hs2).2 o ho hb
    rw [k9, ← e]
    exact kq_t hcR _ _ hi _ (Nat.le_refl _) hi
theorem m_clear (κ : Mem) : ∃ ξ, fX8_clears κ = some ξ ∧ (∀ b, b ≠ 0 → ξ b = κ b) ∧ (∀ j, j ≠ 29 → j ≠ 30 → j ≠ 31 → j ≠ 32 → j ≠ 33 → ξ 0 j = κ 0 j) ∧ ξ 0 29 = 0 ∧ ξ 0 30 = 0 ∧ ξ 0 31 = 0 ∧ ξ 0 32 = 0 ∧ ξ 0 33 = 0 := by
  refine ⟨wr (wr (wr (wr (wr κ 0 29 0) 0 30 0) 0 31 0) 0 32 0) 0 33 0, rfl, fun b hb => by rw [wr_f _ _ _ _ hb, wr_f _ _ _ _ hb, wr_f _ _ _ _ hb, wr_f _ _ _ _ hb, wr_f _ _ _ _ hb], fun j j1 j2 j3 j4 j5 => by rw [wr_o (fun q => j5 q.2), wr_o (fun q => j4 q.2), wr_o (fun q => j3 q.2), wr_o (fun q => j2 q.2), wr_o (fun q => j1 q.2)], ?_, ?_, ?_, ?_, wr_s _ _ _ _⟩
  · rw [wr_o (by omega), wr_o (by omega), wr_o (by omega), wr_o (by omega), wr_s]
  · rw [wr_o (by omega), wr_o (by omega), wr_o (by omega), wr_s]
  · rw [wr_o (by omega), wr_o (by omega), wr_s]
  · rw [wr_o (by omega), wr_s]
/-- one round from cleared numbers -/
def resN (κ ξ : Mem) (D : Nat → Nat → Int32) (hs : Nat → Nat) (n : Nat) (ps st : Int32) (P R : List Nat) (s : Nat) : Prop := (∀ b, b ≠ 0 → b ≠ 14 → ξ b = κ b) ∧ (∀ j, j ≠ 29 → j ≠ 30 → j ≠ 31 → j ≠ 32 → j ≠ 33 → ξ 0 j = κ 0 j) ∧ ξ 0 29 = (tQ D hs n ps st P R s).1 ∧ ξ 0 30 = tG D hs n ps R s ∧ ξ 0 31 = tR D hs n ps R s ∧ ξ 0 32 = nI (tS D hs n ps st P R s) ∧ ξ 0 33 = nI (tQ D hs n ps st P R s).2.2.2 ∧ ∀ o, o < n → s.testBit o = true → ξ 14 o = (tQ D hs n ps st P R s).2.1 o
theorem m_clgo {κ : Mem} {n H s : Nat} {D : Nat → Nat → Int32} {hs : Nat → Nat} {ps : Int32} {P R : List Nat} (st : Int32) (hf : fixO n H D hs P R) (hw : wlkM κ n H D P R ps) (hs2 : s < 2 ^ n) : ∃ ξ0 ξ, fX8_clears κ = some ξ0 ∧ (∀ b, b ≠ 0 → ξ0 b = κ b) ∧ ξ0 0 5 = κ 0 5 ∧ wlkM ξ0 n H D P R ps ∧ fX8_goes (nI s) st ξ0 = some (tH D hs n ps st P R s, ξ) ∧ resN κ ξ D hs n ps st P R s := by
  obtain ⟨ξ0, a1, a2, a3, a4, a5, a6, a7, a8⟩ := m_clear κ
  have hw0 : wlkM ξ0 n H D P R ps := wlkM_f hw (fun b b1 _ => a2 b b1) (a3 3 (by decide) (by decide) (by decide) (by decide) (by decide)) (a3 5 (by decide) (by decide) (by decide) (by decide) (by decide))
  obtain ⟨ξ, b1, b2, b3, b4, b5, b6, b7, b8, b9⟩ := m_goes (κ := ξ0) (sp0 := 0) (lt0 := 0) st hf hw0 hs2 (by decide) (by decide) a7 a8
  refine ⟨ξ0, ξ, a1, a2, a3 5 (by decide) (by decide) (by decide) (by decide) (by decide), hw0, b1, fun b c1 c2 => by rw [b2 b c1 c2, a2 b c1], fun j j1 j2 j3 j4 j5 => by rw [b3 j j1 j2 j3 j4 j5, a3 j j1 j2 j3 j4 j5], by rw [b4, a4, Int32.zero_add], by rw [b5, a5, Int32.zero_add], by rw [b6, a6, Int32.zero_add], by rw [b7, Nat.zero_or], by rw [b8, Nat.zero_or], b9⟩
theorem m_whole {κ : Mem} {n H : Nat} {D : Nat → Nat → Int32} {hs : Nat → Nat} {ps st : Int32} {P R : List Nat} (hf : fixO n H D hs P R) (hw : wlkM κ n H D P R ps) (hst : κ 1 31 = st) : ∃ ξ, fX8_wholeRound κ = some (tH D hs n ps st P R (2 ^ n - 1), ξ) ∧ resN κ ξ D hs n ps st P R (2 ^ n - 1) := by
  have h5 := hf.1
  have hp := pow5 n (by omega)
  obtain ⟨ξ0, ξ, a1, a2, a3, a4, a5, a6⟩ := m_clgo (s := 2 ^ n - 1) st hf hw (by have : 0 < 2 ^ n := Nat.two_pow_pos n; omega)
  refine ⟨ξ, ?_, a6⟩
  unfold fX8_wholeRound fX8_every
  rw [a1, bv_e, bi_e, a3, hw.1.1, bt_all n (by omega), show (31 : Int32) = nI 31 from rfl, gr_n (by omega) (by omega), cl_n (by omega), a2 1 (by decide), hst, a5, bi_e]
theorem x_round {μ : Mem} {n H : Nat} {D : Nat → Nat → Int32} {hs : Nat → Nat} {ps st : Int32} {P R : List Nat} (hf : fixO n H D hs P R) (hx : shpX μ n H D hs P R ps st) : ∃ ν, fX7_goRound μ = some ν ∧ (∀ b, b < 24 ∨ 29 < b → ν b = μ b) ∧ resX ν D hs n ps st P R (2 ^ n - 1) ∧ trpX ν (csl n R (2 ^ n - 1)).length (csl n R (2 ^ n - 1)) (csl n P (2 ^ n - 1)) ps st := by
  have h5 := hf.1
  obtain ⟨ν, a1, a2, a3, a4⟩ := x_goSome (s := 2 ^ n - 1) st hf hx (by have : 0 < 2 ^ n := Nat.two_pow_pos n; omega)
  refine ⟨ν, ?_, a2, a3, a4⟩
  unfold fX7_goRound fX7_allBits
  rw [bi_e, hx.1.1, bt_all n (by omega), hx.2.2.2.2.2, a1, bi_e]
