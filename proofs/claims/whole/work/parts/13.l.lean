/-! a trip that has been taken and stowed -/
def trS (μ : Mem) (n H : Nat) (D : Nat → Nat → Int32) (P R : List Nat) (ps st : Int32) : Prop := (datX μ 3 n D) ∧ (roaX μ 3 H D) ∧ (μ 24 6 = nI n) ∧ (μ 24 7 = ps) ∧ (μ 24 8 = st) ∧ (rowX μ 25 n R) ∧ (μ 24 9 = nI ((2 ^ n - 1) &&& cmF D n P (2 ^ n - 1))) ∧ (∀ o, o < n → μ 28 o = nI (abF P (2 ^ n - 1) o))
theorem trS.d {μ : Mem} {n H : Nat} {D : Nat → Nat → Int32} {P R : List Nat} {ps st : Int32} (h : trS μ n H D P R ps st) : datX μ 3 n D := h.1
theorem trS.r {μ : Mem} {n H : Nat} {D : Nat → Nat → Int32} {P R : List Nat} {ps st : Int32} (h : trS μ n H D P R ps st) : roaX μ 3 H D := h.2.1
theorem trS.s6 {μ : Mem} {n H : Nat} {D : Nat → Nat → Int32} {P R : List Nat} {ps st : Int32} (h : trS μ n H D P R ps st) : μ 24 6 = nI n := h.2.2.1
theorem trS.s7 {μ : Mem} {n H : Nat} {D : Nat → Nat → Int32} {P R : List Nat} {ps st : Int32} (h : trS μ n H D P R ps st) : μ 24 7 = ps := h.2.2.2.1
theorem trS.s8 {μ : Mem} {n H : Nat} {D : Nat → Nat → Int32} {P R : List Nat} {ps st : Int32} (h : trS μ n H D P R ps st) : μ 24 8 = st := h.2.2.2.2.1
theorem trS.cs {μ : Mem} {n H : Nat} {D : Nat → Nat → Int32} {P R : List Nat} {ps st : Int32} (h : trS μ n H D P R ps st) : rowX μ 25 n R := h.2.2.2.2.2.1
theorem trS.s9 {μ : Mem} {n H : Nat} {D : Nat → Nat → Int32} {P R : List Nat} {ps st : Int32} (h : trS μ n H D P R ps st) : μ 24 9 = nI ((2 ^ n - 1) &&& cmF D n P (2 ^ n - 1)) := h.2.2.2.2.2.2.1
theorem trS.ab {μ : Mem} {n H : Nat} {D : Nat → Nat → Int32} {P R : List Nat} {ps st : Int32} (h : trS μ n H D P R ps st) : ∀ o, o < n → μ 28 o = nI (abF P (2 ^ n - 1) o) := h.2.2.2.2.2.2.2
theorem csa {n : Nat} {R : List Nat} (hn : n ≤ 5) (hR : R ∈ perms n) : csl n R (2 ^ n - 1) = R ∧ (csl n R (2 ^ n - 1)).length = n := by
  have h := cs_all n (by omega) R hR
  exact ⟨h, by rw [h]; exact pm_len n (by omega) R hR⟩
theorem x_rideC {μ : Mem} {n H s k : Nat} {D : Nat → Nat → Int32} {hs : Nat → Nat} {ps st : Int32} {cs : List Nat} (hd : datX μ 3 n D) (hr : roaX μ 3 H D) (hh : hsOk n H D hs) (t1 : μ 24 6 = nI k) (t2 : μ 24 7 = ps) (t3 : μ 24 8 = st) (t4 : ∀ i, i < k → μ 25 i = nI (rw_ cs i)) (h : clOk n (rw_ cs) s k) : ∃ ν, fX6_ride μ = some ν ∧ rodX μ ν D hs n ps st (rw_ cs) s k := by
  have h9 := h.1
  have h9' := h.2.1
  unfold fX6_ride
  rw [lb_e, lb_e]
  have e := x_rdL1 hd t1 (by omega) (fun i hi => ⟨(h.2.2.2.2 i hi).1, t4 i hi⟩) k 0 FU (by omega) (by show k < 4000; omega)
  have e : fX6_ride_L4 FU 0 0 μ = fX6_ride_L49 FU (lsum (D 2) (rw_ cs) k) 0 0 (wr (wr μ 24 10 0) 24 11 0) := e
  rw [e, lsum_k (D 2) h]
  obtain ⟨ν, k1, k2, k3, k4⟩ := x_rdL2 (ps := ps) (st := st) hh h k 0 FU (wr (wr μ 24 10 0) 24 11 0) (by omega) (by show k < 4000; omega)
    (datX_f (by rw [wr_f _ _ _ _ (by decide), wr_f _ _ _ _ (by decide)]) (by rw [wr_f _ _ _ _ (by decide), wr_f _ _ _ _ (by decide)]) hd)
    (roaX_f (by rw [wr_f _ _ _ _ (by decide), wr_f _ _ _ _ (by decide)]) (by rw [wr_f _ _ _ _ (by decide), wr_f _ _ _ _ (by decide)]) hr)
    (by rw [wr_o (by omega), wr_o (by omega)]; exact t1) (by rw [wr_o (by omega), wr_o (by omega)]; exact t2) (by rw [wr_o (by omega), wr_o (by omega)]; exact t3) (fun j hj => by rw [wr_o (by omega), wr_o (by omega)]; exact t4 j hj)
    (by rw [wr_o (by omega), wr_s]; rfl) (by rw [wr_s]; rfl) (fun j hj => absurd hj (Nat.not_lt_zero j))
  exact ⟨ν, k1, fun b b1 b2 => by rw [k2 b b1 b2, wr_f _ _ _ _ b1, wr_f _ _ _ _ b1], fun j j1 j2 => by rw [k3 j j1 j2, wr_o (fun q => j2 q.2), wr_o (fun q => j1 q.2)], k4⟩

/-- take() of all, then stow() -/
theorem x_tkst {μ : Mem} {n H : Nat} {D : Nat → Nat → Int32} {hs : Nat → Nat} {ps st0 : Int32} {P R : List Nat} (st : Int32) (hf : fixO n H D hs P R) (hx : shpX μ n H D hs P R ps st0) : ∃ m1 ν, fX6_take (nI (2 ^ n - 1)) st μ = some m1 ∧ fX6_stow m1 = some ν ∧ (∀ b, b ≠ 24 → b ≠ 25 → b ≠ 26 → b ≠ 28 → ν b = μ b) ∧ trS ν n H D P R ps st := by
  obtain ⟨h5, hh, hP, hR⟩ := hf
  have hs2 := all_lt n
  obtain ⟨m1, a1, a2, a3, a4⟩ := x_take st hx.1.1 h5 hx.2.2.2.1 hx.2.2.1 hR hP hs2
  obtain ⟨t1, t2, t3, t4, t5⟩ := a4
  have hcP := cl_of h5 hP hs2
  have hlen := cs_len n (by omega) R hR P hP _ hs2
  have hd : datX m1 3 n D := datX_f (a2 3 (by decide) (by decide) (by decide)) (a2 5 (by decide) (by decide) (by decide)) hx.1
  have hr : roaX m1 3 H D := roaX_f (a2 3 (by decide) (by decide) (by decide)) (a2 4 (by decide) (by decide) (by decide)) hx.2.1
  obtain ⟨ν, s1, s2, s3, s4, s5⟩ := x_stow (c := rw_ (csl n P (2 ^ n - 1))) (k := (csl n P (2 ^ n - 1)).length) hd (by rw [hlen]; exact t1) (fun j hj => t5 j (by omega)) hcP (crM_X h5 hP hs2 (cmF_M D h5 P (2 ^ n - 1)))
  have e := csa h5 hR
  refine ⟨m1, ν, a1, s1, fun b h1 h2 h3 h4 => by rw [s2 b h1 h4, a2 b h1 h2 h3], datX_f (s2 3 (by decide) (by decide)) (s2 5 (by decide) (by decide)) hd, roaX_f (s2 3 (by decide) (by decide)) (s2 4 (by decide) (by decide)) hr, ?_, ?_, ?_, ?_, s4, ?_⟩
  · rw [s3 6 (by decide), t1, e.2]
  · rw [s3 7 (by decide), t2]; exact hx.2.2.2.2.1
  · rw [s3 8 (by decide), t3]
  · intro i hi
    rw [s2 25 (by decide) (by decide), t4 i (by rw [e.2]; exact hi), e.1]
  · intro o ho
    obtain ⟨i, hi, e⟩ := (ld_ok n (by omega) P hP _ hs2).2 o ho (all_tb n (by omega) o ho)
    rw [← e, s5 i hi, ((ld_ok n (by omega) P hP _ hs2).1 i hi).1]
/-- ride(), then finish() -/
theorem x_rf {μ : Mem} {n H : Nat} {D : Nat → Nat → Int32} {hs : Nat → Nat} {ps st : Int32} {P R : List Nat} (hf : fixO n H D hs P R) (ht : trS μ n H D P R ps st) : ∃ m1 ν, fX6_ride μ = some m1 ∧ fX6_finish m1 = some ν ∧ (∀ b, b ≠ 24 → b ≠ 27 → b ≠ 29 → ν b = μ b) ∧ trS ν n H D P R ps st ∧ resX ν D hs n ps st P R (2 ^ n - 1) := by
  obtain ⟨h5, hh, hP, hR⟩ := hf
  have hs2 := all_lt n
  have hcR := cl_of h5 hR hs2
  have e := csa h5 hR
  have ep := csa h5 hP
  have hcm := cmF_M D h5 P (2 ^ n - 1)
  have hp := pow5 n (by omega)
  obtain ⟨m1, a1, a2, a3, a4, a5, a6⟩ := x_rideC (μ := μ) (hs := hs) (cs := csl n R (2 ^ n - 1)) (k := (csl n R (2 ^ n - 1)).length) ht.d ht.r hh (by rw [e.2]; exact ht.s6) ht.s7 ht.s8 (fun i hi => by rw [e.1]; exact ht.cs i (by omega)) hcR
  have hmask := (bt_an (2 ^ n - 1) hp.1 _ hcm.1).2
  obtain ⟨ν, f1, f2, f3, f4, f5, f6, f7, f8, f9⟩ := x_fin (μ := m1) (D := D) (st := st) (b := bareV D hs n ps st (rw_ (csl n R (2 ^ n - 1))) (2 ^ n - 1)) (ab := abF P (2 ^ n - 1)) (c := rw_ (csl n R (2 ^ n - 1))) (c0 := (2 ^ n - 1) &&& cmF D n P (2 ^ n - 1)) hcR hmask (fun i hi => (bt_an (2 ^ n - 1) hp.1 _ (by
      have := (pm_idx n (by omega) P hP _ (hcR.2.2.2.2 i hi).1).1
      exact abP_lt h5 hP _ (Nat.le_of_lt this))).2) (datX_f (a2 3 (by decide) (by decide)) (a2 5 (by decide) (by decide)) ht.d) (by rw [a3 6 (by decide) (by decide), e.2]; exact ht.s6) (by rw [a3 8 (by decide) (by decide)]; exact ht.s8) (fun j hj => by rw [a2 25 (by decide) (by decide), e.1]; exact ht.cs j (by omega)) (fun j hj => a6 j hj) (fun j hj => by
      rw [a2 28 (by decide) (by decide)]
      exact ht.ab _ (hcR.2.2.2.2 j hj).1) (by rw [a3 9 (by decide) (by decide)]; exact ht.s9)
  obtain ⟨i1, i2⟩ := kq_i D st (bareV D hs n ps st (rw_ (csl n R (2 ^ n - 1))) (2 ^ n - 1)) (abF P (2 ^ n - 1)) (rw_ (csl n R (2 ^ n - 1))) (2 ^ n - 1) (m1 29) (fun _ => 0) (csl n R (2 ^ n - 1)).length
  have fr : ∀ j, j < 10 → ν 24 j = μ 24 j := fun j hj => by rw [f3 j (by omega) (by omega) (by omega) (by omega) (by omega), a3 j (by omega) (by omega)]
  refine ⟨m1, ν, a1, f1, fun b b1 b2 b3 => by rw [f2 b b1 b3, a2 b b1 b2], ⟨datX_f (by rw [f2 3 (by decide) (by decide), a2 3 (by decide) (by decide)]) (by rw [f2 5 (by decide) (by decide), a2 5 (by decide) (by decide)]) ht.d, roaX_f (by rw [f2 3 (by decide) (by decide), a2 3 (by decide) (by decide)]) (by rw [f2 4 (by decide) (by decide), a2 4 (by decide) (by decide)]) ht.r, by rw [fr 6 (by decide)]; exact ht.s6, by rw [fr 7 (by decide)]; exact ht.s7, by rw [fr 8 (by decide)]; exact ht.s8, fun i hi => by rw [f2 25 (by decide) (by decide), a2 25 (by decide) (by decide)]; exact ht.cs i hi, by rw [fr 9 (by decide)]; exact ht.s9, fun o ho => by rw [f2 28 (by decide) (by decide), a2 28 (by decide) (by decide)]; exact ht.ab o ho⟩, ?_, ?_, ?_, ?_, ?_, ?_, ?_, fun o ho hb => ?_⟩
  · rw [f3 10 (by decide) (by decide) (by decide) (by decide) (by decide), a4]; rfl
  · rw [f3 11 (by decide) (by decide) (by decide) (by decide) (by decide), a5]; rfl
  · rw [f4, i1]; rfl
  · rw [f5, i1, a4, a5]; rfl
  · rw [f6, i2]; rfl
  · rw [f7, i2]; rfl
  · rw [f8, i2]; rfl
  · obtain ⟨i, hi, e⟩ := (ld_ok n (by omega) R hR _ hs2).2 o ho hb
    rw [f9, ← e]
    exact kq_t hcR _ _ hi _ (Nat.le_refl _) hi
