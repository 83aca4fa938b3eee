/-! an order's line -/
theorem m_ordR {x0 e1 e2 e3 e4 : Mem} {m hh : Nat} {z1 z2 z3 z4 H1 : Int32} (hm : m < 5) (h11 : x0 0 11 = nI m) (h15 : x0 0 15 = nI hh) (hH : H1 = if z1 ≤ nI hh then nI hh else z1) (q1 : fX8_number (1 : Int32) (6 : Int32) x0 = some (z1, e1)) (r1 : rF x0 e1) (q2 : fX8_number (1 : Int32) (9 : Int32) (wr (wr e1 8 m z1) 0 15 H1) = some (z2, e2)) (r2 : rF (wr (wr e1 8 m z1) 0 15 H1) e2) (q3 : fX8_number (0 : Int32) (9 : Int32) (wr e2 5 (5 + m) z2) = some (z3, e3)) (r3 : rF (wr e2 5 (5 + m) z2) e3) (q4 : fX8_number (0 : Int32) (99 : Int32) (wr e3 5 (10 + m) z3) = some (z4, e4)) (r4 : rF (wr e3 5 (10 + m) z3) e4) : ordR x0 = some (wr (wr e4 5 (15 + m) z4) 0 11 (nI (m + 1))) := by
  have b11 : wr e1 8 m z1 0 11 = nI m := by rw [wr_f _ _ _ _ (by decide), r1.2 11 (by decide)]; exact h11
  have b15 : wr e1 8 m z1 0 15 = nI hh := by rw [wr_f _ _ _ _ (by decide), r1.2 15 (by decide)]; exact h15
  have c11 : wr (wr e1 8 m z1) 0 15 H1 0 11 = nI m := by rw [wr_o (by omega)]; exact b11
  have d11 : wr e2 5 (5 + m) z2 0 11 = nI m := by rw [wr_f _ _ _ _ (by decide), r2.2 11 (by decide)]; exact c11
  have f11 : wr e3 5 (10 + m) z3 0 11 = nI m := by rw [wr_f _ _ _ _ (by decide), r3.2 11 (by decide)]; exact d11
  have g11 : wr e4 5 (15 + m) z4 0 11 = nI m := by rw [wr_f _ _ _ _ (by decide), r4.2 11 (by decide)]; exact f11
  have J : fX8_readOrder_J87 H1 (wr e1 8 m z1) = some (wr (wr e4 5 (15 + m) z4) 0 11 (nI (m + 1))) := by
    unfold fX8_readOrder_J87
    rw [lb_e, q2, bi_e, c11, show (5 : Int32) + nI m = nI (5 + m) by rw [show (5 : Int32) = nI 5 from rfl, nI_add], gr_n (by omega) (by decide), cl_n (by omega), lb_e, q3, bi_e, d11, show (10 : Int32) + nI m = nI (10 + m) by rw [show (10 : Int32) = nI 10 from rfl, nI_add], gr_n (by omega) (by decide), cl_n (by omega), lb_e, q4, bi_e, f11, show (15 : Int32) + nI m = nI (15 + m) by rw [show (15 : Int32) = nI 15 from rfl, nI_add], gr_n (by omega) (by decide), cl_n (by omega), lb_e, g11, nI_s1, lb_e]
  unfold ordR
  rw [q1, bi_e, h11, gr_n hm (by decide), cl_n (by omega), lb_e, b11, gr_n hm (by decide), cl_n (by omega), wr_s, b15, gr_n hm (by decide)]
  by_cases e : z1 ≤ nI hh
  · rw [if_pos e]; rw [hH, if_pos e] at J; exact J
  · rw [if_neg e]; rw [hH, if_neg e] at J; exact J
theorem ln_order {μ κ : Mem} {t p tk pl nx v h m hh L T k0 k1 : Nat} {c : Nat → Nat} {A B : List Nat} (hx : tpX μ t c) (hm : tpM κ t c) (h12 : κ 12 = mM0 12) (h13 : κ 13 = mM0 13) (hD : DTp μ κ h m hh L T k0 k1 A B) (hT : TK μ κ t tk pl nx v) (hp : p ≤ pl) (h5 : m < 5) : ∃ ν ξ, (bv (fX1_readOrder μ) fun m => fX1_readLine_J203 m) = some ν ∧ (bv (fX8_step (wr κ 0 12 (nI (T ||| 2 ^ 3)))) fun m2 => if (m2 0 20) ≤ (0 : Int32) then (bv (fX8_readMore (nI 3) m2) fun m3 => semi m3) else (some m2)) = some ξ ∧ lX μ ν ∧ lM κ ξ ∧ LR t p ν ξ := by
  obtain ⟨fq, hfq⟩ := FU_s 100 (by decide)
  have l12 : lM κ (wr κ 0 12 (nI (T ||| 2 ^ 3))) := lM.v κ _ (by decide) (by decide)
  have hT1 : TK μ (wr κ 0 12 (nI (T ||| 2 ^ 3))) t tk pl nx v := hT.g (fun _ _ _ => rfl) (fun j _ _ => wr_o (by omega))
  obtain ⟨m1, κ2, a1, a2, a3, a4, a5⟩ := tok_next hx (tpM_l hm l12) hT1
  have hx1 := tpX_f hx a3
  have hm2 := tpM_f (tpM_l hm l12) a4
  have e18 := a3.1 18 (by decide)
  have m5 : m1 18 5 = nI m := by rw [e18]; exact hD.od.2.2.1
  have k11 : κ2 0 11 = nI m := by rw [a4.2 11 (by decide), wr_o (by omega)]; exact hD.od.2.2.2.1
  have k15 : κ2 0 15 = nI hh := by rw [a4.2 15 (by decide), wr_o (by omega)]; exact hD.od.2.2.2.2.1
  have em : ∀ b, b ≠ 0 → wr κ 0 12 (nI (T ||| 2 ^ 3)) b = κ b := fun b hb => wr_f _ _ _ _ hb
  have hD1 : DTp μ (wr κ 0 12 (nI (T ||| 2 ^ 3))) h m hh L (T ||| 2 ^ 3) k0 k1 A B := ⟨dHs_f hD.hs rfl rfl (wr_o (by omega)) (em 6 (by decide)) (em 7 (by decide)), dOr_f hD.od rfl rfl (wr_o (by omega)) (wr_o (by omega)) (fun j _ => by rw [em 5 (by decide)]) (em 8 (by decide)), dPS_f hD.ps rfl rfl (by rw [em 5 (by decide)]) (by rw [em 5 (by decide)]), dTl_N hD.tl (by decide), dRw_f hD.r0 rfl rfl (fun i _ => by rw [em 9 (by decide)]) (by rw [em 10 (by decide)]), dRw_f hD.r1 rfl rfl (fun i _ => by rw [em 9 (by decide)]) (by rw [em 10 (by decide)]), dHi_f hD.hi (wr_o (by omega)), hD.z0, hD.z1⟩
  have hD2 := hD1.f a3 a4
  have lo1 : ∀ μ : Mem, fX7_leastOf (nI 1) μ = some (nI 1, μ) := fun _ => rfl
  have lo2 : ∀ μ : Mem, fX7_leastOf (nI 2) μ = some (nI 1, μ) := fun _ => rfl
  have lo3 : ∀ μ : Mem, fX7_leastOf (nI 3) μ = some (nI 0, μ) := fun _ => rfl
  have lo4 : ∀ μ : Mem, fX7_leastOf (nI 4) μ = some (nI 0, μ) := fun _ => rfl
  have hi1 : ∀ μ : Mem, fX7_mostOf (nI 1) μ = some (nI 6, μ) := fun _ => rfl
  have hi2 : ∀ μ : Mem, fX7_mostOf (nI 2) μ = some (nI 9, μ) := fun _ => rfl
  have hi3 : ∀ μ : Mem, fX7_mostOf (nI 3) μ = some (nI 9, μ) := fun _ => rfl
  have hi4 : ∀ μ : Mem, fX7_mostOf (nI 4) μ = some (nI 99, μ) := fun _ => rfl
  have efu : FU = (fq + 96) + 1 + 1 + 1 + 1 + 1 := by omega
  have e0 : nI m * 5 = nI (5 * m) := by rw [show (5 : Int32) = nI 5 from rfl, pk_mul, Nat.mul_comm]
  unfold fX1_readOrder
  rw [hD.od.2.2.1, if_pos (show nI m < (5 : Int32) by rw [show (5 : Int32) = nI 5 from rfl, lt_nI (by omega) (by omega)]; omega), a1, bv_e, lb_e, m5, e0, Int32.add_zero, a2, bv_e]
  rcases a5 with ⟨tk', pl', nx', v', b1, b2⟩ | hF
  · have hT2 : TKs m1 κ2 t p := ⟨tk', pl', nx', v', by have := hT.l1; omega, b2⟩
    have k20 : κ2 0 20 = 0 := b2.m20
    obtain ⟨y0, z0, n0, x0, i1, i2, i3, ⟨i4, i5, i6, i7⟩, i8, i9⟩ := kind_step hx1 hm2 (by rw [a4.1 12 (by decide), em 12 (by decide)]; exact h12) (by rw [a4.1 13 (by decide), em 13 (by decide)]; exact h13) hT2 k11 h5
    -- the class: a0, the reference: x0
    have lx0 : lX m1 (wr n0 20 (5 * m) y0) := i3.l.t (lX.w _ _ _ (by decide) (by decide))
    have lm0 : lM κ2 x0 := ⟨fun b h1 h2 => i4 b h1 (by omega), fun j hj => i7 j (by omega)⟩
    have S0 : SM (wr n0 20 (5 * m) y0) x0 t p := i8.g (fun j _ _ => by rw [wr_f _ _ _ _ (by decide)]) (fun _ _ _ => rfl)
    obtain ⟨y1, z1, n1, e1, p1, q1, r1, s1, t1, u1⟩ := num_step (lo := 1) (hi := 6) (tpX_l hx1 lx0) (tpM_l hm2 lm0) (by decide) (by decide) S0
    obtain ⟨H1, hH1⟩ : ∃ H1, H1 = if z1 ≤ nI hh then nI hh else z1 := ⟨_, rfl⟩
    have lx1 : lX m1 (wr n1 20 (5 * m + 1) y1) := (lx0.t r1.l).t (lX.w _ _ _ (by decide) (by decide))
    have lm1 : lM κ2 (wr (wr e1 8 m z1) 0 15 H1) := ((lm0.t s1.l).t (lM.w _ _ _ (by decide) (by decide))).t (lM.v _ _ (by decide) (by decide))
    have S1 : SM (wr n1 20 (5 * m + 1) y1) (wr (wr e1 8 m z1) 0 15 H1) t p := t1.g (fun j _ _ => by rw [wr_f _ _ _ _ (by decide)]) (fun j _ _ => by rw [wr_o (by omega), wr_f _ _ _ _ (by decide)])
    obtain ⟨y2, z2, n2, e2, p2, q2, r2, s2, t2, u2⟩ := num_step (lo := 1) (hi := 9) (tpX_l hx1 lx1) (tpM_l hm2 lm1) (by decide) (by decide) S1
    have lx2 : lX m1 (wr n2 20 (5 * m + 2) y2) := (lx1.t r2.l).t (lX.w _ _ _ (by decide) (by decide))
    have lm2 : lM κ2 (wr e2 5 (5 + m) z2) := (lm1.t s2.l).t (lM.w _ _ _ (by decide) (by decide))
    have S2 : SM (wr n2 20 (5 * m + 2) y2) (wr e2 5 (5 + m) z2) t p := t2.g (fun j _ _ => by rw [wr_f _ _ _ _ (by decide)]) (fun j _ _ => by rw [wr_f _ _ _ _ (by decide)])
    obtain ⟨y3, z3, n3, e3, p3, q3, r3, s3, t3, u3⟩ := num_step (lo := 0) (hi := 9) (tpX_l hx1 lx2) (tpM_l hm2 lm2) (by decide) (by decide) S2
    have lx3 : lX m1 (wr n3 20 (5 * m + 3) y3) := (lx2.t r3.l).t (lX.w _ _ _ (by decide) (by decide))
    have lm3 : lM κ2 (wr e3 5 (10 + m) z3) := (lm2.t s3.l).t (lM.w _ _ _ (by decide) (by decide))
    have S3 : SM (wr n3 20 (5 * m + 3) y3) (wr e3 5 (10 + m) z3) t p := t3.g (fun j _ _ => by rw [wr_f _ _ _ _ (by decide)]) (fun j _ _ => by rw [wr_f _ _ _ _ (by decide)])
    obtain ⟨y4, z4, n4, e4, p4, q4, r4, s4, t4, u4⟩ := num_step (lo := 0) (hi := 99) (tpX_l hx1 lx3) (tpM_l hm2 lm3) (by decide) (by decide) S3
    obtain ⟨ν0, hν⟩ : ∃ ν0, ν0 = wr (wr n4 20 (5 * m + 4) y4) 18 5 (nI (m + 1)) := ⟨_, rfl⟩
    obtain ⟨ξ0, hξ⟩ : ∃ ξ0, ξ0 = wr (wr e4 5 (15 + m) z4) 0 11 (nI (m + 1)) := ⟨_, rfl⟩
    have lxν : lX μ ν0 := by rw [hν]; exact ((a3.l.t (lx3.t r4.l)).t (lX.w _ _ _ (by decide) (by decide))).t (lX.w _ _ _ (by decide) (by decide))
    have lmξ : lM κ ξ0 := by rw [hξ]; exact (((l12.t a4.l).t (lm3.t s4.l)).t (lM.w _ _ _ (by decide) (by decide))).t (lM.v _ _ (by decide) (by decide))
    -- the class's cells
    have n23 : ∀ j, ν0 23 j = n4 23 j := fun j => by rw [hν, wr_f _ _ _ _ (by decide), wr_f _ _ _ _ (by decide)]
    have n23' : ∀ j, j < 3 ∨ 8 < j → ν0 23 j = m1 23 j := fun j hj => by rw [n23, r4.2 j hj, wr_f _ _ _ _ (by decide), r3.2 j hj, wr_f _ _ _ _ (by decide), r2.2 j hj, wr_f _ _ _ _ (by decide), r1.2 j hj, wr_f _ _ _ _ (by decide), i3.2 j hj]
    have nb : ∀ b, b ≠ 18 → b ≠ 20 → b ≠ 23 → ν0 b = m1 b := fun b h1 h2 h3 => by rw [hν, wr_f _ _ _ _ h1, wr_f _ _ _ _ h2, r4.1 b h3, wr_f _ _ _ _ h2, r3.1 b h3, wr_f _ _ _ _ h2, r2.1 b h3, wr_f _ _ _ _ h2, r1.1 b h3, wr_f _ _ _ _ h2, i3.1 b h3]
    have nn18 : n4 18 = m1 18 := by rw [r4.1 18 (by decide), wr_f _ _ _ _ (by decide), r3.1 18 (by decide), wr_f _ _ _ _ (by decide), r2.1 18 (by decide), wr_f _ _ _ _ (by decide), r1.1 18 (by decide), wr_f _ _ _ _ (by decide), i3.1 18 (by decide)]
    have n18 : ∀ j, j ≠ 5 → ν0 18 j = m1 18 j := fun j hj => by rw [hν, wr_o (fun q => hj q.2), wr_f _ _ _ _ (by decide), nn18]
    have n20 : ∀ j, ν0 20 j = if j = 5 * m + 4 then y4 else if j = 5 * m + 3 then y3 else if j = 5 * m + 2 then y2 else if j = 5 * m + 1 then y1 else if j = 5 * m then y0 else m1 20 j := fun j => by
      rw [hν, wr_f _ _ _ _ (by decide), wr_i, r4.1 20 (by decide), wr_i, r3.1 20 (by decide), wr_i, r2.1 20 (by decide), wr_i, r1.1 20 (by decide), wr_i, i3.1 20 (by decide)]
      simp only [true_and]
    -- the reference's cells
    have xb : ∀ b, b ≠ 0 → b ≠ 5 → b ≠ 8 → ξ0 b = κ2 b := fun b h1 h2 h3 => by rw [hξ, wr_f _ _ _ _ h1, wr_f _ _ _ _ h2, s4.1 b h1, wr_f _ _ _ _ h2, s3.1 b h1, wr_f _ _ _ _ h2, s2.1 b h1, wr_f _ _ _ _ h1, wr_f _ _ _ _ h3, s1.1 b h1, i4 b h1 h2]
    have xt : ∀ j, 20 ≤ j → j ≤ 25 → ξ0 0 j = e4 0 j := fun j h1 h2 => by rw [hξ, wr_o (by omega), wr_f _ _ _ _ (by decide)]
    have x0' : ∀ j, j ≠ 11 → (j < 20 ∨ 25 < j) → ξ0 0 j = if j = 15 then H1 else κ2 0 j := fun j h1 h2 => by
      rw [hξ, wr_o (fun q => h1 q.2), wr_f _ _ _ _ (by decide), s4.2 j h2, wr_f _ _ _ _ (by decide), s3.2 j h2, wr_f _ _ _ _ (by decide), s2.2 j h2, wr_i, wr_f _ _ _ _ (by decide), s1.2 j h2, i7 j h2]
      simp only [true_and]
    have x5 : ∀ j, ξ0 5 j = if j = 15 + m then z4 else if j = 10 + m then z3 else if j = 5 + m then z2 else if j = m then z0 else κ2 5 j := fun j => by
      rw [hξ, wr_f _ _ _ _ (by decide), wr_i, s4.1 5 (by decide), wr_i, s3.1 5 (by decide), wr_i, s2.1 5 (by decide), wr_f _ _ _ _ (by decide), wr_f _ _ _ _ (by decide), s1.1 5 (by decide)]
      simp only [true_and]
      by_cases e : j = m
      · rw [e, if_pos rfl, i6]
      · rw [if_neg e, i5 j e]
    have x8 : ∀ j, ξ0 8 j = if j = m then z1 else κ2 8 j := fun j => by
      rw [hξ, wr_f _ _ _ _ (by decide), wr_f _ _ _ _ (by decide), s4.1 8 (by decide), wr_f _ _ _ _ (by decide), s3.1 8 (by decide), wr_f _ _ _ _ (by decide), s2.1 8 (by decide), wr_f _ _ _ _ (by decide), wr_i, s1.1 8 (by decide), i4 8 (by decide) (by decide)]
      simp only [true_and]
    have s1' := hD2.s
    have hsν : fsS ν0 := ⟨⟨m + 1, by omega, by rw [hν, wr_s]⟩, by rw [n23' 10 (by decide)]; exact s1'.2.1, by rw [n23' 11 (by decide)]; exact s1'.2.2⟩
    obtain ⟨ν, ξ, d1, d2, d3, d4, d5⟩ := line_end (tpX_l hx lxν) (tpM_l hm lmξ) (t4.g (fun j _ _ => n23 j) xt) (fun h0 => by
      rw [n23] at h0
      obtain ⟨w3, x4, g41, g42, rfl, rfl⟩ := u4 h0
      rw [wr_f _ _ _ _ (show 23 ≠ 20 by decide)] at w3
      obtain ⟨w2, x3, g31, g32, rfl, rfl⟩ := u3 w3
      rw [wr_f _ _ _ _ (show 23 ≠ 20 by decide)] at w2
      obtain ⟨w1, x2, g21, g22, rfl, rfl⟩ := u2 w2
      rw [wr_f _ _ _ _ (show 23 ≠ 20 by decide)] at w1
      obtain ⟨w0, x1, g11, g12, rfl, rfl⟩ := u1 w1
      rw [wr_f _ _ _ _ (show 23 ≠ 20 by decide)] at w0
      obtain ⟨kk, g00, rfl, rfl⟩ := i9 w0
      have Ho := hD2.od
      obtain ⟨hh', hhe, hle1, hle2, hle3, hor⟩ : ∃ hh', H1 = nI hh' ∧ hh ≤ hh' ∧ x1 ≤ hh' ∧ hh' ≤ 6 ∧ (hh' = hh ∨ hh' = x1) := by
        have h6 := Ho.2.1
        rw [hH1]
        by_cases e : x1 ≤ hh
        · rw [if_pos (by rw [le_nI (by omega) (by omega)]; exact e)]
          exact ⟨hh, rfl, Nat.le_refl _, e, h6, Or.inl rfl⟩
        · rw [if_neg (by rw [le_nI (by omega) (by omega)]; exact e)]
          exact ⟨x1, rfl, by omega, Nat.le_refl _, g12, Or.inr rfl⟩
      refine ⟨h, m + 1, hh', L, T ||| 2 ^ 3, k0, k1, A, B, dHs_f hD2.hs (n18 4 (by decide)) (nb 19 (by decide) (by decide) (by decide)) (by rw [x0' 10 (by decide) (by decide), if_neg (by decide)]) (xb 6 (by decide) (by decide) (by decide)) (xb 7 (by decide) (by decide) (by decide)), ⟨by omega, hle3, by rw [hν, wr_s], by rw [hξ, wr_s], by rw [x0' 15 (by decide) (by decide), if_pos rfl]; exact hhe, ?_, fun o ho => ?_⟩, dPS_f hD2.ps (n18 6 (by decide)) (n18 7 (by decide)) (by rw [x5, if_neg (by omega), if_neg (by omega), if_neg (by omega), if_neg (by omega)]) (by rw [x5, if_neg (by omega), if_neg (by omega), if_neg (by omega), if_neg (by omega)]), dTl_f hD2.tl (n23' 9 (by decide)) (by rw [x0' 12 (by decide) (by decide), if_neg (by decide)]), dRw_f hD2.r0 (nb 21 (by decide) (by decide) (by decide)) (n23' 10 (by decide)) (fun i _ => by rw [xb 9 (by decide) (by decide) (by decide)]) (by rw [xb 10 (by decide) (by decide) (by decide)]), dRw_f hD2.r1 (nb 22 (by decide) (by decide) (by decide)) (n23' 11 (by decide)) (fun i _ => by rw [xb 9 (by decide) (by decide) (by decide)]) (by rw [xb 10 (by decide) (by decide) (by decide)]), dHi_f hD2.hi (by rw [x0' 16 (by decide) (by decide), if_neg (by decide)]), hD2.z0, hD2.z1⟩
      · rcases hor with e | e
        · rcases Ho.2.2.2.2.2.1 with z | ⟨o, ho, eo⟩
          · exact Or.inl (by omega)
          · refine Or.inr ⟨o, by omega, ?_⟩
            rw [n20, if_neg (by omega), if_neg (by omega), if_neg (by omega), if_neg (by omega), if_neg (by omega), eo, e]
        · refine Or.inr ⟨m, by omega, ?_⟩
          rw [n20, if_neg (by omega), if_neg (by omega), if_neg (by omega), if_pos rfl, e]
      · by_cases e : o = m
        · subst e
          refine ⟨kk, x1, x2, x3, x4, g00, g11, hle2, g21, g22, g32, g42, ?_, ?_, ?_, ?_, ?_, ?_, ?_, ?_, ?_, ?_⟩
          · rw [n20, if_neg (by omega), if_neg (by omega), if_neg (by omega), if_neg (by omega), if_pos rfl]
          · rw [n20, if_neg (by omega), if_neg (by omega), if_neg (by omega), if_pos rfl]
          · rw [n20, if_neg (by omega), if_neg (by omega), if_pos rfl]
          · rw [n20, if_neg (by omega), if_pos rfl]
          · rw [n20, if_pos rfl]
          · rw [x5, if_neg (by omega), if_neg (by omega), if_neg (by omega), if_pos rfl]
          · rw [x8, if_pos rfl]
          · rw [x5, if_neg (by omega), if_neg (by omega), if_pos rfl]
          · rw [x5, if_neg (by omega), if_pos rfl]
          · rw [x5, if_pos rfl]
        · obtain ⟨k, d, w, p', u, f1, f2, f3, f4, f5, f6, f7, f8⟩ := Ho.2.2.2.2.2.2 o (by omega)
          have cx : ∀ w, w < 5 → ν0 20 (5 * o + w) = m1 20 (5 * o + w) := fun w hw => by
            rw [n20, if_neg (by omega), if_neg (by omega), if_neg (by omega), if_neg (by omega), if_neg (by omega)]
          have c0 : ν0 20 (5 * o) = m1 20 (5 * o) := cx 0 (by decide)
          have cm : ∀ w, w < 4 → ξ0 5 (5 * w + o) = κ2 5 (5 * w + o) := fun w hw => by
            rw [x5, if_neg (by omega), if_neg (by omega), if_neg (by omega), if_neg (by omega)]
          have q0 := cm 0 (by decide)
          rw [show 5 * 0 + o = o by omega] at q0
          refine ⟨k, d, w, p', u, f1, f2, by omega, f4, f5, f6, f7, ?_⟩
          rw [c0, cx 1 (by decide), cx 2 (by decide), cx 3 (by decide), cx 4 (by decide), q0, cm 1 (by decide), cm 2 (by decide), cm 3 (by decide), x8, if_neg e]
          exact f8) hsν
    have hrm : fX8_readMore (nI 3) κ2 = some ξ0 := by
      unfold fX8_readMore fX8_readMore_J111
      rw [if_pos (by decide), if_pos (show nI 3 = (3 : Int32) from rfl), i2, m_ordR h5 (by rw [i7 11 (by decide)]; exact k11) (by rw [i7 15 (by decide)]; exact k15) hH1 q1 s1 q2 s2 q3 s3 q4 s4, bv_e, hξ]
    rw [k20, if_pos (Int32.le_refl _), hrm, bv_e, i1, bi_e, gr_n (by omega) (by decide), cl_n (by omega), lb_e, lb_e, efu, show (1 : Int32) = nI 1 from rfl, x_52 (by decide) (by decide) h5 (lo1 _) (hi1 _) p1, x_52 (by decide) (by decide) h5 (lo2 _) (hi2 _) p2, x_52 (by decide) (by decide) h5 (lo3 _) (hi3 _) p3, x_52 (by decide) (by decide) h5 (lo4 _) (hi4 _) p4, x_525 (by rw [wr_f _ _ _ _ (by decide), nn18]; exact m5), bv_e, ← hν, d1, d2]
    exact ⟨ν, ξ, rfl, rfl, lxν.t d3, lmξ.t d4, d5⟩
  · have hn := hF.n
    have hk : fX1_takeKind m1 = some (0, m1) := by
      unfold fX1_takeKind
      rw [if_neg hn.1]
    have f1 : ∀ (M : Mem), M 23 = m1 23 → ∀ x y, fX1_takeNumber x y M = some (0, M) := fun M hM x y => x_numF (by rw [hM]; exact hn.1) x y
    have w0 : wr m1 20 (5 * m) 0 23 = m1 23 := wr_f _ _ _ _ (by decide)
    have w1 : wr (wr m1 20 (5 * m) 0) 20 (5 * m + 1) 0 23 = m1 23 := by rw [wr_f _ _ _ _ (by decide)]; exact w0
    have w2 : wr (wr (wr m1 20 (5 * m) 0) 20 (5 * m + 1) 0) 20 (5 * m + 2) 0 23 = m1 23 := by rw [wr_f _ _ _ _ (by decide)]; exact w1
    have w3 : wr (wr (wr (wr m1 20 (5 * m) 0) 20 (5 * m + 1) 0) 20 (5 * m + 2) 0) 20 (5 * m + 3) 0 23 = m1 23 := by rw [wr_f _ _ _ _ (by decide)]; exact w2
    rw [hk, bi_e, gr_n (by omega) (by decide), cl_n (by omega), lb_e, lb_e, efu, show (1 : Int32) = nI 1 from rfl, x_52 (by decide) (by decide) h5 (lo1 _) (hi1 _) (f1 _ w0 _ _), x_52 (by decide) (by decide) h5 (lo2 _) (hi2 _) (f1 _ w1 _ _), x_52 (by decide) (by decide) h5 (lo3 _) (hi3 _) (f1 _ w2 _ _), x_52 (by decide) (by decide) h5 (lo4 _) (hi4 _) (f1 _ w3 _ _), x_525 (by rw [wr_f _ _ _ _ (by decide), wr_f _ _ _ _ (by decide), wr_f _ _ _ _ (by decide), wr_f _ _ _ _ (by decide), wr_f _ _ _ _ (by decide)]; exact m5), bv_e, if_neg hn.2.2.1]
    obtain ⟨ν0, hν⟩ : ∃ ν0, ν0 = wr (wr (wr (wr (wr (wr m1 20 (5 * m) 0) 20 (5 * m + 1) 0) 20 (5 * m + 2) 0) 20 (5 * m + 3) 0) 20 (5 * m + 4) 0) 18 5 (nI (m + 1)) := ⟨_, rfl⟩
    have n23 : ν0 23 = m1 23 := by rw [hν, wr_f _ _ _ _ (by decide), wr_f _ _ _ _ (by decide)]; exact w3
    have lxν : lX m1 ν0 := by rw [hν]; exact (((((lX.w _ _ _ (by decide) (by decide)).t (lX.w _ _ _ (by decide) (by decide))).t (lX.w _ _ _ (by decide) (by decide))).t (lX.w _ _ _ (by decide) (by decide))).t (lX.w _ _ _ (by decide) (by decide))).t (lX.w _ _ _ (by decide) (by decide))
    rw [← hν, x_semF (by rw [n23]; exact hn.1)]
    have s1' := hD2.s
    exact ⟨_, _, rfl, rfl, a3.l.t lxν, l12.t a4.l, Or.inr ⟨hF.g (fun j _ _ => by rw [n23]) (fun _ _ _ => rfl), ⟨m + 1, by omega, by rw [hν, wr_s]⟩, by rw [n23]; exact s1'.2.1, by rw [n23]; exact s1'.2.2⟩⟩
