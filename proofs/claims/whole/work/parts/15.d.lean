/-! ===== the text: lines ===== -/
theorem fsS_fl {μ : Mem} (H : fsS μ) (x y : Int32) : fsS (wr (wr μ 23 3 x) 23 4 y) := fsS_c H (cF.fl _ _ _)
theorem ln_bad {μ κ : Mem} {t p tk pl nx v : Nat} (hs : fsS μ) (hT : TK μ κ t tk pl nx v) : ∃ ν ξ, (bv (fX1_fail (2 : Int32) (μ 23 6) μ) fun m17 => fX1_readLine_J203 m17) = some ν ∧ fX8_fails 2 κ = some ξ ∧ lX μ ν ∧ lM κ ξ ∧ LR t p ν ξ := by
  have hF : FLT (wr (wr μ 23 3 2) 23 4 (μ 23 6)) (wr (wr κ 0 20 2) 0 21 (κ 0 23)) := flt_mk 2 (by decide) (by decide) (by rw [hT.x6, hT.m23])
  rw [x_fail hT.x3, m_fail hT.m20, bv_e, x_semF hF.n.1]
  exact ⟨_, _, rfl, rfl, (cF.fl _ _ _).l, (rF.fl _ _ _).l, Or.inr ⟨hF, fsS_fl hs _ _⟩⟩
theorem flt_12 {μ κ : Mem} {y : Int32} (q : Nat) (h1 : 1 ≤ q) (h2 : q ≤ 6) (h : y = κ 0 23) (w : Int32) : FLT (wr (wr μ 23 3 (nI q)) 23 4 y) (wr (wr (wr κ 0 20 (nI q)) 0 21 (κ 0 23)) 0 12 w) := (flt_mk q h1 h2 h).g (fun _ _ _ => rfl) (fun j _ _ => wr_o (by omega))
/-! a house -/
theorem ln_houseF {μ κ : Mem} {t p tk pl nx v h : Nat} (s w : Int32) (hs : fsS μ) (hT : TK μ κ t tk pl nx v) (h4 : μ 18 4 = nI h) (h6 : h = 6) : ∃ ν, (bv (fX1_readHouse s μ) fun m => fX1_readLine_J203 m) = some ν ∧ lX μ ν ∧ LR t p ν (wr (wr (wr κ 0 20 5) 0 21 (κ 0 23)) 0 12 w) := by
  have hF : FLT (wr (wr μ 23 3 5) 23 4 (μ 23 6)) (wr (wr (wr κ 0 20 5) 0 21 (κ 0 23)) 0 12 w) := flt_12 5 (by decide) (by decide) (by rw [hT.x6, hT.m23]) w
  unfold fX1_readHouse
  rw [h4, h6, if_neg (by decide), x_fail hT.x3, bv_e, bv_e, x_semF hF.n.1]
  exact ⟨_, rfl, (cF.fl _ _ _).l, Or.inr ⟨hF, fsS_fl hs _ _⟩⟩
theorem ln_house {μ κ : Mem} {t p tk pl nx v N h m hh L T k0 k1 : Nat} {c : Nat → Nat} {A B : List Nat} (hx : tpX μ t c) (hm : tpM κ t c) (hD : DTp μ κ h m hh L T k0 k1 A B) (hT : TK μ κ t tk pl nx v) (hp : p ≤ pl) (hN : N ≤ 2) (h6 : h < 6) : ∃ ν ξ, (bv (fX1_readHouse (nI N) μ) fun m => fX1_readLine_J203 m) = some ν ∧ (bv (fX8_step (wr κ 0 12 (nI (T ||| 2 ^ N)))) fun m2 => if (m2 0 20) ≤ (0 : Int32) then (bv (fX8_readMore (nI N) m2) fun m3 => semi m3) else (some m2)) = some ξ ∧ lX μ ν ∧ lM κ ξ ∧ LR t p ν ξ := by
  have l12 : lM κ (wr κ 0 12 (nI (T ||| 2 ^ N))) := lM.v κ _ (by decide) (by decide)
  have hT1 : TK μ (wr κ 0 12 (nI (T ||| 2 ^ N))) t tk pl nx v := hT.g (fun _ _ _ => rfl) (fun j _ _ => wr_o (by omega))
  obtain ⟨m1, κ2, a1, a2, a3, a4, a5⟩ := tok_next hx (tpM_l hm l12) hT1
  have e18 := a3.1 18 (by decide)
  have m4 : m1 18 4 = nI h := by rw [e18]; exact hD.hs.2.1
  have k10 : κ2 0 10 = nI h := by rw [a4.2 10 (by decide), wr_o (by omega)]; exact hD.hs.2.2.1
  have hs1 := fsS_c hD.s a3
  unfold fX1_readHouse
  rw [hD.hs.2.1, if_pos (by rw [show (6 : Int32) = nI 6 from rfl, lt_nI (by omega) (by omega)]; omega), a1, bv_e, lb_e, m4, show (2 : Int32) = nI 2 from rfl, pk_mul, Int32.add_zero, nI_s1, a2, bv_e]
  rcases a5 with ⟨tk', pl', nx', v', b1, b2⟩ | hF
  · have hT2 : SM m1 (wr κ2 7 h (nI N)) t p := Or.inl ⟨tk', pl', nx', v', by have := hT.l1; omega, b2.g (fun _ _ _ => rfl) (fun j _ _ => by rw [wr_f _ _ _ _ (by decide)])⟩
    have l7 : lM κ2 (wr κ2 7 h (nI N)) := lM.w κ2 _ _ (by decide) (by decide)
    obtain ⟨y, z, m3, κ3, c1, c2, c3, c4, c5, c6⟩ := num_step (lo := 1) (hi := 9) (tpX_f hx a3) (tpM_l (tpM_f (tpM_l hm l12) a4) l7) (by decide) (by decide) hT2
    have c1 : fX1_takeNumber (1 : Int32) (9 : Int32) m1 = _ := c1
    have c2 : fX8_number (1 : Int32) (9 : Int32) (wr κ2 7 h (nI N)) = _ := c2
    have k20 : κ2 0 20 = 0 := b2.m20
    have q3 : (nI (T ||| 2 ^ N)) = nI (T ||| 2 ^ N) := rfl
    have k10' : (wr κ2 7 h (nI N)) 0 10 = nI h := by rw [wr_f _ _ _ _ (by decide)]; exact k10
    have m4' : wr (wr m3 19 (h * 2) y) 19 (h * 2 + 1) (nI N) 18 4 = nI h := by rw [wr_f _ _ _ _ (by decide), wr_f _ _ _ _ (by decide), c3.1 18 (by decide)]; exact m4
    have k10'' : wr κ3 6 h z 0 10 = nI h := by rw [wr_f _ _ _ _ (by decide), c4.2 10 (by decide)]; exact k10'
    rw [k20, if_pos (Int32.le_refl _), c1, bi_e, gr_n (by omega) (by decide), cl_n (by omega), lb_e, gr_n (by omega) (by decide), cl_n (by omega), lb_e, m4', nI_s1, lb_e, bv_e]
    unfold fX8_readMore fX8_readMore_J111
    rw [if_neg (show ¬ (2 : Int32) < nI N by rw [show (2 : Int32) = nI 2 from rfl, lt_nI (by omega) (by omega)]; omega), k10, gr_n (by omega) (by decide), cl_n (by omega), lb_e, c2, bi_e, k10', gr_n (by omega) (by decide), cl_n (by omega), lb_e, k10'', nI_s1, lb_e, bv_e]
    obtain ⟨ν0, hν⟩ : ∃ ν0, ν0 = wr (wr (wr m3 19 (h * 2) y) 19 (h * 2 + 1) (nI N)) 18 4 (nI (h + 1)) := ⟨_, rfl⟩
    obtain ⟨ξ0, hξ⟩ : ∃ ξ0, ξ0 = wr (wr κ3 6 h z) 0 10 (nI (h + 1)) := ⟨_, rfl⟩
    have gx : cF μ m3 := a3.t c3
    have n23 : ∀ j, ν0 23 j = m3 23 j := fun j => by rw [hν, wr_f _ _ _ _ (by decide), wr_f _ _ _ _ (by decide), wr_f _ _ _ _ (by decide)]
    have n18 : ∀ j, j ≠ 4 → ν0 18 j = μ 18 j := fun j hj => by rw [hν, wr_o (fun q => hj q.2), wr_f _ _ _ _ (by decide), wr_f _ _ _ _ (by decide), gx.1 18 (by decide)]
    have nb : ∀ b, b ≠ 18 → b ≠ 19 → b ≠ 23 → ν0 b = μ b := fun b b1 b2 b3 => by rw [hν, wr_f _ _ _ _ b1, wr_f _ _ _ _ b2, wr_f _ _ _ _ b2, gx.1 b b3]
    have x0 : ∀ j, j ≠ 10 → j ≠ 12 → (j < 20 ∨ 25 < j) → ξ0 0 j = κ 0 j := fun j j1 j2 j3 => by rw [hξ, wr_o (fun q => j1 q.2), wr_f _ _ _ _ (by decide), c4.2 j j3, wr_f _ _ _ _ (by decide), a4.2 j j3, wr_o (fun q => j2 q.2)]
    have xb : ∀ b, b ≠ 0 → b ≠ 6 → b ≠ 7 → ξ0 b = κ b := fun b b1 b2 b3 => by rw [hξ, wr_f _ _ _ _ b1, wr_f _ _ _ _ b2, c4.1 b b1, wr_f _ _ _ _ b3, a4.1 b b1, wr_f _ _ _ _ b1]
    have xt : ∀ j, 20 ≤ j → j ≤ 25 → ξ0 0 j = κ3 0 j := fun j j1 j2 => by rw [hξ, wr_o (by omega), wr_f _ _ _ _ (by decide)]
    have hxν : tpX ν0 t c := ⟨hx.1, by rw [nb 1 (by decide) (by decide) (by decide)]; exact hx.2.1, fun i hi => by rw [nb 2 (by decide) (by decide) (by decide)]; exact hx.2.2 i hi⟩
    have hmξ : tpM ξ0 t c := ⟨hm.1, by rw [x0 18 (by decide) (by decide) (by decide)]; exact hm.2.1, fun i hi => by rw [xb 11 (by decide) (by decide) (by decide)]; exact hm.2.2 i hi⟩
    have hsν : fsS ν0 := fsS_f hD.s (n18 5 (by decide)) (by rw [n23, gx.2 10 (by decide)]) (by rw [n23, gx.2 11 (by decide)])
    obtain ⟨ν, ξ, d1, d2, d3, d4, d5⟩ := line_end hxν hmξ (c5.g (fun j _ _ => n23 j) xt) (fun h0 => by
      rw [n23] at h0
      obtain ⟨-, x, x1, x2, rfl, rfl⟩ := c6 h0
      have Hh := hD.hs
      refine ⟨h + 1, m, hh, L, T ||| 2 ^ N, k0, k1, A, B, ⟨by omega, by rw [hν, wr_s], by rw [hξ, wr_s], fun j hj => ?_⟩, dOr_f hD.od (n18 5 (by decide)) (nb 20 (by decide) (by decide) (by decide)) (x0 11 (by decide) (by decide) (by decide)) (x0 15 (by decide) (by decide) (by decide)) (fun j _ => by rw [xb 5 (by decide) (by decide) (by decide)]) (xb 8 (by decide) (by decide) (by decide)), dPS_f hD.ps (n18 6 (by decide)) (n18 7 (by decide)) (by rw [xb 5 (by decide) (by decide) (by decide)]) (by rw [xb 5 (by decide) (by decide) (by decide)]), dTl_f (dTl_N hD.tl (by omega)) (by rw [n23, gx.2 9 (by decide)]) ?_, dRw_f hD.r0 (nb 21 (by decide) (by decide) (by decide)) (by rw [n23, gx.2 10 (by decide)]) (fun i _ => by rw [xb 9 (by decide) (by decide) (by decide)]) (by rw [xb 10 (by decide) (by decide) (by decide)]), dRw_f hD.r1 (nb 22 (by decide) (by decide) (by decide)) (by rw [n23, gx.2 11 (by decide)]) (fun i _ => by rw [xb 9 (by decide) (by decide) (by decide)]) (by rw [xb 10 (by decide) (by decide) (by decide)]), dHi_f hD.hi (x0 16 (by decide) (by decide) (by decide)), hD.z0, hD.z1⟩
      · have n19 : ∀ i, ν0 19 i = if i = h * 2 + 1 then nI N else if i = h * 2 then nI x else μ 19 i := fun i => by
          rw [hν, wr_f _ _ _ _ (by decide), wr_i, wr_i, gx.1 19 (by decide)]
          simp only [true_and]
        have x6 : ∀ i, ξ0 6 i = if i = h then nI x else κ 6 i := fun i => by
          rw [hξ, wr_f _ _ _ _ (by decide), wr_i, c4.1 6 (by decide), wr_f _ _ _ _ (by decide), a4.1 6 (by decide), wr_f _ _ _ _ (by decide)]
          simp only [true_and]
        have x7 : ∀ i, ξ0 7 i = if i = h then nI N else κ 7 i := fun i => by
          rw [hξ, wr_f _ _ _ _ (by decide), wr_f _ _ _ _ (by decide), c4.1 7 (by decide), wr_i, a4.1 7 (by decide), wr_f _ _ _ _ (by decide)]
          simp only [true_and]
        rw [n19, n19, x6, x7]
        by_cases e : j = h
        · subst e
          refine ⟨x, N, x1, x2, hN, ?_, ?_, ?_, ?_⟩
          · rw [if_neg (by omega), if_pos (by omega)]
          · rw [if_pos rfl]
          · rw [if_pos (by omega)]
          · rw [if_pos rfl]
        · rw [if_neg (show ¬ 2 * j = h * 2 + 1 by omega), if_neg (show ¬ 2 * j = h * 2 by omega), if_neg (show ¬ 2 * j + 1 = h * 2 + 1 by omega), if_neg (show ¬ 2 * j + 1 = h * 2 by omega), if_neg e, if_neg e]
          exact Hh.2.2.2 j (by omega)
      · rw [hξ, wr_o (by omega), wr_f _ _ _ _ (by decide), c4.2 12 (by decide), wr_f _ _ _ _ (by decide), a4.2 12 (by decide)]) hsν
    rw [← hν, ← hξ, d1, d2]
    refine ⟨ν, ξ, rfl, rfl, lX.t ⟨fun b hb => nb b (by omega) (by omega) (by omega), by rw [n23, gx.2 2 (by decide)]⟩ d3, lM.t ⟨fun b h1 h2 => xb b h1 (by omega) (by omega), fun j hj => x0 j (by omega) (by omega) (by omega)⟩ d4, d5⟩
  · have hn := hF.n
    have m4' : ∀ y, wr (wr m1 19 (h * 2) y) 19 (h * 2 + 1) (nI N) 18 4 = nI h := fun y => by rw [wr_f _ _ _ _ (by decide), wr_f _ _ _ _ (by decide)]; exact m4
    rw [if_neg hn.2.2.1, x_numF hn.1, bi_e, gr_n (by omega) (by decide), cl_n (by omega), lb_e, gr_n (by omega) (by decide), cl_n (by omega), lb_e, m4', nI_s1, lb_e, bv_e]
    have n23 : ∀ j, wr (wr (wr m1 19 (h * 2) 0) 19 (h * 2 + 1) (nI N)) 18 4 (nI (h + 1)) 23 j = m1 23 j := fun j => by rw [wr_f _ _ _ _ (by decide), wr_f _ _ _ _ (by decide), wr_f _ _ _ _ (by decide)]
    rw [x_semF (by rw [n23]; exact hn.1)]
    refine ⟨_, _, rfl, rfl, a3.l.t (((lX.w _ _ _ (by decide) (by decide)).t (lX.w _ _ _ (by decide) (by decide))).t (lX.w _ _ _ (by decide) (by decide))), l12.t a4.l, Or.inr ⟨hF.g (fun j _ _ => n23 j) (fun _ _ _ => rfl), fsS_f hs1 ?_ (n23 10) (n23 11)⟩⟩
    rw [wr_o (by omega), wr_f _ _ _ _ (by decide), wr_f _ _ _ _ (by decide)]
