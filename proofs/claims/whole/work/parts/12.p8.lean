theorem m_goL {n H s cm sp0 lt0 : Nat} {D : Nat → Nat → Int32} {hs : Nat → Nat} {ps st u0 g0 d0 : Int32} {P R : List Nat} {tm : Nat → Int32} (hh : hsOk n H D hs) (h5 : n ≤ 5) (hP : P ∈ perms n) (hR : R ∈ perms n) (hs2 : s < 2 ^ n) (hcm : crM D n P s cm) (hsp : sp0 < 32) (hlt : lt0 < 32) : ∀ (r kk fu : Nat) (κ : Mem), kk + r = n → r < fu → wlkM κ n H D P R ps → midM κ D hs n ps st P (rw_ (csl n R s)) s cm sp0 lt0 u0 g0 d0 tm (flt (rw_ R) s kk).length →
    ∃ ξ, fX8_goes_L11 fu (nI s) st (((st + (jq D hs n ps (rw_ (csl n R s)) s (flt (rw_ R) s kk).length).2.2.1) + (jq D hs n ps (rw_ (csl n R s)) s (flt (rw_ R) s kk).length).2.2.2) + (kq D st (bareV D hs n ps st (rw_ (csl n R s)) s) (abF P s) (rw_ (csl n R s)) s tm (flt (rw_ R) s kk).length).1) (nI (lft (rw_ (csl n R s)) s (flt (rw_ R) s kk).length)) (nI (jq D hs n ps (rw_ (csl n R s)) s (flt (rw_ R) s kk).length).1) (nI kk) κ = some (((st + goneV D hs n ps (rw_ (csl n R s)) s (csl n R s).length) + (jq D hs n ps (rw_ (csl n R s)) s (csl n R s).length).2.2.2) + (kq D st (bareV D hs n ps st (rw_ (csl n R s)) s) (abF P s) (rw_ (csl n R s)) s tm (csl n R s).length).1, ξ) ∧
      (∀ b, b ≠ 0 → b ≠ 14 → ξ b = κ b) ∧ (∀ j, j ≠ 29 → j ≠ 30 → j ≠ 31 → j ≠ 32 → j ≠ 33 → ξ 0 j = κ 0 j) ∧ ξ 0 29 = u0 + (kq D st (bareV D hs n ps st (rw_ (csl n R s)) s) (abF P s) (rw_ (csl n R s)) s tm (csl n R s).length).1 ∧ ξ 0 30 = g0 + goneV D hs n ps (rw_ (csl n R s)) s (csl n R s).length ∧ ξ 0 31 = d0 + (jq D hs n ps (rw_ (csl n R s)) s (csl n R s).length).2.2.2 ∧ ξ 0 32 = nI (sp0 ||| ((s &&& cm) ||| (kq D st (bareV D hs n ps st (rw_ (csl n R s)) s) (abF P s) (rw_ (csl n R s)) s tm (csl n R s).length).2.2.1)) ∧ ξ 0 33 = nI (lt0 ||| (kq D st (bareV D hs n ps st (rw_ (csl n R s)) s) (abF P s) (rw_ (csl n R s)) s tm (csl n R s).length).2.2.2) ∧ ξ 14 = (kq D st (bareV D hs n ps st (rw_ (csl n R s)) s) (abF P s) (rw_ (csl n R s)) s tm (csl n R s).length).2.1
  | 0, kk, fu + 1, κ, h1, _, hw, hm => by
    have e : kk = n := by omega
    subst e
    have hc := cl_of h5 hR hs2
    obtain ⟨m1, m2, m3, m4, m5, m6⟩ := hm
    obtain ⟨hd, hr, hp, hrr, hps⟩ := hw
    have hj := jq_h (ps := ps) hh hc (csl kk R s).length (Nat.le_refl _)
    have hwy := m_way (w := 0) hr hps hj (Nat.zero_le H)
    have hab : abm (rw_ (csl kk R s)) (csl kk R s).length = s := hc.2.2.2.1
    have m2 : κ 0 30 = g0 + (jq D hs kk ps (rw_ (csl kk R s)) s (csl kk R s).length).2.2.1 := m2
    have m4 : κ 0 32 = nI (sp0 ||| ((abm (rw_ (csl kk R s)) (csl kk R s).length &&& cm) ||| (kq D st (bareV D hs kk ps st (rw_ (csl kk R s)) s) (abF P s) (rw_ (csl kk R s)) s tm (csl kk R s).length).2.2.1)) := m4
    refine ⟨wr κ 0 30 (g0 + goneV D hs kk ps (rw_ (csl kk R s)) s (csl kk R s).length), ?_, fun b b1 _ => wr_f _ _ _ _ b1, fun j _ j2 _ _ _ => wr_o (fun q => j2 q.2), by rw [wr_o (by omega)]; exact m1, wr_s _ _ _ _, by rw [wr_o (by omega)]; exact m3, by rw [wr_o (by omega), m4, hab], by rw [wr_o (by omega)]; exact m5, by rw [wr_f _ _ _ _ (by decide)]; exact m6⟩
    rw [fX8_goes_L11, if_pos (by rw [hd.1]; exact nI_le (Nat.le_refl _) (by omega))]
    show bi (fX8_wayOf (nI (jq D hs kk ps (rw_ (csl kk R s)) s (csl kk R s).length).1) (nI 0) 0 κ) _ = _
    rw [hwy, bi_e, lb_e, m2]
    unfold goneV
    rw [Int32.add_assoc g0]
    refine congrArg some (congrArg (fun z => (z, _)) ?_)
    exact acs _ _ _ _ _
  | r + 1, kk, fu + 1, κ, h1, hf, hw, hm => by
    have hc := cl_of h5 hR hs2
    have hp5 := pow5 n (by omega)
    have hs32 : s < 32 := by omega
    have hl := pm_lt n (by omega) R hR kk (by omega)
    obtain ⟨p1, p2⟩ := cs_pre n (by omega) R hR s hs2 kk (by omega)
    rw [fX8_goes_L11, if_neg (by rw [hw.1.1]; exact nI_ge (by omega) (by omega)), show (25 : Int32) = nI 25 from rfl, m_at hw.2.2.2.1 (by omega) (by omega), bi_e]
    unfold fX8_goes_J296
    simp only [lb_e, nI_s1]
    by_cases e : s.testBit (rw_ R kk) = true
    · obtain ⟨p3, p4⟩ := p2 e
      have hfl : (flt (rw_ R) s (kk + 1)).length = (flt (rw_ R) s kk).length + 1 := by rw [flt, if_pos e, List.length_append]; rfl
      rw [if_pos ((bt_t s hs32 _ (by omega)).mpr e)]
      obtain ⟨c, hcc⟩ : ∃ c, c = rw_ (csl n R s) := ⟨_, rfl⟩
      obtain ⟨i, hi⟩ : ∃ i, i = (flt (rw_ R) s kk).length := ⟨_, rfl⟩
      obtain ⟨kz, hkz⟩ : ∃ kz, kz = (csl n R s).length := ⟨_, rfl⟩
      have ih := m_goL (ps := ps) (st := st) (u0 := u0) (g0 := g0) (d0 := d0) (tm := tm) hh h5 hP hR hs2 hcm hsp hlt r (kk + 1) fu
      rw [hfl] at ih
      rw [← hcc, ← hi, ← hkz] at ih
      rw [← hcc, ← hi] at hm p4
      rw [← hi, ← hkz] at p3
      rw [← hcc, ← hkz] at hc
      simp only [← hcc, ← hi, ← hkz]
      clear hcc hi hkz
      rw [← p4] at e hl ⊢
      obtain ⟨m1, m2, m3, m4, m5, m6⟩ := hm
      obtain ⟨hd, hr, hp, hrr, hps⟩ := id hw
      obtain ⟨g1, g2, g3, g4, g5⟩ := hc.2.2.2.2 i p3
      obtain ⟨e1, e2⟩ := hh (c i) g1
      have hj := jq_h (ps := ps) hh hc i (by omega)
      have hdo := hd.2.2 (c i) g1
      have hix := (pm_idx n (by omega) P hP (c i) g1).1
      have hab32 := abP_lt h5 hP _ (Nat.le_of_lt hix)
      have hanl := bt_an _ g3 _ hab32
      have hans := bt_an s hs32 _ hab32
      have hcl := bt_cl (lft c s i) g3 (2 ^ c i) (bt_pow (c i) (by omega))
      obtain ⟨q1, q2⟩ := kq_lt (D := D) (st := st) (b := bareV D hs n ps st c s) (ab := abF P s) (tm := tm) hc i (by omega)
      obtain ⟨wv, hwv⟩ : ∃ wv : Int32, wv = wayV D (jq D hs n ps c s i).1 (hs (c i)) (decide (ps < bsum (D 2) (lft c s i) n)) := ⟨_, rfl⟩
      obtain ⟨x, hx⟩ : ∃ x : Int32, x = nI (popc (abF P s (c i) &&& lft c s i)) := ⟨_, rfl⟩
      obtain ⟨dr, hdr⟩ : ∃ dr : Int32, dr = if D 0 (c i) = 3 then 2 else 1 := ⟨_, rfl⟩
      obtain ⟨g, hg⟩ : ∃ g : Int32, g = (jq D hs n ps c s i).2.2.1 := ⟨_, rfl⟩
      obtain ⟨d, hdd⟩ : ∃ d : Int32, d = (jq D hs n ps c s i).2.2.2 := ⟨_, rfl⟩
      obtain ⟨u, hu⟩ : ∃ u : Int32, u = (kq D st (bareV D hs n ps st c s) (abF P s) c s tm i).1 := ⟨_, rfl⟩
      obtain ⟨t, ht⟩ : ∃ t : Int32, t = ((st + (g + wv)) + (d + dr)) + (u + x) := ⟨_, rfl⟩
      have hq : jq D hs n ps c s (i + 1) = (hs (c i), lft c s (i + 1), g + wv, d + dr) := by
        show js1 D hs n ps (jq D hs n ps c s i) (c i) = _
        unfold js1
        rw [jq_l, hwv, hdr, hg, hdd]
        rfl
      have hk : kq D st (bareV D hs n ps st c s) (abF P s) c s tm (i + 1) = (u + x, upd (kq D st (bareV D hs n ps st c s) (abF P s) c s tm i).2.1 (c i) t, (if D 0 (c i) = 2 ∧ 20 < t - st then (kq D st (bareV D hs n ps st c s) (abF P s) c s tm i).2.2.1 ||| 2 ^ c i else (kq D st (bareV D hs n ps st c s) (abF P s) c s tm i).2.2.1), if D 4 (c i) < t then (kq D st (bareV D hs n ps st c s) (abF P s) c s tm i).2.2.2 ||| 2 ^ c i else (kq D st (bareV D hs n ps st c s) (abF P s) c s tm i).2.2.2) := by
        have hb : bareV D hs n ps st c s i = (st + (g + wv)) + (d + dr) := by unfold bareV; rw [hq]
        rw [kq]
        try dsimp only
        rw [hb, ← hu, ← hx, ← ht]
      have hlf : nI (mcl (lft c s i) (2 ^ c i)) = nI (lft c s (i + 1)) := rfl
      rw [← hu] at m1
      rw [← hg] at m2
      rw [← hdd] at m3
      rw [hq, hk] at ih
      dsimp only at ih
      rw [← ht] at ih
      have msp : sp0 ||| ((abm c i &&& cm) ||| (kq D st (bareV D hs n ps st c s) (abF P s) c s tm i).2.2.1) < 32 := (bt_orm sp0 hsp _ (bt_orm _ (bt_an _ g4 _ hcm.1).2 _ q1).2).2
      have mlt : lt0 ||| (kq D st (bareV D hs n ps st c s) (abF P s) c s tm i).2.2.2 < 32 := (bt_orm lt0 hlt _ q2).2
      -- behind DUE
      have late : ∀ κ2 : Mem, (∀ b, b ≠ 0 → b ≠ 14 → κ2 b = κ b) → (∀ j, j ≠ 29 → j ≠ 30 → j ≠ 31 → j ≠ 32 → κ2 0 j = κ 0 j) → κ2 0 29 = u0 + (u + x) → κ2 0 30 = g0 + (g + wv) → κ2 0 31 = d0 + (d + dr) → κ2 0 32 = nI (sp0 ||| ((abm c (i + 1) &&& cm) ||| (if D 0 (c i) = 2 ∧ 20 < t - st then (kq D st (bareV D hs n ps st c s) (abF P s) c s tm i).2.2.1 ||| 2 ^ c i else (kq D st (bareV D hs n ps st c s) (abF P s) c s tm i).2.2.1))) → κ2 14 = upd (kq D st (bareV D hs n ps st c s) (abF P s) c s tm i).2.1 (c i) t →
          ∃ ξ, (gr ((15 : Int32) + nI (c i)) 160 <| if t ≤ (κ2 1 ((15 : Int32) + nI (c i)).toNatClampNeg) then (fX8_goes_J292 (fun x1 x2 x3 x4 x5 x6 μ => fX8_goes_L11 fu x1 x2 x3 x4 x5 x6 μ) (nI s) st t (nI (lft c s (i + 1))) (nI (hs (c i))) (nI kk) (κ2 0 33) (0 : Int32) κ2) else (fX8_goes_J292 (fun x1 x2 x3 x4 x5 x6 μ => fX8_goes_L11 fu x1 x2 x3 x4 x5 x6 μ) (nI s) st t (nI (lft c s (i + 1))) (nI (hs (c i))) (nI kk) (κ2 0 33) ((1 : Int32) <<< (nI (c i) &&& 31)) κ2)) = some (((st + goneV D hs n ps c s kz) + (jq D hs n ps c s kz).2.2.2) + (kq D st (bareV D hs n ps st c s) (abF P s) c s tm kz).1, ξ) ∧
      (∀ b, b ≠ 0 → b ≠ 14 → ξ b = κ b) ∧ (∀ j, j ≠ 29 → j ≠ 30 → j ≠ 31 → j ≠ 32 → j ≠ 33 → ξ 0 j = κ 0 j) ∧ ξ 0 29 = u0 + (kq D st (bareV D hs n ps st c s) (abF P s) c s tm kz).1 ∧ ξ 0 30 = g0 + goneV D hs n ps c s kz ∧ ξ 0 31 = d0 + (jq D hs n ps c s kz).2.2.2 ∧ ξ 0 32 = nI (sp0 ||| ((s &&& cm) ||| (kq D st (bareV D hs n ps st c s) (abF P s) c s tm kz).2.2.1)) ∧ ξ 0 33 = nI (lt0 ||| (kq D st (bareV D hs n ps st c s) (abF P s) c s tm kz).2.2.2) ∧ ξ 14 = (kq D st (bareV D hs n ps st c s) (abF P s) c s tm kz).2.1 := by
        intro κ2 f1 f2 f29 f30 f31 f32 f14
        have e15 : κ2 1 (15 + c i) = D 4 (c i) := by rw [f1 1 (by decide) (by decide)]; exact hdo.2.2.2.2
        have e33 : κ2 0 33 = nI (lt0 ||| (kq D st (bareV D hs n ps st c s) (abF P s) c s tm i).2.2.2) := by rw [f2 33 (by decide) (by decide) (by decide) (by decide)]; exact m5
        rw [show (15 : Int32) = nI 15 from rfl, nI_add, gr_n (by omega) (by omega), cl_n (by omega), e15, e33]
        unfold fX8_goes_J292 fX8_goes_J296
        simp only [lb_e, nI_s1]
        have nxt : ∀ v : Nat, v = (if D 4 (c i) < t then (kq D st (bareV D hs n ps st c s) (abF P s) c s tm i).2.2.2 ||| 2 ^ c i else (kq D st (bareV D hs n ps st c s) (abF P s) c s tm i).2.2.2) → ∃ ξ, fX8_goes_L11 fu (nI s) st t (nI (lft c s (i + 1))) (nI (hs (c i))) (nI (kk + 1)) (wr κ2 0 33 (nI (lt0 ||| v))) = some (((st + goneV D hs n ps c s kz) + (jq D hs n ps c s kz).2.2.2) + (kq D st (bareV D hs n ps st c s) (abF P s) c s tm kz).1, ξ) ∧
      (∀ b, b ≠ 0 → b ≠ 14 → ξ b = κ b) ∧ (∀ j, j ≠ 29 → j ≠ 30 → j ≠ 31 → j ≠ 32 → j ≠ 33 → ξ 0 j = κ 0 j) ∧ ξ 0 29 = u0 + (kq D st (bareV D hs n ps st c s) (abF P s) c s tm kz).1 ∧ ξ 0 30 = g0 + goneV D hs n ps c s kz ∧ ξ 0 31 = d0 + (jq D hs n ps c s kz).2.2.2 ∧ ξ 0 32 = nI (sp0 ||| ((s &&& cm) ||| (kq D st (bareV D hs n ps st c s) (abF P s) c s tm kz).2.2.1)) ∧ ξ 0 33 = nI (lt0 ||| (kq D st (bareV D hs n ps st c s) (abF P s) c s tm kz).2.2.2) ∧ ξ 14 = (kq D st (bareV D hs n ps st c s) (abF P s) c s tm kz).2.1 := by
          intro v hv
          obtain ⟨ξ, k1, k2, k3, k4⟩ := ih (wr κ2 0 33 (nI (lt0 ||| v))) (by omega) (by omega) (wlkM_f hw (fun b b1 b2 => by rw [wr_f _ _ _ _ b1, f1 b b1 b2]) (by rw [wr_o (by omega), f2 3 (by decide) (by decide) (by decide) (by decide)]) (by rw [wr_o (by omega), f2 5 (by decide) (by decide) (by decide) (by decide)])) (by
            unfold midM
            rw [hq, hk]
            dsimp only
            exact ⟨by rw [wr_o (by omega)]; exact f29, by rw [wr_o (by omega)]; exact f30, by rw [wr_o (by omega)]; exact f31, by rw [wr_o (by omega)]; exact f32, by rw [wr_s, hv], by rw [wr_f _ _ _ _ (by decide)]; exact f14⟩)
          exact ⟨ξ, k1, fun b b1 b2 => by rw [k2 b b1 b2, wr_f _ _ _ _ b1, f1 b b1 b2], fun j j1 j2 j3 j4 j5 => by rw [k3 j j1 j2 j3 j4 j5, wr_o (fun q => j5 q.2), f2 j j1 j2 j3 j4], k4⟩
        by_cases e7 : t ≤ D 4 (c i)
        · rw [if_pos e7, show (0 : Int32) = nI 0 from rfl, (bt_orm _ mlt 0 (by decide)).1, Nat.or_zero]
          exact nxt _ (by rw [if_neg (Int32.not_lt.mpr e7)])
        · rw [if_neg e7, bt_one (c i) (by omega), (bt_orm _ mlt _ (bt_pow (c i) (by omega))).1, Nat.or_assoc]
          exact nxt _ (by rw [if_pos (Int32.not_le.mp e7)])
      obtain ⟨κ7, hκ7⟩ : ∃ κ7 : Mem, κ7 = wr (wr (wr (wr κ 0 30 (g0 + (g + wv))) 0 29 (u0 + (u + x))) 0 31 (d0 + (d + dr))) 14 (c i) t := ⟨_, rfl⟩
      have z1 : ∀ b, b ≠ 0 → b ≠ 14 → κ7 b = κ b := fun b b1 b2 => by rw [hκ7, wr_f _ _ _ _ b2, wr_f _ _ _ _ b1, wr_f _ _ _ _ b1, wr_f _ _ _ _ b1]
      have z2 : ∀ j, j ≠ 29 → j ≠ 30 → j ≠ 31 → κ7 0 j = κ 0 j := fun j j1 j2 j3 => by rw [hκ7, wr_o (by omega), wr_o (fun q => j3 q.2), wr_o (fun q => j1 q.2), wr_o (fun q => j2 q.2)]
      have z29 : κ7 0 29 = u0 + (u + x) := by rw [hκ7, wr_o (by omega), wr_o (by omega), wr_s]
      have z30 : κ7 0 30 = g0 + (g + wv) := by rw [hκ7, wr_o (by omega), wr_o (by omega), wr_o (by omega), wr_s]
      have z31 : κ7 0 31 = d0 + (d + dr) := by rw [hκ7, wr_o (by omega), wr_s]
      have z14 : κ7 14 = upd (kq D st (bareV D hs n ps st c s) (abF P s) c s tm i).2.1 (c i) t := by rw [hκ7, wr_row, wr_f _ _ _ _ (by decide), wr_f _ _ _ _ (by decide), wr_f _ _ _ _ (by decide), m6]
      have z32 : κ7 0 32 = nI (sp0 ||| ((abm c i &&& cm) ||| (kq D st (bareV D hs n ps st c s) (abF P s) c s tm i).2.2.1)) := by rw [z2 32 (by decide) (by decide) (by decide)]; exact m4
      have zw : wlkM κ7 n H D P R ps := wlkM_f hw z1 (z2 3 (by decide) (by decide) (by decide)) (z2 5 (by decide) (by decide) (by decide))
      have zd := zw.1.2.2 (c i) g1
      have hst : s.testBit (c i) = true := tb_sub (n := n) (c i) g2
      have hiff := hcm.2 (c i) g1 hst
      obtain ⟨ice, hice⟩ : ∃ ice : Prop, ice = (D 0 (c i) = 2 ∧ 20 < t - st) := ⟨_, rfl⟩
      have spoil : ∀ z : Int32, (∃ v, z = nI v ∧ v < 32 ∧ (sp0 ||| ((abm c i &&& cm) ||| (kq D st (bareV D hs n ps st c s) (abF P s) c s tm i).2.2.1)) ||| v = sp0 ||| ((abm c (i + 1) &&& cm) ||| (if D 0 (c i) = 2 ∧ 20 < t - st then (kq D st (bareV D hs n ps st c s) (abF P s) c s tm i).2.2.1 ||| 2 ^ c i else (kq D st (bareV D hs n ps st c s) (abF P s) c s tm i).2.2.1))) →
          ∃ ξ, fX8_goes_J261 (fun x1 x2 x3 x4 x5 x6 μ => fX8_goes_L11 fu x1 x2 x3 x4 x5 x6 μ) (nI s) st t (nI (lft c s (i + 1))) (nI (hs (c i))) (nI kk) (nI (c i)) (κ7 0 32) z κ7 = some (((st + goneV D hs n ps c s kz) + (jq D hs n ps c s kz).2.2.2) + (kq D st (bareV D hs n ps st c s) (abF P s) c s tm kz).1, ξ) ∧
      (∀ b, b ≠ 0 → b ≠ 14 → ξ b = κ b) ∧ (∀ j, j ≠ 29 → j ≠ 30 → j ≠ 31 → j ≠ 32 → j ≠ 33 → ξ 0 j = κ 0 j) ∧ ξ 0 29 = u0 + (kq D st (bareV D hs n ps st c s) (abF P s) c s tm kz).1 ∧ ξ 0 30 = g0 + goneV D hs n ps c s kz ∧ ξ 0 31 = d0 + (jq D hs n ps c s kz).2.2.2 ∧ ξ 0 32 = nI (sp0 ||| ((s &&& cm) ||| (kq D st (bareV D hs n ps st c s) (abF P s) c s tm kz).2.2.1)) ∧ ξ 0 33 = nI (lt0 ||| (kq D st (bareV D hs n ps st c s) (abF P s) c s tm kz).2.2.2) ∧ ξ 14 = (kq D st (bareV D hs n ps st c s) (abF P s) c s tm kz).2.1 := by
        rintro z ⟨v, rfl, hv, hvv⟩
        unfold fX8_goes_J261
        rw [lb_e, z32, (bt_orm _ msp v hv).1, hvv]
        exact late _ (fun b b1 b2 => by rw [wr_f _ _ _ _ b1, z1 b b1 b2]) (fun j j1 j2 j3 j4 => by rw [wr_o (fun q => j4 q.2), z2 j j1 j2 j3]) (by rw [wr_o (by omega)]; exact z29) (by rw [wr_o (by omega)]; exact z30) (by rw [wr_o (by omega)]; exact z31) (wr_s _ _ _ _) (by rw [wr_f _ _ _ _ (by decide)]; exact z14)
      have yes : (cm.testBit (c i) = true ∨ (D 0 (c i) = 2 ∧ 20 < t - st)) → ∃ ξ, fX8_goes_J236 (fun x1 x2 x3 x4 x5 x6 μ => fX8_goes_L11 fu x1 x2 x3 x4 x5 x6 μ) (nI s) st t (nI (lft c s (i + 1))) (nI (hs (c i))) (nI kk) (nI (c i)) κ7 = some (((st + goneV D hs n ps c s kz) + (jq D hs n ps c s kz).2.2.2) + (kq D st (bareV D hs n ps st c s) (abF P s) c s tm kz).1, ξ) ∧
      (∀ b, b ≠ 0 → b ≠ 14 → ξ b = κ b) ∧ (∀ j, j ≠ 29 → j ≠ 30 → j ≠ 31 → j ≠ 32 → j ≠ 33 → ξ 0 j = κ 0 j) ∧ ξ 0 29 = u0 + (kq D st (bareV D hs n ps st c s) (abF P s) c s tm kz).1 ∧ ξ 0 30 = g0 + goneV D hs n ps c s kz ∧ ξ 0 31 = d0 + (jq D hs n ps c s kz).2.2.2 ∧ ξ 0 32 = nI (sp0 ||| ((s &&& cm) ||| (kq D st (bareV D hs n ps st c s) (abF P s) c s tm kz).2.2.1)) ∧ ξ 0 33 = nI (lt0 ||| (kq D st (bareV D hs n ps st c s) (abF P s) c s tm kz).2.2.2) ∧ ξ 14 = (kq D st (bareV D hs n ps st c s) (abF P s) c s tm kz).2.1 := by
        intro hor
        unfold fX8_goes_J236 fX8_goes_J241
        rw [if_neg one_ne, bt_one (c i) (by omega)]
        refine spoil _ ⟨2 ^ c i, rfl, bt_pow (c i) (by omega), ?_⟩
        rw [Nat.or_assoc]
        refine congrArg (fun z => sp0 ||| z) ?_
        by_cases q : D 0 (c i) = 2 ∧ 20 < t - st
        · rw [if_pos q]
          exact or_cm3 _ g4 _ hcm.1 _ (by omega) _ q1
        · rw [if_neg q]
          exact or_cm2 _ g4 _ hcm.1 _ (by omega) _ q1 (hor.resolve_right q)
      have no : cm.testBit (c i) = false → ¬ (D 0 (c i) = 2 ∧ 20 < t - st) → ∃ ξ, fX8_goes_J240 (fun x1 x2 x3 x4 x5 x6 μ => fX8_goes_L11 fu x1 x2 x3 x4 x5 x6 μ) (nI s) st t (nI (lft c s (i + 1))) (nI (hs (c i))) (nI kk) (nI (c i)) κ7 = some (((st + goneV D hs n ps c s kz) + (jq D hs n ps c s kz).2.2.2) + (kq D st (bareV D hs n ps st c s) (abF P s) c s tm kz).1, ξ) ∧
      (∀ b, b ≠ 0 → b ≠ 14 → ξ b = κ b) ∧ (∀ j, j ≠ 29 → j ≠ 30 → j ≠ 31 → j ≠ 32 → j ≠ 33 → ξ 0 j = κ 0 j) ∧ ξ 0 29 = u0 + (kq D st (bareV D hs n ps st c s) (abF P s) c s tm kz).1 ∧ ξ 0 30 = g0 + goneV D hs n ps c s kz ∧ ξ 0 31 = d0 + (jq D hs n ps c s kz).2.2.2 ∧ ξ 0 32 = nI (sp0 ||| ((s &&& cm) ||| (kq D st (bareV D hs n ps st c s) (abF P s) c s tm kz).2.2.1)) ∧ ξ 0 33 = nI (lt0 ||| (kq D st (bareV D hs n ps st c s) (abF P s) c s tm kz).2.2.2) ∧ ξ 14 = (kq D st (bareV D hs n ps st c s) (abF P s) c s tm kz).2.1 := by
        intro hb hni
        unfold fX8_goes_J240 fX8_goes_J241
        rw [if_pos rfl]
        refine spoil _ ⟨0, rfl, by decide, ?_⟩
        rw [Nat.or_zero, if_neg hni, (or_cm _ g4 _ hcm.1 _ (by omega)).2 hb]
        rfl
      have over : ¬ (D 0 (c i) = 1 ∧ 5 < bsum (D 2) (abF P s (c i)) n) → ¬ (D 0 (c i) = 2 ∧ 20 < t - st) → ∃ ξ, fX8_goes_J218 (fun x1 x2 x3 x4 x5 x6 μ => fX8_goes_L11 fu x1 x2 x3 x4 x5 x6 μ) (nI s) st t (nI (lft c s (i + 1))) (nI (hs (c i))) (nI kk) (nI (c i)) (oI (rab (rw_ P) s (P.idxOf (c i)))) κ7 = some (((st + goneV D hs n ps c s kz) + (jq D hs n ps c s kz).2.2.2) + (kq D st (bareV D hs n ps st c s) (abF P s) c s tm kz).1, ξ) ∧
      (∀ b, b ≠ 0 → b ≠ 14 → ξ b = κ b) ∧ (∀ j, j ≠ 29 → j ≠ 30 → j ≠ 31 → j ≠ 32 → j ≠ 33 → ξ 0 j = κ 0 j) ∧ ξ 0 29 = u0 + (kq D st (bareV D hs n ps st c s) (abF P s) c s tm kz).1 ∧ ξ 0 30 = g0 + goneV D hs n ps c s kz ∧ ξ 0 31 = d0 + (jq D hs n ps c s kz).2.2.2 ∧ ξ 0 32 = nI (sp0 ||| ((s &&& cm) ||| (kq D st (bareV D hs n ps st c s) (abF P s) c s tm kz).2.2.1)) ∧ ξ 0 33 = nI (lt0 ||| (kq D st (bareV D hs n ps st c s) (abF P s) c s tm kz).2.2.2) ∧ ξ 14 = (kq D st (bareV D hs n ps st c s) (abF P s) c s tm kz).2.1 := by
        intro hne hni
        unfold fX8_goes_J218
        cases hra : rab (rw_ P) s (P.idxOf (c i)) with
        | none =>
          rw [if_pos (show oI none = -4 from rfl)]
          exact no (Bool.eq_false_iff.mpr (fun q => by
            rcases hiff.mp q with ⟨w, hw1, -⟩ | q
            · rw [hra] at hw1; cases hw1
            · exact hne q)) hni
        | some w =>
          have hwn := rab_lt h5 hP s _ (Nat.le_of_lt hix) w hra
          have hnw : ¬ oI (some w) = -4 := by
            show ¬ nI w = -4
            rw [i_eq, nI_toInt (by omega), show (-4 : Int32).toInt = -4 by decide]
            omega
          rw [if_neg hnw]
          show ∃ ξ, gr (nI w) 160 _ = _ ∧ _
          rw [gr_n (by omega) (by omega)]
          show ∃ ξ, (if κ7 1 (nI w).toNatClampNeg = 4 then _ else _) = _ ∧ _
          rw [cl_n (by omega), (zw.1.2.2 w hwn).1]
          by_cases q : D 0 w = 4
          · rw [if_pos q]
            exact yes (Or.inl (hiff.mpr (Or.inl ⟨w, hra, q⟩)))
          · rw [if_neg q]
            exact no (Bool.eq_false_iff.mpr (fun q2 => by
              rcases hiff.mp q2 with ⟨w2, hw1, hw2⟩ | q3
              · rw [hra] at hw1; cases hw1; exact q hw2
              · exact hne q3)) hni
      have icy : ¬ (D 0 (c i) = 1 ∧ 5 < bsum (D 2) (abF P s (c i)) n) → ∃ ξ, fX8_goes_J199 (fun x1 x2 x3 x4 x5 x6 μ => fX8_goes_L11 fu x1 x2 x3 x4 x5 x6 μ) (nI s) st t (nI (lft c s (i + 1))) (nI (hs (c i))) (nI kk) (nI (c i)) (oI (rab (rw_ P) s (P.idxOf (c i)))) κ7 = some (((st + goneV D hs n ps c s kz) + (jq D hs n ps c s kz).2.2.2) + (kq D st (bareV D hs n ps st c s) (abF P s) c s tm kz).1, ξ) ∧
      (∀ b, b ≠ 0 → b ≠ 14 → ξ b = κ b) ∧ (∀ j, j ≠ 29 → j ≠ 30 → j ≠ 31 → j ≠ 32 → j ≠ 33 → ξ 0 j = κ 0 j) ∧ ξ 0 29 = u0 + (kq D st (bareV D hs n ps st c s) (abF P s) c s tm kz).1 ∧ ξ 0 30 = g0 + goneV D hs n ps c s kz ∧ ξ 0 31 = d0 + (jq D hs n ps c s kz).2.2.2 ∧ ξ 0 32 = nI (sp0 ||| ((s &&& cm) ||| (kq D st (bareV D hs n ps st c s) (abF P s) c s tm kz).2.2.1)) ∧ ξ 0 33 = nI (lt0 ||| (kq D st (bareV D hs n ps st c s) (abF P s) c s tm kz).2.2.2) ∧ ξ 14 = (kq D st (bareV D hs n ps st c s) (abF P s) c s tm kz).2.1 := by
        intro hne
        unfold fX8_goes_J199
        rw [gr_n (by omega) (by omega), cl_n (by omega), zd.1]
        by_cases q : D 0 (c i) = 2
        · rw [if_pos q]
          by_cases q2 : 20 < t - st
          · rw [if_pos q2]
            exact yes (Or.inr ⟨q, q2⟩)
          · rw [if_neg q2]
            exact over hne (fun z => q2 z.2)
        · rw [if_neg q]
          exact over hne (fun z => q z.1)
      have tail : ∃ ξ, fX8_goes_J90 (fun x1 x2 x3 x4 x5 x6 μ => fX8_goes_L11 fu x1 x2 x3 x4 x5 x6 μ) (nI s) st (((st + g) + d) + u) (nI (lft c s i)) (nI kk) (nI (c i)) wv x dr κ = some (((st + goneV D hs n ps c s kz) + (jq D hs n ps c s kz).2.2.2) + (kq D st (bareV D hs n ps st c s) (abF P s) c s tm kz).1, ξ) ∧
      (∀ b, b ≠ 0 → b ≠ 14 → ξ b = κ b) ∧ (∀ j, j ≠ 29 → j ≠ 30 → j ≠ 31 → j ≠ 32 → j ≠ 33 → ξ 0 j = κ 0 j) ∧ ξ 0 29 = u0 + (kq D st (bareV D hs n ps st c s) (abF P s) c s tm kz).1 ∧ ξ 0 30 = g0 + goneV D hs n ps c s kz ∧ ξ 0 31 = d0 + (jq D hs n ps c s kz).2.2.2 ∧ ξ 0 32 = nI (sp0 ||| ((s &&& cm) ||| (kq D st (bareV D hs n ps st c s) (abF P s) c s tm kz).2.2.1)) ∧ ξ 0 33 = nI (lt0 ||| (kq D st (bareV D hs n ps st c s) (abF P s) c s tm kz).2.2.2) ∧ ξ 14 = (kq D st (bareV D hs n ps st c s) (abF P s) c s tm kz).2.1 := by
        unfold fX8_goes_J90
        rw [m_ra hp h5 hP g1 hs32, bi_e]
        simp only [lb_e]
        have y29 : ∀ v, (wr κ 0 30 v) 0 29 = κ 0 29 := fun v => wr_o (by omega)
        have y31 : ∀ v w, (wr (wr κ 0 30 v) 0 29 w) 0 31 = κ 0 31 := fun v w => by rw [wr_o (by omega), wr_o (by omega)]
        rw [acn, ← ht, y29, y31, m1, m2, m3, Int32.add_assoc g0, Int32.add_assoc u0, Int32.add_assoc d0, gr_n (by omega) (by omega), cl_n (by omega), ← hκ7, gr_n (by omega) (by omega), gr_n (by omega) (by omega), zd.1, zd.2.1, e1, bt_one (c i) (by omega), hcl.1, hlf]
        by_cases q : D 0 (c i) = 1
        · rw [if_pos q, m_ab zw.2.2.1 h5 hP g1 hs32, bi_e]
          have := m_wt zw.1 hans.2
          rw [this, bi_e]
          by_cases q2 : 5 < bsum (D 2) (s &&& abm (rw_ P) (P.idxOf (c i))) n
          · rw [if_pos q2]
            exact yes (Or.inl (hiff.mpr (Or.inr ⟨q, q2⟩)))
          · rw [if_neg q2]
            exact icy (fun z => q2 z.2)
        · rw [if_neg q]
          exact icy (fun z => q z.1)
      rw [gr_n (by omega) (by omega), m_wt hd g3, bi_e, cl_n (by omega), hdo.2.1, e1, m_way hr hps hj e2, bi_e, m_ab hp h5 hP g1 g3, bi_e, bo_ok _ hanl.2, bi_e, gr_n (by omega) (by omega), hdo.1, dig_eq, ← hwv, ← hx, ← hg, ← hdd, ← hu]
      by_cases q : D 0 (c i) = 3
      · rw [if_pos q]
        rw [if_pos q] at hdr
        rw [← hdr]
        exact tail
      · rw [if_neg q]
        rw [if_neg q] at hdr
        rw [← hdr]
        exact tail
    · have hfl : (flt (rw_ R) s (kk + 1)).length = (flt (rw_ R) s kk).length := by rw [flt, if_neg e, List.append_nil]
      rw [if_neg (fun q => e ((bt_t s hs32 _ (by omega)).mp q))]
      have ih := m_goL (ps := ps) (st := st) (u0 := u0) (g0 := g0) (d0 := d0) (tm := tm) hh h5 hP hR hs2 hcm hsp hlt r (kk + 1) fu κ (by omega) (by omega) hw (by rw [hfl]; exact hm)
      rw [hfl] at ih
      exact ih
