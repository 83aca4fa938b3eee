/-! bounds -/
theorem sgm_nb {g : Nat → Int32} {lo : Nat} : ∀ c, (∀ k, k < c → ∃ m, m ≤ 18 ∧ g (lo + k) = nI m) → ∃ m, m ≤ 18 * c ∧ sgm g lo c = nI m
  | 0, _ => ⟨0, by omega, rfl⟩
  | c + 1, h => by
    obtain ⟨a, h1, h2⟩ := sgm_nb c (fun k hk => h k (by omega))
    obtain ⟨b, h3, h4⟩ := h c (by omega)
    exact ⟨a + b, by omega, by rw [sgm, h2, h4, nI_add]⟩
theorem lgF_nb {n H : Nat} {D : Nat → Nat → Int32} {hs : Nat → Nat} (ok : DOK n H D hs) (hv : Bool) (hard : Int32) {k : Nat} (hk : k < H) : ∃ m, m ≤ 18 ∧ lgF D hv hard k = nI m := by
  obtain ⟨a, h1, h2, h3⟩ := ok.mn k hk
  unfold lgF
  rw [h3]
  split
  · exact ⟨a * 2, by omega, by rw [show (2 : Int32) = nI 2 from rfl, pk_mul]⟩
  · exact ⟨a, by omega, Int32.mul_one _⟩
theorem way_nb {n H : Nat} {D : Nat → Nat → Int32} {hs : Nat → Nat} (ok : DOK n H D hs) {a b : Nat} (ha : a ≤ H) (hb : b ≤ H) (hv : Bool) : ∃ m, m ≤ 108 ∧ wayV D a b hv = nI m := by
  have h6 := ok.h6
  unfold wayV
  split
  · obtain ⟨m, h1, h2⟩ := sgm_nb (g := lgF D hv 1) (lo := a) (b - a) (fun k hk => lgF_nb ok hv 1 (by omega))
    exact ⟨m, by omega, h2⟩
  · obtain ⟨m, h1, h2⟩ := sgm_nb (g := lgF D hv 2) (lo := b) (a - b) (fun k hk => lgF_nb ok hv 2 (by omega))
    exact ⟨m, by omega, h2⟩
theorem jq_nb {n H s k : Nat} {D : Nat → Nat → Int32} {hs : Nat → Nat} {ps : Int32} {c : Nat → Nat} (ok : DOK n H D hs) (h : clOk n c s k) : ∀ i, i ≤ k → ∃ a b, a ≤ 108 * i ∧ b ≤ 2 * i ∧ (jq D hs n ps c s i).2.2.1 = nI a ∧ (jq D hs n ps c s i).2.2.2 = nI b
  | 0, _ => ⟨0, 0, by omega, by omega, rfl, rfl⟩
  | i + 1, hi => by
    obtain ⟨a, b, h1, h2, h3, h4⟩ := jq_nb (ps := ps) ok h i (by omega)
    have e1 := jq_h (ps := ps) ok.hh h i (by omega)
    have e2 := (ok.hh (c i) (h.2.2.2.2 i (by omega)).1).2
    obtain ⟨w, h5, h6⟩ := way_nb ok e1 e2 (decide (ps < bsum (D 2) (jq D hs n ps c s i).2.1 n))
    refine ⟨a + w, b + (if D 0 (c i) = 3 then 2 else 1), by omega, by split <;> omega, ?_, ?_⟩
    · rw [jq, js1, h3, h6, nI_add]
    · rw [jq, js1, h4]
      split
      · rw [show (2 : Int32) = nI 2 from rfl, nI_add]
      · rw [show (1 : Int32) = nI 1 from rfl, nI_add]
theorem popc_le (m : Nat) : popc m ≤ 5 := by unfold popc; omega
theorem kq_nb (D : Nat → Nat → Int32) (st : Int32) (b : Nat → Int32) (ab c : Nat → Nat) (s : Nat) (tm : Nat → Int32) : ∀ i, ∃ m, m ≤ 5 * i ∧ (kq D st b ab c s tm i).1 = nI m
  | 0 => ⟨0, by omega, rfl⟩
  | i + 1 => by
    obtain ⟨m, h1, h2⟩ := kq_nb D st b ab c s tm i
    have := popc_le (ab (c i) &&& lft c s i)
    exact ⟨m + popc (ab (c i) &&& lft c s i), by omega, by rw [kq, h2, nI_add]⟩
theorem tH_nb {n H s : Nat} {D : Nat → Nat → Int32} {hs : Nat → Nat} {ps : Int32} {P R : List Nat} (ok : DOK n H D hs) (hR : R ∈ perms n) (hs2 : s < 2 ^ n) (k : Nat) : ∃ m, m ≤ k + 700 ∧ k ≤ m ∧ tH D hs n ps (nI k) P R s = nI m := by
  have hn := ok.n5
  have hc := cl_of hn hR hs2
  have hk := hc.2.1
  obtain ⟨a, b, h1, h2, h3, h4⟩ := jq_nb (ps := ps) ok hc _ (Nat.le_refl _)
  obtain ⟨w, h5, h6⟩ := way_nb ok (jq_h (ps := ps) ok.hh hc _ (Nat.le_refl _)) (Nat.zero_le H) (decide (ps < 0))
  obtain ⟨d, h7, h8⟩ := kq_nb D (nI k) (bareV D hs n ps (nI k) (rw_ (csl n R s)) s) (abF P s) (rw_ (csl n R s)) s (fun _ => 0) (csl n R s).length
  refine ⟨k + (a + w) + b + d, by omega, by omega, ?_⟩
  unfold tH tG tR tQ goneV
  rw [h3, h4, h6, h8, nI_add, nI_add, nI_add, nI_add]
theorem bsum_nb {g : Nat → Int32} (m : Nat) : ∀ k, (∀ o, o < k → ∃ a, a ≤ 9 ∧ g o = nI a) → ∃ a, a ≤ 9 * k ∧ bsum g m k = nI a
  | 0, _ => ⟨0, by omega, rfl⟩
  | k + 1, h => by
    obtain ⟨a, h1, h2⟩ := bsum_nb m k (fun o ho => h o (by omega))
    obtain ⟨b, h3, h4⟩ := h k (by omega)
    rw [bsum, h2]
    split
    · exact ⟨a + b, by omega, by rw [h4, nI_add]⟩
    · exact ⟨a, by omega, Int32.add_zero _⟩
theorem tP_nb {n H s : Nat} {D : Nat → Nat → Int32} {hs : Nat → Nat} (ok : DOK n H D hs) (ps st : Int32) (P R : List Nat) : ∃ a, a ≤ 45 ∧ tP D hs n ps st P R s = nI a := by
  have hn := ok.n5
  obtain ⟨a, h1, h2⟩ := bsum_nb (mcl (mcl s (tS D hs n ps st P R s)) (tQ D hs n ps st P R s).2.2.2) n ok.pn
  exact ⟨a, by omega, h2⟩
theorem bsum_cg (g : Nat → Int32) {m a : Nat} : ∀ k, (∀ i, i < k → m.testBit i = a.testBit i) → bsum g m k = bsum g a k
  | 0, _ => rfl
  | k + 1, h => by rw [bsum, bsum, bsum_cg g k (fun i hi => h i (by omega)), h k (by omega)]
/-! count -/
theorem sgm_cg {D : Nat → Nat → Int32} (hard : Int32) (lo : Nat) : ∀ c, sgm (lgF D false hard) lo c = sgm (D 5) lo c
  | 0 => rfl
  | c + 1 => by
    rw [sgm, sgm, sgm_cg hard lo c]
    unfold lgF
    rw [if_neg (fun h => absurd h.1 (by decide)), Int32.mul_one]
theorem m_ctA {κ : Mem} {n : Nat} {D : Nat → Nat → Int32} (h : datM κ n D) (x1 : Int32) : ∀ (r i fu : Nat), i + r = n → r < fu → fX8_count_L7 fu x1 (bsum (D 3) (2 ^ n - 1) i) 0 (nI i) κ = fX8_count_L38 FU x1 (bsum (D 3) (2 ^ n - 1) n) 0 0 κ
  | 0, i, fu + 1, h1, _ => by
    have := h.2.1
    have e : i = n := by omega
    subst e
    rw [fX8_count_L7, h.1, if_pos (by rw [le_nI (by omega) (by omega)]; omega), lb_e]
  | r + 1, i, fu + 1, h1, h2 => by
    have := h.2.1
    have q := m_ctA h x1 r (i + 1) fu (by omega) (by omega)
    rw [bsum, all_tb n (by omega) i (by omega), if_pos rfl] at q
    rw [fX8_count_L7, h.1, if_neg (by rw [le_nI (by omega) (by omega)]; omega), show (10 : Int32) = nI 10 from rfl, nI_add, gr_n (by omega) (by omega), cl_n (by omega), lb_e, lb_e, nI_s1, (h.2.2 i (by omega)).2.2.2.1]
    exact q
def cntE (x1 p w : Int32) (κ : Mem) : Option (Int32 × Mem) := if x1 = (0 : Int32) then (some ((κ 0 39), κ)) else (if x1 = (1 : Int32) then (gr (0 : Int32) 2 <| if (κ 16 (0 : Int32).toNatClampNeg) = (0 : Int32) then (fX8_count_J123 (0 : Int32) κ) else (fX8_count_J123 (1 : Int32) κ)) else (if x1 = (2 : Int32) then (some ((κ 0 18), κ)) else (if x1 = (3 : Int32) then (gr (0 : Int32) 4 <| if (κ 17 (0 : Int32).toNatClampNeg) = (-4 : Int32) then (fX8_count_J166 (-4 : Int32) κ) else (gr (0 : Int32) 4 <| fX8_count_J166 (κ 18 (0 : Int32).toNatClampNeg) κ)) else (if x1 = (4 : Int32) then (some (p, κ)) else (if x1 = (5 : Int32) then (some (w, κ)) else (some ((-1 : Int32), κ)))))))
theorem m_ctB {κ : Mem} {H : Nat} {D : Nat → Nat → Int32} (h : roaM κ H D) (x1 p : Int32) : ∀ (r i fu : Nat), i + r = H → r < fu → fX8_count_L38 fu x1 p (sgm (D 5) 0 i) (nI i) κ = cntE x1 p (sgm (D 5) 0 H) κ
  | 0, i, fu + 1, h1, _ => by
    have := h.2.1
    have e : i = H := by omega
    subst e
    rw [fX8_count_L38, h.1, if_pos (by rw [le_nI (by omega) (by omega)]; omega)]
    rfl
  | r + 1, i, fu + 1, h1, h2 => by
    have := h.2.1
    have q := m_ctB h x1 p r (i + 1) fu (by omega) (by omega)
    rw [sgm, Nat.zero_add] at q
    rw [fX8_count_L38, h.1, if_neg (by rw [le_nI (by omega) (by omega)]; omega), gr_n (by omega) (by omega), cl_n (by omega), lb_e, lb_e, nI_s1, (h.2.2 i (by omega)).1]
    exact q
theorem m_count {κ : Mem} {n H : Nat} {D : Nat → Nat → Int32} (hd : datM κ n D) (h : roaM κ H D) (x1 : Int32) : fX8_count x1 κ = cntE x1 (bsum (D 3) (2 ^ n - 1) n) (sgm (D 5) 0 H) κ := by
  have h5 := hd.2.1
  have h6 := h.2.1
  obtain ⟨q, hq⟩ := FU_s 10 (by decide)
  unfold fX8_count
  rw [lb_e, lb_e, lb_e]
  have e1 := m_ctA hd x1 n 0 FU (by omega) (by omega)
  have e2 := m_ctB h x1 (bsum (D 3) (2 ^ n - 1) n) H 0 FU (by omega) (by omega)
  exact e1.trans e2
theorem st_count : ST_count Inv := by
  intro μ κ h x
  obtain ⟨n, H, D, hs, P, R, ps, st, g⟩ := h.main
  have hn := g.ok.n5
  rw [m_count g.datM g.rm]
  unfold fX7_count cntE fX7_count_J62 fX7_count_J76 fX7_count_J112 fX8_count_J123 fX8_count_J137 fX8_count_J166
  by_cases e0 : x = 0
  · rw [if_pos e0, if_pos e0]
    obtain ⟨q, n', -, -, -, c1, c2, -⟩ := h.sen
    exact ⟨_, _, _, rfl, by rw [c1, c2], h⟩
  by_cases e1 : x = 1
  · simp only [if_neg e0]; rw [if_pos e1, if_pos e1]
    have i0 : ∀ k, k < 2 → (μ 35 k = 0 ∧ κ 16 k = 0) ∨ (μ 35 k = 1 ∧ κ 16 k = 1) := by
      intro k hk
      rcases h.img k hk with a | a
      · exact Or.inl a
      · exact Or.inr ⟨a.1, a.2.1⟩
    have e2 : (0 : Int32).toNatClampNeg = 0 := by decide
    have e3 : (1 : Int32).toNatClampNeg = 1 := by decide
    rw [e2, e3, show (0 : Int32) = nI 0 from rfl, show (1 : Int32) = nI 1 from rfl, gr_n (by decide) (by decide), gr_n (by decide) (by decide), gr_n (by decide) (by decide), gr_n (by decide) (by decide)]
    rcases i0 0 (by decide) with ⟨c1, c2⟩ | ⟨c1, c2⟩ <;> rcases i0 1 (by decide) with ⟨c3, c4⟩ | ⟨c3, c4⟩ <;> rw [c1, c2, c3, c4] <;> exact ⟨_, _, _, rfl, rfl, h⟩
  by_cases e2 : x = 2
  · simp only [if_neg e0, if_neg e1]; rw [if_pos e2, if_pos e2]
    obtain ⟨t, -, c1, c2, -⟩ := h.tap
    exact ⟨_, _, _, rfl, by rw [c1, c2], h⟩
  by_cases e3 : x = 3
  · simp only [if_neg e0, if_neg e1, if_neg e2]; rw [if_pos e3, if_pos e3]
    have e2 : (0 : Int32).toNatClampNeg = 0 := by decide
    rw [e2, show (0 : Int32) = nI 0 from rfl, gr_n (by decide) (by decide), gr_n (by decide) (by decide), gr_n (by decide) (by decide), gr_n (by decide) (by decide)]
    rcases h.sht 0 (by decide) with ⟨c1, c2⟩ | ⟨z, l, h1, h2, c1, c2, c3, c4, -⟩
    · rw [c1, c2, if_neg (by decide), if_pos rfl]; exact ⟨_, _, _, rfl, rfl, h⟩
    · rw [c1, c2, c4, if_pos (by rw [le_nI (by omega) (by omega)]; omega), if_neg (by rcases (show l = 0 ∨ l = 1 ∨ l = 2 by omega) with rfl | rfl | rfl <;> decide)]; exact ⟨_, _, _, rfl, rfl, h⟩
  by_cases e4 : x = 4
  · simp only [if_neg e0, if_neg e1, if_neg e2, if_neg e3]
    have q : fX4_sum 3 (3 : Int32) μ = _ := x_sum (w := 3) g.dx (by decide)
    rw [if_pos e4, if_pos e4, q, bi_e]; exact ⟨_, _, _, rfl, rfl, h⟩
  by_cases e5 : x = 5
  · simp only [if_neg e0, if_neg e1, if_neg e2, if_neg e3, if_neg e4]
    have q : fX4_minutesBetween 3 (0 : Int32) (nI H) (0 : Int32) μ = _ := x_mb (a := 0) g.rx false (Nat.zero_le H) (Nat.le_refl H)
    rw [if_pos e5, if_pos e5, g.rx.1, q, bi_e]
    refine ⟨_, _, _, rfl, ?_, h⟩
    unfold wayV
    by_cases hh : 0 < H
    · rw [if_pos hh, sgm_cg]; rfl
    · rw [if_neg hh, show H = 0 by omega]; rfl
  simp only [if_neg e0, if_neg e1, if_neg e2, if_neg e3, if_neg e4, if_neg e5]
  exact ⟨_, _, _, rfl, rfl, h⟩
