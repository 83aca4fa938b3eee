/-! ===== the text: names ===== -/
def wrdT : List (List Nat) := [[114, 111, 97, 100], [117, 112], [100, 111, 119, 110], [111, 114, 100, 101, 114], [112, 117, 115, 104], [115, 116, 97, 114, 116], [112, 97, 99, 107], [114, 111, 117, 110, 100], [112, 108, 97, 105, 110], [101, 103, 103, 115], [105, 99, 101], [115, 111, 100, 97], [112, 97, 114, 97, 102, 102, 105, 110]]
def wdL (n : Nat) : Nat := (wrdT.getD n []).length
def wdC (n i : Nat) : Nat := (wrdT.getD n []).getD i 0
def sg (sk : Nat) : Nat := [0, 1, 2, 3, 8, 9, 10, 11, 12, 4, 5, 6, 7].getD sk 13
def agN (c : Nat → Nat) (pl n : Nat) : Nat → Bool
  | 0 => true
  | i + 1 => agN c pl n i && decide (c (pl + i) = wdC n i)
def nmE (c : Nat → Nat) (pl nx n : Nat) : Bool := decide (nx - pl = wdL n) && agN c pl n (wdL n)
theorem agN_le (c : Nat → Nat) (pl n : Nat) {i : Nat} (h : agN c pl n i = false) : ∀ d, agN c pl n (i + d) = false
  | 0 => h
  | d + 1 => by rw [← Nat.add_assoc, agN, agN_le c pl n h d, Bool.false_and]
theorem agN_v (c : Nat → Nat) (pl n : Nat) : ∀ L, agN c pl n L = true → ∀ i, i < L → c (pl + i) = wdC n i
  | 0, _, i, hi => absurd hi (by omega)
  | L + 1, h, i, hi => by
    rw [agN, Bool.and_eq_true] at h
    by_cases e : i = L
    · rw [e]; exact of_decide_eq_true h.2
    · exact agN_v c pl n L h.1 i (by omega)
theorem wd_ne : ∀ n, n < 13 → ∀ m, m < 13 → n ≠ m → (wdL n ≠ wdL m ∨ ∃ i, i < wdL n ∧ wdC n i ≠ wdC m i) := by decide +kernel
theorem wd_b : ∀ n, n < 13 → wdL n ≤ 8 ∧ ∀ i, i < wdL n → wdC n i < 128 := by decide +kernel
theorem sg_b : ∀ sk, sk < 13 → sg sk < 13 := by decide
theorem sg_len : ∀ sk, sk < 13 → (Int32.ofNat (sLen.getD sk 0)) >>> ((0 : Int32) &&& 31) = nI (wdL (sg sk)) ∧ sLen.getD sk 0 = wdL (sg sk) := by decide +kernel
theorem sg_chr : ∀ sk, sk < 13 → ∀ i, i < wdL (sg sk) → ((((sByt.getD sk []).getD i 0) &&& (255 : Int32)).toUInt32 % 65536 |>.toInt32) = nI (wdC (sg sk) i) := by decide +kernel
theorem x_len {sk : Nat} (h : sk < 13) (μ : Mem) : fJ0_length_8abf5 sk μ = some (nI (wdL (sg sk)), μ) := by
  unfold fJ0_length_8abf5
  rw [(sg_len sk h).1]
theorem x_chr {sk i : Nat} (h : sk < 13) (hi : i < wdL (sg sk)) (μ : Mem) : fJ0_charAt_5068e sk (nI i) μ = some (nI (wdC (sg sk) i), μ) := by
  have hb := (wd_b _ (sg_b sk h)).1
  unfold fJ0_charAt_5068e
  rw [gr_n (by rw [(sg_len sk h).2]; exact hi) (by rw [(sg_len sk h).2]; omega), cl_n (by omega), sg_chr sk h i hi]
theorem x_nmL {μ : Mem} {t sk pl : Nat} {c : Nat → Nat} (hx : tpX μ t c) (hs : sk < 13) (h6 : μ 23 6 = nI pl) (hl : pl + wdL (sg sk) ≤ t) : ∀ (r i fu : Nat), i + r = wdL (sg sk) → r < fu → fX1_isNamed_L32 sk fu (bI (agN c pl (sg sk) i)) (nI i) μ = some (bI (agN c pl (sg sk) (wdL (sg sk))), μ)
  | 0, i, fu + 1, h1, _ => by
    have e : i = wdL (sg sk) := by omega
    subst e
    rw [fX1_isNamed_L32]
    unfold fX1_isNamed_J78
    rw [x_len hs, bi_e, if_pos (Int32.le_refl _), ite_self]
    exact gd_t (by cases agN c pl (sg sk) (wdL (sg sk)) <;> decide)
  | r + 1, i, fu + 1, h1, h2 => by
    have h160 := hx.1
    have q := x_nmL hx hs h6 hl r (i + 1) fu (by omega) (by omega)
    have hb := (wd_b _ (sg_b sk hs))
    have hwc := hb.2 i (by omega)
    have hc := hx.2.2 (pl + i) (by omega)
    rw [fX1_isNamed_L32]
    unfold fX1_isNamed_J78 fX1_isNamed_J71
    cases e : agN c pl (sg sk) i with
    | false =>
      have := agN_le c pl (sg sk) e (r + 1)
      rw [h1] at this
      rw [if_pos bI_f, this]
      exact gd_t (Or.inl rfl)
    | true =>
      rw [if_neg bI_t, x_len hs, bi_e, if_neg (by rw [le_nI (by omega) (by omega)]; omega), h6, nI_add, gr_n (by omega) (by decide), x_chr hs (by omega), bi_e, cl_n (by omega), hc.2, ite_eqn (by omega) (by omega), lb_e, nI_s1]
      rw [agN, e, Bool.true_and] at q
      by_cases h : c (pl + i) = wdC (sg sk) i
      · rw [if_pos h]
        rw [decide_eq_true h] at q
        exact q
      · rw [if_neg h]
        rw [decide_eq_false h] at q
        exact q
theorem x_named {μ : Mem} {t sk tk pl nx : Nat} {c : Nat → Nat} (hx : tpX μ t c) (hs : sk < 13) (h5 : μ 23 5 = nI tk) (h6 : μ 23 6 = nI pl) (h7 : μ 23 7 = nI nx) (l1 : pl ≤ nx) (l2 : nx ≤ t) (l3 : tk ≤ 3) : fX1_isNamed sk μ = some (bI (decide (tk = 1) && nmE c pl nx (sg sk)), μ) := by
  have h160 := hx.1
  have hb := (wd_b _ (sg_b sk hs)).1
  obtain ⟨f, hf⟩ := FU_s 100 (by decide)
  have e0 : fX1_isNamed_J28 sk μ = some (0, μ) := by
    unfold fX1_isNamed_J28 fX1_isNamed_J29
    rw [lb_e, hf, fX1_isNamed_L32, if_pos rfl]
    exact gd_t (Or.inl rfl)
  unfold fX1_isNamed
  rw [h5, show (1 : Int32) = nI 1 from rfl, ite_eqn (by omega) (by omega), h6, h7, pk_sub l1, x_len hs, bi_e, ite_eqn (by omega) (by omega), e0]
  by_cases h1 : tk = 1
  · rw [if_pos h1, decide_eq_true h1, Bool.true_and]
    unfold nmE
    by_cases h2 : nx - pl = wdL (sg sk)
    · rw [if_pos h2, decide_eq_true h2, Bool.true_and]
      unfold fX1_isNamed_J29
      rw [lb_e]
      exact x_nmL hx hs h6 (by omega) (wdL (sg sk)) 0 FU (by omega) (by omega)
    · rw [if_neg h2, decide_eq_false h2, Bool.false_and]; rfl
  · rw [if_neg h1, decide_eq_false h1, Bool.false_and]; rfl
theorem ct_v : ∀ n, n < 14 → (mM0 12 n = nI ((List.range n).foldl (fun s i => s + wdL i) 0)) := by decide +kernel
def ctN (n : Nat) : Nat := (List.range n).foldl (fun s i => s + wdL i) 0
theorem ctN_s : ∀ n, n < 13 → ctN (n + 1) = ctN n + wdL n ∧ ctN n + wdL n ≤ 57 := by decide +kernel
theorem lt_v : ∀ n, n < 13 → ∀ i, i < wdL n → mM0 13 (ctN n + i) = nI (wdC n i) := by decide +kernel
theorem m_nmL {κ : Mem} {t n pl nx : Nat} {c : Nat → Nat} (k2 : Int32 → Mem → Option (Int32 × Mem)) (hm : tpM κ t c) (hn : n < 13) (h12 : κ 12 = mM0 12) (h13 : κ 13 = mM0 13) (h23 : κ 0 23 = nI pl) (h22 : κ 0 22 = nI nx) (hl : nx = pl + wdL n) (l2 : nx ≤ t) : ∀ (r i fu : Nat), i + r = wdL n → r < fu → fX8_nameHere_L51 k2 fu (nI n) (bI (agN c pl n i)) (nI i) κ = fX8_nameHere_J106 k2 (nI n) (bI (agN c pl n (wdL n))) κ
  | 0, i, fu + 1, h1, _ => by
    have h160 := hm.1
    have e : i = wdL n := by omega
    subst e
    rw [fX8_nameHere_L51, h22, h23, hl, pk_sub (by omega), Nat.add_sub_cancel_left, if_pos (Int32.le_refl _), ite_self]
  | r + 1, i, fu + 1, h1, h2 => by
    have h160 := hm.1
    have q := m_nmL k2 hm hn h12 h13 h23 h22 hl l2 r (i + 1) fu (by omega) (by omega)
    have hb := wd_b n hn
    have hwc := hb.2 i (by omega)
    have hc := hm.2.2 (pl + i) (by omega)
    have hct := ctN_s n hn
    have e12 : κ 12 n = nI (ctN n) := by rw [h12]; exact ct_v n (by omega)
    rw [fX8_nameHere_L51]
    unfold fX8_nameHere_J99
    cases e : agN c pl n i with
    | false =>
      have := agN_le c pl n e (r + 1)
      rw [h1] at this
      rw [if_pos bI_f, this]
    | true =>
      rw [if_neg bI_t, h22, h23, hl, pk_sub (by omega), Nat.add_sub_cancel_left, if_neg (by rw [le_nI (by omega) (by omega)]; omega), nI_add, m_byY hm (by omega), bi_e, gr_n (by omega) (by decide), cl_n (by omega), e12, nI_add, gr_n (by omega) (by decide), cl_n (by omega), h13, lt_v n hn i (by omega), ite_eqn (by omega) (by omega), lb_e, nI_s1]
      rw [agN, e, Bool.true_and] at q
      by_cases h : c (pl + i) = wdC n i
      · rw [if_pos h]
        rw [decide_eq_true h] at q
        exact q
      · rw [if_neg h]
        rw [decide_eq_false h] at q
        exact q
theorem m_nmF {κ : Mem} {t pl nx : Nat} {c : Nat → Nat} (hm : tpM κ t c) (h12 : κ 12 = mM0 12) (h13 : κ 13 = mM0 13) (h24 : κ 0 24 = 1) (h23 : κ 0 23 = nI pl) (h22 : κ 0 22 = nI nx) (l1 : pl ≤ nx) (l2 : nx ≤ t) : ∀ (r n fu : Nat), n + r = 13 → r < fu → fX8_nameHere_L2 fu (nI n) κ = some (fsF (nmE c pl nx) r n, κ)
  | 0, n, fu + 1, h1, _ => by
    have e : n = 13 := by omega
    subst e
    rw [fX8_nameHere_L2, if_pos (by decide), fsF]; rfl
  | r + 1, n, fu + 1, h1, h2 => by
    have h160 := hm.1
    have hn : n < 13 := by omega
    have q := m_nmF hm h12 h13 h24 h23 h22 l1 l2 r (n + 1) fu (by omega) (by omega)
    have hct := ctN_s n hn
    have hb := (wd_b n hn).1
    have e12 : κ 12 n = nI (ctN n) := by rw [h12]; exact ct_v n (by omega)
    have e12' : κ 12 (n + 1) = nI (ctN (n + 1)) := by rw [h12]; exact ct_v (n + 1) (by omega)
    obtain ⟨f, hf⟩ := FU_s 100 (by decide)
    have hlt : ¬ (13 : Int32) ≤ nI n := by rw [show (13 : Int32) = nI 13 from rfl, le_nI (by omega) (by omega)]; omega
    rw [fX8_nameHere_L2, if_neg hlt, if_pos h24, nI_s1, gr_n (by omega) (by decide), gr_n (by omega) (by decide), cl_n (by omega), cl_n (by omega), e12, e12', h22, h23, pk_sub l1, pk_sub (by omega), ite_eqn (by omega) (by omega), hct.1, Nat.add_sub_cancel_left, fsF]
    unfold nmE
    unfold fX8_nameHere_J48
    have j0 : fX8_nameHere_J106 (fun x1 μ => fX8_nameHere_L2 fu x1 μ) (nI n) (bI false) κ = some (fsF (nmE c pl nx) r (n + 1), κ) := by
      unfold fX8_nameHere_J106
      rw [if_pos bI_f, lb_e, nI_s1]
      exact q
    by_cases h : nx - pl = wdL n
    · have q2 := m_nmL (fun x1 μ => fX8_nameHere_L2 fu x1 μ) hm hn h12 h13 h23 h22 (by omega) l2 (wdL n) 0 FU (by omega) (by omega)
      have q2 : fX8_nameHere_L51 (fun x1 μ => fX8_nameHere_L2 fu x1 μ) FU (nI n) 1 0 κ = _ := q2
      rw [if_pos h, lb_e, q2, decide_eq_true h, Bool.true_and]
      cases agN c pl n (wdL n) with
      | false => rw [if_neg ff_t]; exact j0
      | true =>
        unfold fX8_nameHere_J106
        rw [if_neg bI_t, if_pos rfl]
    · rw [if_neg h, lb_e, hf, fX8_nameHere_L51, if_pos rfl, decide_eq_false h, Bool.false_and, if_neg ff_t]
      exact j0
theorem nm_ex (c : Nat → Nat) (pl nx : Nat) : ∃ N, N ≤ 13 ∧ ∀ n, n < 13 → nmE c pl nx n = decide (n = N) := by
  have uniq : ∀ n, n < 13 → ∀ m, m < 13 → nmE c pl nx n = true → nmE c pl nx m = true → n = m := by
    intro n hn m hm h1 h2
    unfold nmE at h1 h2
    rw [Bool.and_eq_true] at h1 h2
    have a1 := of_decide_eq_true h1.1
    have a2 := of_decide_eq_true h2.1
    by_cases e : n = m
    · exact e
    · rcases wd_ne n hn m hm e with h | ⟨i, hi, h⟩
      · omega
      · exact absurd ((agN_v c pl n _ h1.2 i hi).symm.trans (agN_v c pl m _ h2.2 i (by omega))) h
  by_cases h : ∃ n, n < 13 ∧ nmE c pl nx n = true
  · obtain ⟨N, hN, e⟩ := h
    refine ⟨N, by omega, fun n hn => ?_⟩
    by_cases q : n = N
    · rw [q, e, decide_eq_true rfl]
    · rw [decide_eq_false q]
      cases e2 : nmE c pl nx n with
      | false => rfl
      | true => exact absurd (uniq n hn N hN e2 e) q
  · refine ⟨13, Nat.le_refl _, fun n hn => ?_⟩
    rw [decide_eq_false (by omega)]
    cases e2 : nmE c pl nx n with
    | false => rfl
    | true => exact absurd ⟨n, hn, e2⟩ h
theorem fsF_cg {f g : Nat → Bool} : ∀ (r i : Nat), (∀ n, i ≤ n → n < i + r → f n = g n) → fsF f r i = fsF g r i
  | 0, _, _ => rfl
  | r + 1, i, h => by
    rw [fsF, fsF, h i (Nat.le_refl _) (by omega), fsF_cg r (i + 1) (fun n a b => h n (by omega) (by omega))]
theorem fsF_N : ∀ N, N < 14 → fsF (fun n => decide (n = N)) 13 0 = if N < 13 then nI N else -4 := by decide +kernel
/-- the name of the token: N (13: none) -/
theorem names {μ κ : Mem} {t tk pl nx v : Nat} {c : Nat → Nat} (hx : tpX μ t c) (hm : tpM κ t c) (h12 : κ 12 = mM0 12) (h13 : κ 13 = mM0 13) (h : TK μ κ t tk pl nx v) : ∃ N, N ≤ 13 ∧ (∀ sk, sk < 13 → fX1_isNamed sk μ = some (bI (decide (sg sk = N)), μ)) ∧ fX8_nameHere κ = some (if N < 13 then nI N else -4, κ) := by
  have l3 := h.l3
  obtain ⟨f, hf⟩ := FU_s 100 (by decide)
  by_cases h1 : tk = 1
  · obtain ⟨N, n1, n2⟩ := nm_ex c pl nx
    refine ⟨N, n1, fun sk hs => ?_, ?_⟩
    · rw [x_named hx hs h.x5 h.x6 h.x7 h.l1 h.l2 l3, decide_eq_true h1, Bool.true_and, n2 _ (sg_b sk hs)]
    · have q := m_nmF hm h12 h13 (by rw [h.m24, h1]; rfl) h.m23 h.m22 h.l1 h.l2 13 0 FU (by omega) (by omega)
      have q : fX8_nameHere_L2 FU 0 κ = _ := q
      unfold fX8_nameHere
      rw [lb_e, q, fsF_cg (g := fun n => decide (n = N)) 13 0 (fun n _ b => n2 n (by omega)), fsF_N N (by omega)]
  · refine ⟨13, Nat.le_refl _, fun sk hs => ?_, ?_⟩
    · have := sg_b sk hs
      rw [x_named hx hs h.x5 h.x6 h.x7 h.l1 h.l2 l3, decide_eq_false h1, Bool.false_and, decide_eq_false (by omega)]
    · unfold fX8_nameHere
      rw [lb_e, hf, fX8_nameHere_L2, if_neg (by decide), h.m24, if_neg (by rw [show (1 : Int32) = nI 1 from rfl, eq_nI (by omega) (by omega)]; exact h1), if_neg (by decide)]
      rfl
/-! ===== numbers, semicolons ===== -/
def TKs (μ κ : Mem) (t p : Nat) : Prop := ∃ tk pl nx v, p ≤ pl ∧ TK μ κ t tk pl nx v
def SM (μ κ : Mem) (t p : Nat) : Prop := TKs μ κ t p ∨ FLT μ κ
theorem TK.g {μ κ ν ξ : Mem} {t tk pl nx v : Nat} (h : TK μ κ t tk pl nx v) (a : ∀ j, 3 ≤ j → j ≤ 8 → ν 23 j = μ 23 j) (b : ∀ j, 20 ≤ j → j ≤ 25 → ξ 0 j = κ 0 j) : TK ν ξ t tk pl nx v := by
  refine ⟨?_, ?_, ?_, ?_, ?_, ?_, ?_, ?_, h.l1, h.l2, h.l3, h.e0, h.e1, fun e => ⟨(h.e2 e).1, ?_, ?_⟩⟩
  · rw [a 3 (by decide) (by decide)]; exact h.x3
  · rw [b 20 (by decide) (by decide)]; exact h.m20
  · rw [a 5 (by decide) (by decide)]; exact h.x5
  · rw [b 24 (by decide) (by decide)]; exact h.m24
  · rw [a 6 (by decide) (by decide)]; exact h.x6
  · rw [b 23 (by decide) (by decide)]; exact h.m23
  · rw [a 7 (by decide) (by decide)]; exact h.x7
  · rw [b 22 (by decide) (by decide)]; exact h.m22
  · rw [a 8 (by decide) (by decide)]; exact (h.e2 e).2.1
  · rw [b 25 (by decide) (by decide)]; exact (h.e2 e).2.2
theorem FLT.g {μ κ ν ξ : Mem} (h : FLT μ κ) (a : ∀ j, 3 ≤ j → j ≤ 8 → ν 23 j = μ 23 j) (b : ∀ j, 20 ≤ j → j ≤ 25 → ξ 0 j = κ 0 j) : FLT ν ξ := by
  obtain ⟨q, h1, h2, h3, h4, h5⟩ := h
  exact ⟨q, h1, h2, by rw [a 3 (by decide) (by decide)]; exact h3, by rw [b 20 (by decide) (by decide)]; exact h4, by rw [a 4 (by decide) (by decide), b 21 (by decide) (by decide)]; exact h5⟩
theorem SM.g {μ κ ν ξ : Mem} {t p : Nat} (h : SM μ κ t p) (a : ∀ j, 3 ≤ j → j ≤ 8 → ν 23 j = μ 23 j) (b : ∀ j, 20 ≤ j → j ≤ 25 → ξ 0 j = κ 0 j) : SM ν ξ t p := by
  rcases h with ⟨tk, pl, nx, v, h1, h2⟩ | h
  · exact Or.inl ⟨tk, pl, nx, v, h1, h2.g a b⟩
  · exact Or.inr (h.g a b)
theorem FLT.n {μ κ : Mem} (h : FLT μ κ) : ¬ μ 23 3 = 0 ∧ ¬ κ 0 20 = 0 ∧ ¬ κ 0 20 ≤ 0 ∧ fX8_step κ = some κ := by
  obtain ⟨q, h1, h2, h3, h4, -⟩ := h
  refine ⟨?_, ?_, ?_, m_stepF h1 h2 h4⟩
  · rw [h3, show (0 : Int32) = nI 0 from rfl, eq_nI (by omega) (by omega)]; omega
  · rw [h4, show (0 : Int32) = nI 0 from rfl, eq_nI (by omega) (by omega)]; omega
  · rw [h4, show (0 : Int32) = nI 0 from rfl, le_nI (by omega) (by omega)]; omega
theorem TKs.n {μ κ : Mem} {t p : Nat} (h : TKs μ κ t p) : μ 23 3 = 0 ∧ κ 0 20 = 0 := by
  obtain ⟨_, _, _, _, _, h⟩ := h
  exact ⟨h.x3, h.m20⟩
theorem SM.k {μ κ : Mem} {t p : Nat} (h : SM μ κ t p) (h3 : μ 23 3 = 0) : TKs μ κ t p := h.resolve_right (fun c => c.n.1 h3)
theorem x_numF {μ : Mem} (h : ¬ μ 23 3 = 0) (x y : Int32) : fX1_takeNumber x y μ = some (0, μ) := by
  unfold fX1_takeNumber fX1_checkNumber fX1_checkNumber_J24 fX1_checkNumber_J52
  rw [if_neg h, if_neg h, bv_e, if_neg h]
theorem m_numF {κ : Mem} (h : ¬ κ 0 20 = 0) (hs : fX8_step κ = some κ) (x y : Int32) : fX8_number x y κ = some (x, κ) := by
  unfold fX8_number fX8_number_J20 fX8_number_J47 fX8_number_J62
  rw [if_neg h, if_neg h, if_neg h, hs, bv_e]
theorem num_step {μ κ : Mem} {t p lo hi : Nat} {c : Nat → Nat} (hx : tpX μ t c) (hm : tpM κ t c) (hlo : lo < 1000) (hhi : hi < 1000) (h : SM μ κ t p) : ∃ y z ν ξ, fX1_takeNumber (nI lo) (nI hi) μ = some (y, ν) ∧ fX8_number (nI lo) (nI hi) κ = some (z, ξ) ∧ cF μ ν ∧ rF κ ξ ∧ SM ν ξ t p ∧ (ν 23 3 = 0 → μ 23 3 = 0 ∧ ∃ x, lo ≤ x ∧ x ≤ hi ∧ y = nI x ∧ z = nI x) := by
  rcases h with ⟨tk, pl, nx, v, hp, h⟩ | h
  · have l3 := h.l3
    have hfault : ∀ q, 1 ≤ q → q ≤ 6 → FLT (wr (wr μ 23 3 (nI q)) 23 4 (μ 23 6)) (wr (wr κ 0 20 (nI q)) 0 21 (κ 0 23)) := fun q h1 h2 => flt_mk q h1 h2 (by rw [h.x6, h.m23])
    unfold fX1_takeNumber fX8_number
    unfold fX1_checkNumber
    rw [if_pos h.x3, if_pos h.m20, h.x5, h.m24, show (2 : Int32) = nI 2 from rfl, ite_eqn (by omega) (by omega), ite_eqn (by omega) (by omega)]
    by_cases h2 : tk = 2
    · obtain ⟨v1, v2, v3⟩ := h.e2 h2
      rw [if_pos h2, if_pos h2]
      unfold fX1_checkNumber_J24 fX8_number_J20
      rw [if_pos h.x3, if_pos h.m20, x_within, bi_e, if_10, m_inw, bi_e, if_10, v2, v3]
      by_cases h3 : nI lo ≤ nI v ∧ nI v ≤ nI hi
      · obtain ⟨ν, ξ, a1, a2, a3, a4, a5⟩ := tok_next hx hm h
        unfold fX1_checkNumber_J52 fX8_number_J47 fX8_number_J62
        rw [if_pos h3, if_pos h3, bv_e, if_pos h.x3, if_pos h.m20, lb_e, a1, a2, bv_e, bv_e, v2, v3]
        refine ⟨_, _, _, _, rfl, rfl, a3, a4, ?_, fun _ => ⟨h.x3, v, by have := h3.1; rw [le_nI (by omega) (by omega)] at this; exact this, by have := h3.2; rw [le_nI (by omega) (by omega)] at this; exact this, rfl, rfl⟩⟩
        rcases a5 with ⟨tk', pl', nx', v', b1, b2⟩ | b
        · exact Or.inl ⟨tk', pl', nx', v', by have := h.l1; omega, b2⟩
        · exact Or.inr b
      · have hF : FLT (wr (wr μ 23 3 3) 23 4 (μ 23 6)) (wr (wr κ 0 20 3) 0 21 (κ 0 23)) := hfault 3 (by decide) (by decide)
        have hn := hF.n
        unfold fX1_checkNumber_J52 fX8_number_J47 fX8_number_J62
        rw [if_neg h3, if_neg h3, x_fail h.x3, m_fail h.m20, bv_e, bv_e, bv_e]
        rw [if_neg hn.1, if_neg hn.2.1, hn.2.2.2, bv_e]
        exact ⟨_, _, _, _, rfl, rfl, cF.fl _ _ _, rF.fl _ _ _, Or.inr hF, fun e => absurd e hn.1⟩
    · have hF := hfault 2 (by decide) (by decide)
      have hn := hF.n
      unfold fX1_checkNumber_J24 fX8_number_J20 fX1_checkNumber_J52 fX8_number_J47 fX8_number_J62
      rw [if_neg h2, if_neg h2, x_fail h.x3, m_fail h.m20, bv_e, bv_e]
      rw [if_neg hn.1, if_neg hn.2.1, if_neg hn.2.1, bv_e, if_neg hn.1, hn.2.2.2, bv_e]
      exact ⟨_, _, _, _, rfl, rfl, cF.fl _ _ _, rF.fl _ _ _, Or.inr hF, fun e => absurd e hn.1⟩
  · have hn := h.n
    rw [x_numF hn.1, m_numF hn.2.1 hn.2.2.2]
    exact ⟨_, _, _, _, rfl, rfl, cF.r _, rF.r _, Or.inr h, fun e => absurd e hn.1⟩
/-- the reference's semicolon -/
def semi (κ : Mem) : Option Mem := if (κ 0 20) = (0 : Int32) then (if (κ 0 24) = (3 : Int32) then (fX8_readLine_J126 κ) else (bv (fX8_fails (2 : Int32) κ) fun m4 => fX8_readLine_J126 m4)) else (fX8_readLine_J126 κ)
theorem bv_s (o : Option Mem) : (bv o fun m => some m) = o := by cases o <;> rfl
theorem x_semF {μ : Mem} (h : ¬ μ 23 3 = 0) : fX1_readLine_J203 μ = some μ := by
  unfold fX1_readLine_J203 fX1_takeSemicolon fX1_takeSemicolon_J24 fX1_takeSemicolon_J35
  rw [bv_s, if_neg h, if_neg h]
theorem semi_step {μ κ : Mem} {t p : Nat} {c : Nat → Nat} (hx : tpX μ t c) (hm : tpM κ t c) (h : SM μ κ t p) : ∃ ν ξ, fX1_readLine_J203 μ = some ν ∧ semi κ = some ξ ∧ cF μ ν ∧ rF κ ξ ∧ (TKs ν ξ t (p + 1) ∨ FLT ν ξ) ∧ (ν 23 3 = 0 → μ 23 3 = 0) := by
  rcases h with ⟨tk, pl, nx, v, hp, h⟩ | h
  · have l3 := h.l3
    unfold fX1_readLine_J203 fX1_takeSemicolon semi fX8_readLine_J126
    rw [bv_s, if_pos h.x3, if_pos h.m20, h.x5, h.m24, show (3 : Int32) = nI 3 from rfl, ite_eqn (by omega) (by omega), ite_eqn (by omega) (by omega)]
    unfold fX1_takeSemicolon_J24 fX1_takeSemicolon_J35
    by_cases h2 : tk = 3
    · obtain ⟨ν, ξ, a1, a2, a3, a4, a5⟩ := tok_next hx hm h
      rw [if_pos h2, if_pos h2, if_pos h.x3, a1, a2, bv_e, bv_e]
      refine ⟨_, _, rfl, rfl, a3, a4, ?_, fun _ => h.x3⟩
      rcases a5 with ⟨tk', pl', nx', v', b1, b2⟩ | b
      · exact Or.inl ⟨tk', pl', nx', v', by have := h.e1 (by omega); omega, b2⟩
      · exact Or.inr b
    · have hF : FLT (wr (wr μ 23 3 2) 23 4 (μ 23 6)) (wr (wr κ 0 20 2) 0 21 (κ 0 23)) := flt_mk 2 (by decide) (by decide) (by rw [h.x6, h.m23])
      have hn := hF.n
      rw [if_neg h2, if_neg h2, x_fail h.x3, m_fail h.m20, bv_e, bv_e]
      rw [if_neg hn.1, hn.2.2.2, bv_e]
      exact ⟨_, _, rfl, rfl, cF.fl _ _ _, rF.fl _ _ _, Or.inr hF, fun e => absurd e hn.1⟩
  · have hn := h.n
    unfold semi fX8_readLine_J126
    rw [x_semF hn.1, if_neg hn.2.1, hn.2.2.2, bv_e]
    exact ⟨_, _, rfl, rfl, cF.r _, rF.r _, Or.inr h, fun e => absurd e hn.1⟩
