/-! ===== a round of some orders: the class ===== -/
def flt (f : Nat → Nat) (s : Nat) : Nat → List Nat
  | 0 => []
  | k + 1 => flt f s k ++ (if s.testBit (f k) then [f k] else [])
def csl (n : Nat) (R : List Nat) (s : Nat) : List Nat := flt (rw_ R) s n
/-- what is left of s when c 0 .. c (i - 1) are out -/
def lft (c : Nat → Nat) (s : Nat) : Nat → Nat
  | 0 => s
  | i + 1 => mcl (lft c s i) (2 ^ c i)
/-- the bits of c 0 .. c (i - 1) -/
def abm (c : Nat → Nat) : Nat → Nat
  | 0 => 0
  | i + 1 => abm c i ||| 2 ^ c i
theorem cs_ok : ∀ n, n < 6 → ∀ R ∈ perms n, ∀ s, s < 2 ^ n → ((csl n R s).length ≤ n ∧ lft (rw_ (csl n R s)) s (csl n R s).length = 0 ∧ abm (rw_ (csl n R s)) (csl n R s).length = s ∧ ∀ i, i < (csl n R s).length → (rw_ (csl n R s) i < n ∧ (lft (rw_ (csl n R s)) s i).testBit (rw_ (csl n R s) i) = true ∧ lft (rw_ (csl n R s)) s i < 32 ∧ abm (rw_ (csl n R s)) i < 32 ∧ (abm (rw_ (csl n R s)) i).testBit (rw_ (csl n R s) i) = false)) := by decide +kernel
theorem cs_all : ∀ n, n < 6 → ∀ R ∈ perms n, csl n R (2 ^ n - 1) = R := by decide +kernel
theorem cs_pre : ∀ n, n < 6 → ∀ R ∈ perms n, ∀ s, s < 2 ^ n → ∀ k, k < n → ((flt (rw_ R) s k).length ≤ k ∧ (s.testBit (rw_ R k) = true → ((flt (rw_ R) s k).length < (csl n R s).length ∧ rw_ (csl n R s) (flt (rw_ R) s k).length = rw_ R k))) := by decide +kernel
theorem flt_len (f : Nat → Nat) (s : Nat) : ∀ k, (flt f s k).length ≤ k
  | 0 => Nat.le_refl 0
  | k + 1 => by
    have := flt_len f s k
    rw [flt, List.length_append]
    split <;> simp <;> omega
theorem rw_app1 (l : List Nat) (x i : Nat) : rw_ (l ++ [x]) i = if i < l.length then rw_ l i else if i = l.length then x else 0 := by
  unfold rw_
  by_cases h : i < l.length
  · rw [if_pos h, List.getD_eq_getElem?_getD, List.getD_eq_getElem?_getD, List.getElem?_append_left h]
  · rw [if_neg h]
    by_cases h2 : i = l.length
    · rw [if_pos h2, h2]; simp
    · rw [if_neg h2, List.getD_eq_getElem?_getD, List.getElem?_eq_none (by simp; omega)]; rfl
theorem x_pickL {a1 a2 n s : Nat} {R : List Nat} (h12 : a1 ≠ a2) (h23 : a2 ≠ 3) (h5 : n ≤ 5) (hR : R ∈ perms n) (hs : s < 2 ^ n) : ∀ (r k fu : Nat) (μ : Mem), k + r = n → r < fu → μ 3 5 = nI n → rowX μ a1 n R → (∀ i, i < (flt (rw_ R) s k).length → μ a2 i = nI (rw_ (flt (rw_ R) s k) i)) → ∃ ν, fX6_pick_L6 a1 a2 fu (nI s) (nI (flt (rw_ R) s k).length) (nI k) μ = some (nI (csl n R s).length, ν) ∧ (∀ b, b ≠ a2 → ν b = μ b) ∧ ∀ i, i < (csl n R s).length → ν a2 i = nI (rw_ (csl n R s) i)
  | 0, k, fu + 1, μ, h, _, hn, hr, ha => by
    have e : k = n := by omega
    subst e
    refine ⟨μ, ?_, fun _ _ => rfl, ha⟩
    rw [fX6_pick_L6, if_pos (by rw [hn]; exact nI_le (Nat.le_refl _) (by omega))]
    rfl
  | r + 1, k, fu + 1, μ, h, hf, hn, hr, ha => by
    have hl := pm_lt n (by omega) R hR k (by omega)
    have hlen := flt_len (rw_ R) s k
    have hp := pow5 n (by omega)
    rw [fX6_pick_L6, if_neg (by rw [hn]; exact nI_ge (by omega) (by omega)), gr_n (by omega) (by omega), cl_n (by omega), hr k (by omega)]
    unfold fX6_pick_J41
    simp only [lb_e, nI_s1]
    by_cases e : s.testBit (rw_ R k) = true
    · rw [if_pos ((bt_t s (by omega) _ (by omega)).mpr e), gr_n (by omega) (by omega), gr_n (by omega) (by omega), cl_n (by omega)]
      have hfl : flt (rw_ R) s (k + 1) = flt (rw_ R) s k ++ [rw_ R k] := by rw [flt, if_pos e]
      obtain ⟨ν, h1, h2, h3⟩ := x_pickL h12 h23 h5 hR hs r (k + 1) fu (wr μ a2 (flt (rw_ R) s k).length (nI (rw_ R k))) (by omega) (by omega) (by rw [wr_o (fun q => h23 q.1.symm)]; exact hn) (fun i hi => by rw [wr_f _ _ _ _ h12]; exact hr i hi) (fun i hi => by
        rw [hfl] at hi ⊢
        rw [rw_app1]
        by_cases e2 : i = (flt (rw_ R) s k).length
        · rw [e2, wr_s, if_neg (Nat.lt_irrefl _), if_pos rfl]
        · rw [List.length_append, List.length_singleton] at hi
          rw [wr_o (fun q => e2 q.2), if_pos (by omega)]
          exact ha i (by omega))
      refine ⟨ν, ?_, fun b hb => by rw [h2 b hb, wr_f _ _ _ _ hb], h3⟩
      rw [hfl, List.length_append, List.length_singleton] at h1
      exact h1
    · rw [if_neg (fun q => e ((bt_t s (by omega) _ (by omega)).mp q))]
      have hfl : flt (rw_ R) s (k + 1) = flt (rw_ R) s k := by rw [flt, if_neg e, List.append_nil]
      obtain ⟨ν, h1, h2, h3⟩ := x_pickL h12 h23 h5 hR hs r (k + 1) fu μ (by omega) (by omega) hn hr (fun i hi => by rw [hfl] at hi ⊢; exact ha i hi)
      refine ⟨ν, ?_, h2, h3⟩
      rw [hfl] at h1
      exact h1
theorem x_pick {μ : Mem} {a1 a2 n s : Nat} {R : List Nat} (h12 : a1 ≠ a2) (h23 : a2 ≠ 3) (hn : μ 3 5 = nI n) (h5 : n ≤ 5) (hr : rowX μ a1 n R) (hR : R ∈ perms n) (hs : s < 2 ^ n) : ∃ ν, fX6_pick a1 a2 (nI s) μ = some (nI (csl n R s).length, ν) ∧ (∀ b, b ≠ a2 → ν b = μ b) ∧ ∀ i, i < (csl n R s).length → ν a2 i = nI (rw_ (csl n R s) i) := by
  unfold fX6_pick
  rw [lb_e, lb_e]
  exact x_pickL h12 h23 h5 hR hs n 0 FU μ (by omega) (by show n < 4000; omega) hn hr (fun i hi => absurd hi (Nat.not_lt_zero i))
/-- the trip stands ready: the calls c, the load d, k of them -/
def trpX (μ : Mem) (k : Nat) (cs ld : List Nat) (ps st : Int32) : Prop := μ 24 6 = nI k ∧ μ 24 7 = ps ∧ μ 24 8 = st ∧ (∀ i, i < k → μ 25 i = nI (rw_ cs i)) ∧ (∀ i, i < k → μ 26 i = nI (rw_ ld i))
theorem cs_len : ∀ n, n < 6 → ∀ R ∈ perms n, ∀ P ∈ perms n, ∀ s, s < 2 ^ n → (csl n P s).length = (csl n R s).length := by
  have h : ∀ n, n < 6 → ∀ R ∈ perms n, ∀ s, s < 2 ^ n → (csl n R s).length = popc s := by decide +kernel
  intro n hn R hR P hP s hs
  rw [h n hn R hR s hs, h n hn P hP s hs]
theorem x_take {μ : Mem} {n s : Nat} {P R : List Nat} (st : Int32) (hn : μ 3 5 = nI n) (h5 : n ≤ 5) (hr : rowX μ 7 n R) (hp : rowX μ 6 n P) (hR : R ∈ perms n) (hP : P ∈ perms n) (hs : s < 2 ^ n) : ∃ ν, fX6_take (nI s) st μ = some ν ∧ (∀ b, b ≠ 24 → b ≠ 25 → b ≠ 26 → ν b = μ b) ∧ (∀ j, j ≠ 6 → j ≠ 7 → j ≠ 8 → ν 24 j = μ 24 j) ∧ trpX ν (csl n R s).length (csl n R s) (csl n P s) (μ 3 6) st := by
  unfold fX6_take
  simp only [lb_e]
  obtain ⟨ν1, h1, h2, h3⟩ := x_pick (μ := wr (wr μ 24 7 (μ 3 6)) 24 8 st) (a1 := 7) (a2 := 25) (s := s) (by decide) (by decide) (by rw [wr_o (by omega), wr_o (by omega)]; exact hn) h5 (fun i hi => by rw [wr_o (by omega), wr_o (by omega)]; exact hr i hi) hR hs
  rw [h1, bi_e]
  obtain ⟨ν2, g1, g2, g3⟩ := x_pick (μ := wr ν1 24 6 (nI (csl n R s).length)) (a1 := 6) (a2 := 26) (s := s) (by decide) (by decide) (by rw [wr_o (by omega), h2 3 (by decide), wr_o (by omega), wr_o (by omega)]; exact hn) h5 (fun i hi => by rw [wr_o (by omega), h2 6 (by decide), wr_o (by omega), wr_o (by omega)]; exact hp i hi) hP hs
  rw [g1, bi_e]
  have hl := cs_len n (by omega) R hR P hP s hs
  refine ⟨ν2, rfl, fun b b1 b2 b3 => ?_, fun j j1 j2 j3 => ?_, ?_, ?_, ?_, fun i hi => ?_, fun i hi => ?_⟩
  · rw [g2 b b3, wr_f _ _ _ _ b1, h2 b b2, wr_f _ _ _ _ b1, wr_f _ _ _ _ b1]
  · rw [g2 24 (by decide), wr_o (by omega), h2 24 (by decide), wr_o (by omega), wr_o (by omega)]
  · rw [g2 24 (by decide), wr_s]
  · rw [g2 24 (by decide), wr_o (by omega), h2 24 (by decide), wr_o (by omega), wr_s]
  · rw [g2 24 (by decide), wr_o (by omega), h2 24 (by decide), wr_s]
  · rw [g2 25 (by decide), wr_o (by omega)]
    exact h3 i hi
  · exact g3 i (by omega)
