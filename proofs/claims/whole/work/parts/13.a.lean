/-! ===== the invariant ===== -/
def DOK (n H : Nat) (D : Nat → Nat → Int32) (hs : Nat → Nat) : Prop := (n ≤ 5) ∧ (H ≤ 6) ∧ (hsOk n H D hs) ∧ (∀ o, o < n → ∃ k, k < 5 ∧ D 0 o = nI k) ∧ (∀ o, o < n → ∃ k, 1 ≤ k ∧ k ≤ 9 ∧ D 2 o = nI k) ∧ (∀ o, o < n → ∃ k, k ≤ 9 ∧ D 3 o = nI k) ∧ (∀ o, o < n → ∃ k, k ≤ 99 ∧ D 4 o = nI k) ∧ (∀ h, h < H → ∃ k, 1 ≤ k ∧ k ≤ 9 ∧ D 5 h = nI k) ∧ (∀ h, h < H → ∃ k, k ≤ 2 ∧ D 6 h = nI k)
theorem DOK.n5 {n H : Nat} {D : Nat → Nat → Int32} {hs : Nat → Nat} (h : DOK n H D hs) : n ≤ 5 := h.1
theorem DOK.h6 {n H : Nat} {D : Nat → Nat → Int32} {hs : Nat → Nat} (h : DOK n H D hs) : H ≤ 6 := h.2.1
theorem DOK.hh {n H : Nat} {D : Nat → Nat → Int32} {hs : Nat → Nat} (h : DOK n H D hs) : hsOk n H D hs := h.2.2.1
theorem DOK.kd {n H : Nat} {D : Nat → Nat → Int32} {hs : Nat → Nat} (h : DOK n H D hs) : ∀ o, o < n → ∃ k, k < 5 ∧ D 0 o = nI k := h.2.2.2.1
theorem DOK.wt {n H : Nat} {D : Nat → Nat → Int32} {hs : Nat → Nat} (h : DOK n H D hs) : ∀ o, o < n → ∃ k, 1 ≤ k ∧ k ≤ 9 ∧ D 2 o = nI k := h.2.2.2.2.1
theorem DOK.pn {n H : Nat} {D : Nat → Nat → Int32} {hs : Nat → Nat} (h : DOK n H D hs) : ∀ o, o < n → ∃ k, k ≤ 9 ∧ D 3 o = nI k := h.2.2.2.2.2.1
theorem DOK.du {n H : Nat} {D : Nat → Nat → Int32} {hs : Nat → Nat} (h : DOK n H D hs) : ∀ o, o < n → ∃ k, k ≤ 99 ∧ D 4 o = nI k := h.2.2.2.2.2.2.1
theorem DOK.mn {n H : Nat} {D : Nat → Nat → Int32} {hs : Nat → Nat} (h : DOK n H D hs) : ∀ h, h < H → ∃ k, 1 ≤ k ∧ k ≤ 9 ∧ D 5 h = nI k := h.2.2.2.2.2.2.2.1
theorem DOK.sl {n H : Nat} {D : Nat → Nat → Int32} {hs : Nat → Nat} (h : DOK n H D hs) : ∀ h, h < H → ∃ k, k ≤ 2 ∧ D 6 h = nI k := h.2.2.2.2.2.2.2.2
/-- the class's shop at sh, the reference's page at pg: the same data -/
def Pg (μ κ : Mem) (sh pg n H : Nat) (D : Nat → Nat → Int32) (hs : Nat → Nat) (P R : List Nat) (ps st : Int32) : Prop := (DOK n H D hs) ∧ (P ∈ perms n) ∧ (R ∈ perms n) ∧ (∃ k, k ≤ 60 ∧ ps = nI k) ∧ (∃ k, k ≤ 60 ∧ st = nI k) ∧ (datX μ sh n D) ∧ (roaX μ sh H D) ∧ (rowX μ (sh + 3) n P) ∧ (rowX μ (sh + 4) n R) ∧ (μ sh 6 = ps) ∧ (μ sh 7 = st) ∧ (κ 0 5 = nI n) ∧ (roaM κ H D) ∧ (∀ o, o < n → κ 4 o = D 1 o) ∧ (∀ o, o < n → κ 1 (o + pg) = D 0 o ∧ κ 1 (5 + o + pg) = D 2 o ∧ κ 1 (10 + o + pg) = D 3 o ∧ κ 1 (15 + o + pg) = D 4 o) ∧ (rowM κ (20 + pg) n P) ∧ (rowM κ (25 + pg) n R) ∧ (κ 1 (30 + pg) + 10 = ps) ∧ (κ 1 (31 + pg) = st)
theorem Pg.ok {μ κ : Mem} {sh pg n H : Nat} {D : Nat → Nat → Int32} {hs : Nat → Nat} {P R : List Nat} {ps st : Int32} (h : Pg μ κ sh pg n H D hs P R ps st) : DOK n H D hs := h.1
theorem Pg.hP {μ κ : Mem} {sh pg n H : Nat} {D : Nat → Nat → Int32} {hs : Nat → Nat} {P R : List Nat} {ps st : Int32} (h : Pg μ κ sh pg n H D hs P R ps st) : P ∈ perms n := h.2.1
theorem Pg.hR {μ κ : Mem} {sh pg n H : Nat} {D : Nat → Nat → Int32} {hs : Nat → Nat} {P R : List Nat} {ps st : Int32} (h : Pg μ κ sh pg n H D hs P R ps st) : R ∈ perms n := h.2.2.1
theorem Pg.pk {μ κ : Mem} {sh pg n H : Nat} {D : Nat → Nat → Int32} {hs : Nat → Nat} {P R : List Nat} {ps st : Int32} (h : Pg μ κ sh pg n H D hs P R ps st) : ∃ k, k ≤ 60 ∧ ps = nI k := h.2.2.2.1
theorem Pg.sk {μ κ : Mem} {sh pg n H : Nat} {D : Nat → Nat → Int32} {hs : Nat → Nat} {P R : List Nat} {ps st : Int32} (h : Pg μ κ sh pg n H D hs P R ps st) : ∃ k, k ≤ 60 ∧ st = nI k := h.2.2.2.2.1
theorem Pg.dx {μ κ : Mem} {sh pg n H : Nat} {D : Nat → Nat → Int32} {hs : Nat → Nat} {P R : List Nat} {ps st : Int32} (h : Pg μ κ sh pg n H D hs P R ps st) : datX μ sh n D := h.2.2.2.2.2.1
theorem Pg.rx {μ κ : Mem} {sh pg n H : Nat} {D : Nat → Nat → Int32} {hs : Nat → Nat} {P R : List Nat} {ps st : Int32} (h : Pg μ κ sh pg n H D hs P R ps st) : roaX μ sh H D := h.2.2.2.2.2.2.1
theorem Pg.px {μ κ : Mem} {sh pg n H : Nat} {D : Nat → Nat → Int32} {hs : Nat → Nat} {P R : List Nat} {ps st : Int32} (h : Pg μ κ sh pg n H D hs P R ps st) : rowX μ (sh + 3) n P := h.2.2.2.2.2.2.2.1
theorem Pg.qx {μ κ : Mem} {sh pg n H : Nat} {D : Nat → Nat → Int32} {hs : Nat → Nat} {P R : List Nat} {ps st : Int32} (h : Pg μ κ sh pg n H D hs P R ps st) : rowX μ (sh + 4) n R := h.2.2.2.2.2.2.2.2.1
theorem Pg.ux {μ κ : Mem} {sh pg n H : Nat} {D : Nat → Nat → Int32} {hs : Nat → Nat} {P R : List Nat} {ps st : Int32} (h : Pg μ κ sh pg n H D hs P R ps st) : μ sh 6 = ps := h.2.2.2.2.2.2.2.2.2.1
theorem Pg.sx {μ κ : Mem} {sh pg n H : Nat} {D : Nat → Nat → Int32} {hs : Nat → Nat} {P R : List Nat} {ps st : Int32} (h : Pg μ κ sh pg n H D hs P R ps st) : μ sh 7 = st := h.2.2.2.2.2.2.2.2.2.2.1
theorem Pg.nm {μ κ : Mem} {sh pg n H : Nat} {D : Nat → Nat → Int32} {hs : Nat → Nat} {P R : List Nat} {ps st : Int32} (h : Pg μ κ sh pg n H D hs P R ps st) : κ 0 5 = nI n := h.2.2.2.2.2.2.2.2.2.2.2.1
theorem Pg.rm {μ κ : Mem} {sh pg n H : Nat} {D : Nat → Nat → Int32} {hs : Nat → Nat} {P R : List Nat} {ps st : Int32} (h : Pg μ κ sh pg n H D hs P R ps st) : roaM κ H D := h.2.2.2.2.2.2.2.2.2.2.2.2.1
theorem Pg.dm {μ κ : Mem} {sh pg n H : Nat} {D : Nat → Nat → Int32} {hs : Nat → Nat} {P R : List Nat} {ps st : Int32} (h : Pg μ κ sh pg n H D hs P R ps st) : ∀ o, o < n → κ 4 o = D 1 o := h.2.2.2.2.2.2.2.2.2.2.2.2.2.1
theorem Pg.c0 {μ κ : Mem} {sh pg n H : Nat} {D : Nat → Nat → Int32} {hs : Nat → Nat} {P R : List Nat} {ps st : Int32} (h : Pg μ κ sh pg n H D hs P R ps st) : ∀ o, o < n → κ 1 (o + pg) = D 0 o ∧ κ 1 (5 + o + pg) = D 2 o ∧ κ 1 (10 + o + pg) = D 3 o ∧ κ 1 (15 + o + pg) = D 4 o := h.2.2.2.2.2.2.2.2.2.2.2.2.2.2.1
theorem Pg.pm {μ κ : Mem} {sh pg n H : Nat} {D : Nat → Nat → Int32} {hs : Nat → Nat} {P R : List Nat} {ps st : Int32} (h : Pg μ κ sh pg n H D hs P R ps st) : rowM κ (20 + pg) n P := h.2.2.2.2.2.2.2.2.2.2.2.2.2.2.2.1
theorem Pg.qm {μ κ : Mem} {sh pg n H : Nat} {D : Nat → Nat → Int32} {hs : Nat → Nat} {P R : List Nat} {ps st : Int32} (h : Pg μ κ sh pg n H D hs P R ps st) : rowM κ (25 + pg) n R := h.2.2.2.2.2.2.2.2.2.2.2.2.2.2.2.2.1
theorem Pg.um {μ κ : Mem} {sh pg n H : Nat} {D : Nat → Nat → Int32} {hs : Nat → Nat} {P R : List Nat} {ps st : Int32} (h : Pg μ κ sh pg n H D hs P R ps st) : κ 1 (30 + pg) + 10 = ps := h.2.2.2.2.2.2.2.2.2.2.2.2.2.2.2.2.2.1
theorem Pg.sm {μ κ : Mem} {sh pg n H : Nat} {D : Nat → Nat → Int32} {hs : Nat → Nat} {P R : List Nat} {ps st : Int32} (h : Pg μ κ sh pg n H D hs P R ps st) : κ 1 (31 + pg) = st := h.2.2.2.2.2.2.2.2.2.2.2.2.2.2.2.2.2.2
def PG (μ κ : Mem) (sh pg : Nat) : Prop := ∃ n H D hs P R ps st, Pg μ κ sh pg n H D hs P R ps st
theorem Pg.f {μ κ ν ξ : Mem} {sh pg n H : Nat} {D : Nat → Nat → Int32} {hs : Nat → Nat} {P R : List Nat} {ps st : Int32} (h : Pg μ κ sh pg n H D hs P R ps st) (hx : ∀ b, sh ≤ b → b ≤ sh + 4 → ν b = μ b) (k3 : ξ 0 3 = κ 0 3) (k5 : ξ 0 5 = κ 0 5) (k2 : ξ 2 = κ 2) (k33 : ξ 3 = κ 3) (k4 : ξ 4 = κ 4) (k1 : ∀ j, j < 32 → ξ 1 (j + pg) = κ 1 (j + pg)) : Pg ν ξ sh pg n H D hs P R ps st := by
  have hn := h.ok.n5
  have e0 : ν sh = μ sh := hx _ (by omega) (by omega)
  have e1 : ν (sh + 1) = μ (sh + 1) := hx _ (by omega) (by omega)
  have e2 : ν (sh + 2) = μ (sh + 2) := hx _ (by omega) (by omega)
  have e3 : ν (sh + 3) = μ (sh + 3) := hx _ (by omega) (by omega)
  have e4 : ν (sh + 4) = μ (sh + 4) := hx _ (by omega) (by omega)
  refine ⟨h.ok, h.hP, h.hR, h.pk, h.sk, ⟨by rw [e0]; exact h.dx.1, h.dx.2.1, by rw [e2]; exact h.dx.2.2⟩, ⟨by rw [e0]; exact h.rx.1, h.rx.2.1, by rw [e1]; exact h.rx.2.2⟩, fun i hi => by rw [e3]; exact h.px i hi, fun i hi => by rw [e4]; exact h.qx i hi, by rw [e0]; exact h.ux, by rw [e0]; exact h.sx, by rw [k5]; exact h.nm, ⟨by rw [k3]; exact h.rm.1, h.rm.2.1, by rw [k2, k33]; exact h.rm.2.2⟩, by rw [k4]; exact h.dm, ?_, ?_, ?_, by rw [k1 _ (by omega)]; exact h.um, by rw [k1 _ (by omega)]; exact h.sm⟩
  · intro o ho
    have := h.c0 o ho
    rw [k1 _ (by omega), k1 _ (by omega), k1 _ (by omega), k1 _ (by omega)]
    exact this
  · intro i hi
    have := h.pm i hi
    rw [show 20 + pg + i = (20 + i) + pg by omega, k1 _ (by omega)]
    rw [show 20 + pg + i = (20 + i) + pg by omega] at this
    exact this
  · intro i hi
    have := h.qm i hi
    rw [show 25 + pg + i = (25 + i) + pg by omega, k1 _ (by omega)]
    rw [show 25 + pg + i = (25 + i) + pg by omega] at this
    exact this
def imgI (μ κ : Mem) (k : Nat) : Prop := (μ 35 k = 0 ∧ κ 16 k = 0) ∨ (μ 35 k = 1 ∧ κ 16 k = 1 ∧ PG μ κ (8 + 5 * k) (32 * (k + 1)))
def senI (μ κ : Mem) : Prop := ∃ q n, q ≤ 6 ∧ n ≤ 5 ∧ κ 0 5 = nI n ∧ μ 31 2 = nI q ∧ κ 0 39 = nI q ∧ ∀ j, j < q → ∃ o, o < n ∧ μ 32 j = nI o ∧ κ 15 (2 * j) = nI o ∧ μ 33 j = κ 15 (2 * j + 1)
def tapI (μ κ : Mem) : Prop := ∃ t, t ≤ 160 ∧ μ 1 1 = nI t ∧ κ 0 18 = nI t ∧ ∀ i, i < t → ∃ c, c < 128 ∧ μ 2 i = nI c ∧ κ 11 i = nI c
def shtI (μ κ : Mem) (k : Nat) : Prop := (μ 43 k = -1 ∧ κ 17 k = -4) ∨ (∃ z l, z ≤ 40 ∧ l < 3 ∧ μ 43 k = nI z ∧ κ 18 k = nI z ∧ μ 42 k = nI l ∧ κ 17 k = nI l ∧ ∀ i, i < 40 → μ (38 + k) i = κ 19 (40 * k + i))
def Inv (μ κ : Mem) : Prop := (PG μ κ 3 0) ∧ (∀ k, k < 2 → imgI μ κ k) ∧ (senI μ κ) ∧ (tapI μ κ) ∧ (∀ k, k < 4 → shtI μ κ k) ∧ (μ 0 9 = κ 0 19) ∧ (μ 0 10 = κ 0 44) ∧ (κ 12 = mM0 12) ∧ (κ 13 = mM0 13)
theorem Inv.main {μ κ : Mem} (h : Inv μ κ) : PG μ κ 3 0 := h.1
theorem Inv.img {μ κ : Mem} (h : Inv μ κ) : ∀ k, k < 2 → imgI μ κ k := h.2.1
theorem Inv.sen {μ κ : Mem} (h : Inv μ κ) : senI μ κ := h.2.2.1
theorem Inv.tap {μ κ : Mem} (h : Inv μ κ) : tapI μ κ := h.2.2.2.1
theorem Inv.sht {μ κ : Mem} (h : Inv μ κ) : ∀ k, k < 4 → shtI μ κ k := h.2.2.2.2.1
theorem Inv.flt {μ κ : Mem} (h : Inv μ κ) : μ 0 9 = κ 0 19 := h.2.2.2.2.2.1
theorem Inv.trn {μ κ : Mem} (h : Inv μ κ) : μ 0 10 = κ 0 44 := h.2.2.2.2.2.2.1
theorem Inv.cut {μ κ : Mem} (h : Inv μ κ) : κ 12 = mM0 12 := h.2.2.2.2.2.2.2.1
theorem Inv.ltr {μ κ : Mem} (h : Inv μ κ) : κ 13 = mM0 13 := h.2.2.2.2.2.2.2.2
/-- the reference's memory outside of its pages: the same where it matters -/
def AgM0 (κ ξ : Mem) : Prop := (ξ 0 3 = κ 0 3) ∧ (ξ 0 5 = κ 0 5) ∧ (ξ 0 18 = κ 0 18) ∧ (ξ 0 19 = κ 0 19) ∧ (ξ 0 39 = κ 0 39) ∧ (ξ 0 44 = κ 0 44) ∧ (ξ 2 = κ 2) ∧ (ξ 3 = κ 3) ∧ (ξ 4 = κ 4) ∧ (ξ 11 = κ 11) ∧ (ξ 12 = κ 12) ∧ (ξ 13 = κ 13) ∧ (ξ 15 = κ 15) ∧ (ξ 16 = κ 16) ∧ (ξ 17 = κ 17) ∧ (ξ 18 = κ 18) ∧ (ξ 19 = κ 19)
theorem AgM0.f3 {κ ξ : Mem} (h : AgM0 κ ξ) : ξ 0 3 = κ 0 3 := h.1
theorem AgM0.f5 {κ ξ : Mem} (h : AgM0 κ ξ) : ξ 0 5 = κ 0 5 := h.2.1
theorem AgM0.f18 {κ ξ : Mem} (h : AgM0 κ ξ) : ξ 0 18 = κ 0 18 := h.2.2.1
theorem AgM0.f19 {κ ξ : Mem} (h : AgM0 κ ξ) : ξ 0 19 = κ 0 19 := h.2.2.2.1
theorem AgM0.f39 {κ ξ : Mem} (h : AgM0 κ ξ) : ξ 0 39 = κ 0 39 := h.2.2.2.2.1
theorem AgM0.f44 {κ ξ : Mem} (h : AgM0 κ ξ) : ξ 0 44 = κ 0 44 := h.2.2.2.2.2.1
theorem AgM0.b2 {κ ξ : Mem} (h : AgM0 κ ξ) : ξ 2 = κ 2 := h.2.2.2.2.2.2.1
theorem AgM0.b3 {κ ξ : Mem} (h : AgM0 κ ξ) : ξ 3 = κ 3 := h.2.2.2.2.2.2.2.1
theorem AgM0.b4 {κ ξ : Mem} (h : AgM0 κ ξ) : ξ 4 = κ 4 := h.2.2.2.2.2.2.2.2.1
theorem AgM0.b11 {κ ξ : Mem} (h : AgM0 κ ξ) : ξ 11 = κ 11 := h.2.2.2.2.2.2.2.2.2.1
theorem AgM0.b12 {κ ξ : Mem} (h : AgM0 κ ξ) : ξ 12 = κ 12 := h.2.2.2.2.2.2.2.2.2.2.1
theorem AgM0.b13 {κ ξ : Mem} (h : AgM0 κ ξ) : ξ 13 = κ 13 := h.2.2.2.2.2.2.2.2.2.2.2.1
theorem AgM0.b15 {κ ξ : Mem} (h : AgM0 κ ξ) : ξ 15 = κ 15 := h.2.2.2.2.2.2.2.2.2.2.2.2.1
theorem AgM0.b16 {κ ξ : Mem} (h : AgM0 κ ξ) : ξ 16 = κ 16 := h.2.2.2.2.2.2.2.2.2.2.2.2.2.1
theorem AgM0.b17 {κ ξ : Mem} (h : AgM0 κ ξ) : ξ 17 = κ 17 := h.2.2.2.2.2.2.2.2.2.2.2.2.2.2.1
theorem AgM0.b18 {κ ξ : Mem} (h : AgM0 κ ξ) : ξ 18 = κ 18 := h.2.2.2.2.2.2.2.2.2.2.2.2.2.2.2.1
theorem AgM0.b19 {κ ξ : Mem} (h : AgM0 κ ξ) : ξ 19 = κ 19 := h.2.2.2.2.2.2.2.2.2.2.2.2.2.2.2.2
theorem AgM0.r (κ : Mem) : AgM0 κ κ := ⟨rfl, rfl, rfl, rfl, rfl, rfl, rfl, rfl, rfl, rfl, rfl, rfl, rfl, rfl, rfl, rfl, rfl⟩
theorem AgM0.o {κ ξ : Mem} (h : ∀ b, b ≠ 1 → ξ b = κ b) : AgM0 κ ξ := by
  refine ⟨?_, ?_, ?_, ?_, ?_, ?_, ?_, ?_, ?_, ?_, ?_, ?_, ?_, ?_, ?_, ?_, ?_⟩ <;> rw [h _ (by decide)]
theorem AgM0.n {κ ξ : Mem} (hb : ∀ b, b ≠ 0 → b ≠ 1 → b ≠ 14 → ξ b = κ b) (h0 : ∀ j, j ≠ 29 → j ≠ 30 → j ≠ 31 → j ≠ 32 → j ≠ 33 → ξ 0 j = κ 0 j) : AgM0 κ ξ := by
  refine ⟨?_, ?_, ?_, ?_, ?_, ?_, ?_, ?_, ?_, ?_, ?_, ?_, ?_, ?_, ?_, ?_, ?_⟩
  all_goals first | exact h0 _ (by decide) (by decide) (by decide) (by decide) (by decide) | exact hb _ (by decide) (by decide) (by decide)
theorem AgM0.t {κ ξ ζ : Mem} (h : AgM0 κ ξ) (g : AgM0 ξ ζ) : AgM0 κ ζ := ⟨g.f3.trans h.f3, g.f5.trans h.f5, g.f18.trans h.f18, g.f19.trans h.f19, g.f39.trans h.f39, g.f44.trans h.f44, g.b2.trans h.b2, g.b3.trans h.b3, g.b4.trans h.b4, g.b11.trans h.b11, g.b12.trans h.b12, g.b13.trans h.b13, g.b15.trans h.b15, g.b16.trans h.b16, g.b17.trans h.b17, g.b18.trans h.b18, g.b19.trans h.b19⟩
theorem imgI.f {μ κ ν ξ : Mem} {k : Nat} (hk : k < 2) (h : imgI μ κ k) (hx : ∀ b, (8 ≤ b ∧ b < 18) ∨ b = 35 → ν b = μ b) (g3 : ξ 0 3 = κ 0 3) (g5 : ξ 0 5 = κ 0 5) (g2 : ξ 2 = κ 2) (g33 : ξ 3 = κ 3) (g4 : ξ 4 = κ 4) (g16 : ξ 16 = κ 16) (g1 : ∀ j, 32 ≤ j → j < 96 → ξ 1 j = κ 1 j) : imgI ν ξ k := by
  unfold imgI
  rw [hx 35 (Or.inr rfl), g16]
  rcases h with h | ⟨h1, h2, n, H, D, hs, P, R, ps, st, h⟩
  · exact Or.inl h
  · refine Or.inr ⟨h1, h2, n, H, D, hs, P, R, ps, st, h.f (fun b hb hc => hx b (Or.inl (by omega))) g3 g5 g2 g33 g4 (fun j hj => g1 _ ?_ ?_)⟩ <;> omega
theorem senI.f {μ κ ν ξ : Mem} (h : senI μ κ) (a : ν 31 = μ 31) (b : ν 32 = μ 32) (c : ν 33 = μ 33) (d : ξ 0 5 = κ 0 5) (e : ξ 0 39 = κ 0 39) (g : ξ 15 = κ 15) : senI ν ξ := by
  unfold senI; rw [a, b, c, d, e, g]; exact h
theorem tapI.f {μ κ ν ξ : Mem} (h : tapI μ κ) (a : ν 1 1 = μ 1 1) (b : ν 2 = μ 2) (e : ξ 0 18 = κ 0 18) (g : ξ 11 = κ 11) : tapI ν ξ := by
  unfold tapI; rw [a, b, e, g]; exact h
theorem shtI.f {μ κ ν ξ : Mem} {k : Nat} (h : shtI μ κ k) (a : ν 43 k = μ 43 k) (b : ν 42 k = μ 42 k) (c : ν (38 + k) = μ (38 + k)) (d : ξ 17 k = κ 17 k) (e : ξ 18 k = κ 18 k) (g : ∀ i, i < 40 → ξ 19 (40 * k + i) = κ 19 (40 * k + i)) : shtI ν ξ k := by
  unfold shtI; rw [a, b, c, d, e]
  rcases h with h | ⟨z, l, h1, h2, h3, h4, h5, h6, h7⟩
  · exact Or.inl h
  · exact Or.inr ⟨z, l, h1, h2, h3, h4, h5, h6, fun i hi => by rw [g i hi]; exact h7 i hi⟩
/-- only the shop itself was changed -/
theorem Inv.m {μ κ ν ξ : Mem} (h : Inv μ κ) (hx : ∀ b, b < 3 ∨ (7 < b ∧ b < 18) ∨ 30 < b → ν b = μ b) (hm : AgM0 κ ξ) (h1 : ∀ j, 32 ≤ j → j < 96 → ξ 1 j = κ 1 j) (hp : PG ν ξ 3 0) : Inv ν ξ := by
  refine ⟨hp, fun k hk => (h.img k hk).f hk (fun b hb => hx b (by omega)) hm.f3 hm.f5 hm.b2 hm.b3 hm.b4 hm.b16 h1, h.sen.f (hx _ (by omega)) (hx _ (by omega)) (hx _ (by omega)) hm.f5 hm.f39 hm.b15, h.tap.f (by rw [hx _ (by omega)]) (hx _ (by omega)) hm.f18 hm.b11, fun k hk => (h.sht k hk).f (by rw [hx _ (by omega)]) (by rw [hx _ (by omega)]) (hx _ (by omega)) (by rw [hm.b17]) (by rw [hm.b18]) (fun i _ => by rw [hm.b19]), ?_, ?_, by rw [hm.b12]; exact h.cut, by rw [hm.b13]; exact h.ltr⟩
  · rw [hx 0 (by omega), hm.f19]; exact h.flt
  · rw [hx 0 (by omega), hm.f44]; exact h.trn
/-- nothing that matters was changed -/
theorem Inv.f {μ κ ν ξ : Mem} (h : Inv μ κ) (hx : ∀ b, b < 18 ∨ 30 < b → ν b = μ b) (hm : AgM0 κ ξ) (h1 : ∀ j, j < 96 → ξ 1 j = κ 1 j) : Inv ν ξ := by
  obtain ⟨n, H, D, hs, P, R, ps, st, g⟩ := h.main
  exact h.m (fun b hb => hx b (by omega)) hm (fun j _ hj => h1 j hj) ⟨n, H, D, hs, P, R, ps, st, g.f (fun b h1 h2 => hx b (by omega)) hm.f3 hm.f5 hm.b2 hm.b3 hm.b4 (fun j hj => h1 _ (by omega))⟩
theorem Pg.datM {μ κ : Mem} {sh n H : Nat} {D : Nat → Nat → Int32} {hs : Nat → Nat} {P R : List Nat} {ps st : Int32} (h : Pg μ κ sh 0 n H D hs P R ps st) : datM κ n D := ⟨h.nm, h.ok.n5, fun o ho => ⟨(h.c0 o ho).1, h.dm o ho, (h.c0 o ho).2.1, (h.c0 o ho).2.2.1, (h.c0 o ho).2.2.2⟩⟩
theorem Pg.wlk {μ κ : Mem} {sh n H : Nat} {D : Nat → Nat → Int32} {hs : Nat → Nat} {P R : List Nat} {ps st : Int32} (h : Pg μ κ sh 0 n H D hs P R ps st) : wlkM κ n H D P R ps := ⟨h.datM, h.rm, h.pm, h.qm, h.um⟩
theorem Pg.shp {μ κ : Mem} {pg n H : Nat} {D : Nat → Nat → Int32} {hs : Nat → Nat} {P R : List Nat} {ps st : Int32} (h : Pg μ κ 3 pg n H D hs P R ps st) : shpX μ n H D hs P R ps st := ⟨h.dx, h.rx, h.px, h.qx, h.ux, h.sx⟩
theorem Pg.fix {μ κ : Mem} {sh pg n H : Nat} {D : Nat → Nat → Int32} {hs : Nat → Nat} {P R : List Nat} {ps st : Int32} (h : Pg μ κ sh pg n H D hs P R ps st) : fixO n H D hs P R := ⟨h.ok.n5, h.ok.hh, h.hP, h.hR⟩
