abbrev dc_HN (g : dc_G) : Nat → Int32 := fun r => nI (dc_hn g r)
abbrev dc_HA (g : dc_G) : Nat → Int32 := fun r => nI (dc_ha g r)
abbrev dc_BL (g : dc_G) : Nat → Int32 := fun r => nI (dc_bl g r)
abbrev dc_KD (g : dc_G) : Nat → Int32 := fun q => nI (dc_kd g q)
abbrev dc_SM (g : dc_G) : Nat → Int32 := fun q => nI (dc_sy g q)
abbrev dc_AG (g : dc_G) : Nat → Int32 := fun q => nI (dc_ag g q)
abbrev dc_TK (g : dc_G) : Nat → Int32 := fun p => nI (dc_tk g p)
theorem dc_at (f : Nat → Int32) {p : Nat} (hp : p < 2 ^ 31) : f (nI p).toNatClampNeg = f p := by rw [nI_clamp hp]
theorem dc_i6 (r k : Nat) : nI r * 6 + nI k = nI (r * 6 + k) := by
  rw [show (6 : Int32) = nI 6 from rfl, pk_mul, nI_add]
theorem dc_i4 (r k : Nat) : nI r * 4 + nI k = nI (r * 4 + k) := by
  rw [show (4 : Int32) = nI 4 from rfl, pk_mul, nI_add]
theorem dc_i9 (m v i : Nat) : (nI m * 4 + nI v) * 9 + nI i = nI ((m * 4 + v) * 9 + i) := by
  rw [dc_i4, show (9 : Int32) = nI 9 from rfl, pk_mul, nI_add]
theorem dc_i81 (m v i j : Nat) : ((nI m * 4 + nI v) * 9 + nI i) * 9 + nI j = nI (((m * 4 + v) * 9 + i) * 9 + j) := by
  rw [dc_i9, show (9 : Int32) = nI 9 from rfl, pk_mul, nI_add]
/-- X's symbol and argument cells are the grammar's where the kind reads them -/
def dc_HS (g : dc_G) (sy ag : Nat → Int32) : Prop := (∀ q, dc_kd g q ≠ 2 → sy q = nI (dc_sy g q)) ∧ (∀ q, dc_kd g q = 1 → ag q = nI (dc_ag g q))
abbrev dc_x (g : dc_G) (rc tc op cm : Int32) (sy ag f : Nat → Int32) : SX := (rc, tc, nI (dc_R g), op, cm, nI (dc_T g), dc_HN g, dc_HA g, dc_BL g, dc_KD g, sy, ag, dc_TK g, f)
abbrev dc_y (g : dc_G) (rc tc op cm : Int32) (d re nx nu ed se : Nat → Int32) : SY := (rc, tc, nI (dc_R g), nI (dc_T g), op, cm, dc_HN g, dc_HA g, dc_BL g, dc_KD g, dc_SM g, dc_AG g, dc_TK g, d, re, nx, nu, ed, se)
theorem dc_if {c d A B : Prop} (e : c ↔ d) (f : d → A) (g : ¬ d → B) : (c → A) ∧ (¬ c → B) := ⟨fun z => f (e.mp z), fun z => g (fun y => z (e.mpr y))⟩
theorem dc_exy {p : Nat} {F : Nat → Prop} {G : Prop} (h : F p ↔ G) : ((∃ q, q < p ∧ F q) ∨ G) ↔ ∃ q, q < p + 1 ∧ F q := by
  constructor
  · intro z
    rcases z with ⟨q, h1, h2⟩ | z
    · exact ⟨q, by omega, h2⟩
    · exact ⟨p, by omega, h.mpr z⟩
  · intro ⟨q, h1, h2⟩
    by_cases e : q = p
    · subst e; exact Or.inr (h.mp h2)
    · exact Or.inl ⟨q, by omega, h2⟩
theorem dc_exn {p : Nat} {F : Nat → Prop} (h : ¬ F p) : (∃ q, q < p ∧ F q) ↔ ∃ q, q < p + 1 ∧ F q := by
  constructor
  · intro ⟨q, h1, h2⟩
    exact ⟨q, by omega, h2⟩
  · intro ⟨q, h1, h2⟩
    by_cases e : q = p
    · subst e; exact absurd h2 h
    · exact ⟨q, by omega, h2⟩
theorem dc_ex0 {F : Nat → Prop} : ¬ ∃ q, q < 0 ∧ F q := fun ⟨_, h, _⟩ => absurd h (Nat.not_lt_zero _)
theorem dc_h00 {F : Nat → Prop} (j : Nat) : dc_h 0 j ↔ ∃ q, q < 0 ∧ F q := ⟨fun z => absurd z (dc_h0 j), fun z => absurd z dc_ex0⟩
theorem dc_W_T {g : dc_G} (h : dc_W g) : dc_T g ≤ 8 := h.1.2
theorem dc_W_R {g : dc_G} (h : dc_W g) : dc_R g ≤ 12 := h.1.1
theorem dc_W_hn {g : dc_G} (h : dc_W g) (r : Nat) : dc_hn g r < 6 := h.2.1 r
theorem dc_W_ha {g : dc_G} (h : dc_W g) (r : Nat) : dc_ha g r < 6 := h.2.2.1 r
theorem dc_W_bl {g : dc_G} (h : dc_W g) (r : Nat) : dc_bl g r ≤ 6 := h.2.2.2.1 r
theorem dc_W_kd {g : dc_G} (h : dc_W g) (q : Nat) : dc_kd g q < 3 := h.2.2.2.2.1 q
theorem dc_W_sy {g : dc_G} (h : dc_W g) (q : Nat) : dc_sy g q < 16 := h.2.2.2.2.2.1 q
theorem dc_W_s1 {g : dc_G} (h : dc_W g) {q : Nat} (hq : dc_kd g q = 1) : dc_sy g q < 6 := h.2.2.2.2.2.2.1 q hq
theorem dc_W_ag {g : dc_G} (h : dc_W g) (q : Nat) : dc_ag g q < 6 := h.2.2.2.2.2.2.2.1 q
theorem dc_W_tk {g : dc_G} (h : dc_W g) (p : Nat) : dc_tk g p < 16 := h.2.2.2.2.2.2.2.2 p
