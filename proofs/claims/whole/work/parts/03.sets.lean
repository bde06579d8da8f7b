def dc_un (f : Nat → Nat) (k x : Nat) : Nat → Nat := fun j => if j = k then x else f j
theorem dc_un_s {f : Nat → Nat} {k x : Nat} : dc_un f k x k = x := if_pos rfl
theorem dc_un_n {f : Nat → Nat} {k x j : Nat} (h : j ≠ k) : dc_un f k x j = f j := if_neg h
theorem dc_un_u (f : Nat → Nat) (k x : Nat) : upd (fun r => nI (f r)) k (nI x) = fun r => nI (dc_un f k x r) := by
  funext j
  by_cases h : j = k
  · subst h; rw [pk_us, dc_un_s]
  · rw [pk_un h, dc_un_n h]
theorem dc_un_lt {f : Nat → Nat} {k x n : Nat} (hf : ∀ r, f r < n) (hx : x < n) : ∀ r, dc_un f k x r < n := by
  intro r
  by_cases h : r = k
  · subst h; rw [dc_un_s]; exact hx
  · rw [dc_un_n h]; exact hf r
/-- b is the answer of P -/
def dc_bo (P : Prop) (b : Int32) : Prop := (b = 1 ∧ P) ∨ (b = 0 ∧ ¬ P)
theorem dc_bo_u {P : Prop} {a b : Int32} (ha : dc_bo P a) (hb : dc_bo P b) : a = b := by
  rcases ha with ⟨rfl, h⟩ | ⟨rfl, h⟩ <;> rcases hb with ⟨rfl, h'⟩ | ⟨rfl, h'⟩
  · rfl
  · exact absurd h h'
  · exact absurd h' h
  · rfl
theorem dc_bo_0 {P : Prop} {b : Int32} (h : dc_bo P b) : b = 0 ↔ ¬ P := by
  rcases h with ⟨rfl, h⟩ | ⟨rfl, h⟩
  · exact ⟨fun z => absurd z (by decide), fun z => absurd h z⟩
  · exact ⟨fun _ => h, fun _ => rfl⟩
theorem dc_bo_1 {P : Prop} {b : Int32} (h : dc_bo P b) : b = 1 ↔ P := by
  rcases h with ⟨rfl, h⟩ | ⟨rfl, h⟩
  · exact ⟨fun _ => h, fun _ => rfl⟩
  · exact ⟨fun z => absurd z (by decide), fun z => absurd z h⟩
theorem dc_bo_01 {P : Prop} {b : Int32} (h : dc_bo P b) : b = 0 ∨ b = 1 := by
  rcases h with ⟨rfl, h⟩ | ⟨rfl, h⟩
  · exact Or.inr rfl
  · exact Or.inl rfl
theorem dc_bo_t {P : Prop} (h : P) : dc_bo P 1 := Or.inl ⟨rfl, h⟩
theorem dc_bo_f {P : Prop} (h : ¬ P) : dc_bo P 0 := Or.inr ⟨rfl, h⟩
theorem dc_bo_c {P Q : Prop} (e : P ↔ Q) {b : Int32} (h : dc_bo P b) : dc_bo Q b := by
  rcases h with ⟨rfl, h⟩ | ⟨rfl, h⟩
  · exact dc_bo_t (e.mp h)
  · exact dc_bo_f (fun z => h (e.mpr z))
theorem dc_nar01 {b : Int32} (h : b = 0 ∨ b = 1) : narrow .boolean (.int b) = .int b := by
  rcases h with rfl | rfl <;> rfl
theorem dc_nb1 : vp_nar .boolean 1 = 1 := rfl
theorem dc_nb0 : vp_nar .boolean 0 = 0 := rfl
theorem dc_asg : ∀ a, a < 16 → nI a &&& 3 = nI (a % 4) ∧ nI a >>> ((2 : Int32) &&& 31) = nI (a / 4) := by decide +kernel

/-! the relation as the two sides keep it -/
def dc_SX (f : Nat → Int32) : dc_Q := fun m v i j => (m < 6 ∧ v < 4 ∧ i < 9) ∧ dc_h (f ((m * 4 + v) * 9 + i)) j
def dc_SY (d : Nat → Int32) : dc_Q := fun m v i j => (m < 6 ∧ v < 4 ∧ i < 9 ∧ j < 9) ∧ d (((m * 4 + v) * 9 + i) * 9 + j) ≠ 0
def dc_su (S S' : dc_Q) : Prop := ∀ m v i j, S m v i j → S' m v i j
theorem dc_su_r (S : dc_Q) : dc_su S S := fun _ _ _ _ h => h
theorem dc_su_t {A B C : dc_Q} (h : dc_su A B) (h' : dc_su B C) : dc_su A C := fun m v i j z => h' m v i j (h m v i j z)
/-- one round over all rules: all that S gives is in S' -/
def dc_ph (g : dc_G) (S S' : dc_Q) : Prop := ∀ r v i j, r < dc_R g → i ≤ dc_T g → dc_rd g S r v i j → S' (dc_hn g r) v i j
theorem dc_ph_cl {g : dc_G} {S S' : dc_Q} (h : dc_ph g S S') (h' : dc_su S' S) : dc_Cl g S := fun r v i j hr hi z => h' _ _ _ _ (h r v i j hr hi z)
theorem dc_fin {g : dc_G} {S : dc_Q} (hc : dc_Cl g S) (hs : dc_su S (dc_D g)) (m v i j : Nat) : S m v i j ↔ dc_D g m v i j := ⟨hs m v i j, fun h => h S hc⟩
def dc_FX (g : dc_G) (f : Nat → Int32) : Prop := ∀ m v i j, m < 6 → v < 4 → i < 9 → (dc_h (f ((m * 4 + v) * 9 + i)) j ↔ dc_D g m v i j)
def dc_FY (g : dc_G) (d : Nat → Int32) : Prop := ∀ m v i j, m < 6 → v < 4 → i < 9 → j < 9 → (d (((m * 4 + v) * 9 + i) * 9 + j) ≠ 0 ↔ dc_D g m v i j)
theorem dc_FX_of {g : dc_G} {f : Nat → Int32} (hc : dc_Cl g (dc_SX f)) (hs : dc_su (dc_SX f) (dc_D g)) : dc_FX g f := by
  intro m v i j hm hv hi
  have h := dc_fin hc hs m v i j
  exact ⟨fun z => h.mp ⟨⟨hm, hv, hi⟩, z⟩, fun z => (h.mpr z).2⟩
theorem dc_FY_of {g : dc_G} {d : Nat → Int32} (hc : dc_Cl g (dc_SY d)) (hs : dc_su (dc_SY d) (dc_D g)) : dc_FY g d := by
  intro m v i j hm hv hi hj
  have h := dc_fin hc hs m v i j
  exact ⟨fun z => h.mp ⟨⟨hm, hv, hi, hj⟩, z⟩, fun z => (h.mpr z).2⟩
theorem dc_FX_S {g : dc_G} (hW : dc_W g) {f : Nat → Int32} (h : dc_FX g f) (m v i j : Nat) : dc_SX f m v i j ↔ dc_D g m v i j := by
  constructor
  · intro ⟨⟨h1, h2, h3⟩, h4⟩
    exact (h m v i j h1 h2 h3).mp h4
  · intro z
    have h1 := dc_D_in hW z
    have h2 := hW.1.2
    have h3 : i < 9 := by omega
    exact ⟨⟨h1.1, h1.2.1, h3⟩, (h m v i j h1.1 h1.2.1 h3).mpr z⟩
theorem dc_FY_S {g : dc_G} (hW : dc_W g) {d : Nat → Int32} (h : dc_FY g d) (m v i j : Nat) : dc_SY d m v i j ↔ dc_D g m v i j := by
  constructor
  · intro ⟨⟨h1, h2, h3, h4⟩, h5⟩
    exact (h m v i j h1 h2 h3 h4).mp h5
  · intro z
    have h1 := dc_D_in hW z
    have h2 := hW.1.2
    have h3 : i < 9 := by omega
    have h4 : j < 9 := by omega
    exact ⟨⟨h1.1, h1.2.1, h3, h4⟩, (h m v i j h1.1 h1.2.1 h3 h4).mpr z⟩
theorem dc_rd_c {g : dc_G} {S S' : dc_Q} (h : ∀ m v i j, S m v i j ↔ S' m v i j) (r v i j : Nat) : dc_rd g S r v i j ↔ dc_rd g S' r v i j := ⟨dc_rd_mono (fun m v i j => (h m v i j).mp), dc_rd_mono (fun m v i j => (h m v i j).mpr)⟩
theorem dc_ix {m v i m' v' i' : Nat} (hv : v < 4) (hi : i < 9) (hv' : v' < 4) (hi' : i' < 9) (h : (m * 4 + v) * 9 + i = (m' * 4 + v') * 9 + i') : m = m' ∧ v = v' ∧ i = i' := by omega
theorem dc_iy {m v i j m' v' i' j' : Nat} (hv : v < 4) (hi : i < 9) (hj : j < 9) (hv' : v' < 4) (hi' : i' < 9) (hj' : j' < 9) (h : ((m * 4 + v) * 9 + i) * 9 + j = ((m' * 4 + v') * 9 + i') * 9 + j') : m = m' ∧ v = v' ∧ i = i' ∧ j = j' := by omega
theorem dc_bd_iff (g : dc_G) (S : dc_Q) (r x0 x1 i j : Nat) : dc_bd g S r x0 x1 i j ↔ ((∃ k, k < dc_bl g r ∧ dc_kd g (r * 6 + k) = 2 ∧ dc_pl g S r x0 x1 i k j) ∨ dc_pl g S r x0 x1 i (dc_bl g r) j) := by
  constructor
  · intro ⟨k, ⟨h1, h2⟩, h3⟩
    by_cases e : k = dc_bl g r
    · exact Or.inr (e ▸ h3)
    · exact Or.inl ⟨k, by omega, h2.resolve_left e, h3⟩
  · intro h
    rcases h with ⟨k, h1, h2, h3⟩ | h
    · exact ⟨k, ⟨by omega, Or.inr h2⟩, h3⟩
    · exact ⟨_, ⟨Nat.le_refl _, Or.inl rfl⟩, h⟩
/-! counts of the two pictures -/
def dc_CX (f : Nat → Int32) (k : Nat) : Prop := dc_h (f (k / 9)) (k % 9)
def dc_CY (d : Nat → Int32) (k : Nat) : Prop := d k ≠ 0
/-- Y's chart grew from d to d', and b tells whether it did -/
def dc_pg (g : dc_G) (d d' : Nat → Int32) (b : Int32) : Prop := (∀ c, d c ≠ 0 → d' c ≠ 0) ∧ dc_su (dc_SY d') (dc_D g) ∧ ((b = 0 ∧ d' = d) ∨ (b = 1 ∧ dc_ct (dc_CY d) 1944 < dc_ct (dc_CY d') 1944))
theorem dc_pg_su {g : dc_G} {d d' : Nat → Int32} {b : Int32} (h : dc_pg g d d' b) : dc_su (dc_SY d) (dc_SY d') := fun m v i j z => ⟨z.1, h.1 _ z.2⟩
theorem dc_pg_r {g : dc_G} {d : Nat → Int32} (h : dc_su (dc_SY d) (dc_D g)) : dc_pg g d d 0 := ⟨fun _ z => z, h, Or.inl ⟨rfl, rfl⟩⟩
theorem dc_pg_01 {g : dc_G} {d d' : Nat → Int32} {b : Int32} (h : dc_pg g d d' b) : b = 0 ∨ b = 1 := by
  rcases h.2.2 with ⟨h, _⟩ | ⟨h, _⟩
  · exact Or.inl h
  · exact Or.inr h
theorem dc_pg_le {g : dc_G} {d d' : Nat → Int32} {b : Int32} (h : dc_pg g d d' b) : dc_ct (dc_CY d) 1944 ≤ dc_ct (dc_CY d') 1944 := dc_ct_mono (fun k _ z => h.1 k z)
/-- a second growth that grew -/
theorem dc_pg_t {g : dc_G} {d d' d'' : Nat → Int32} {b b' : Int32} (h : dc_pg g d d' b) (h' : dc_pg g d' d'' b') (hb : ¬ b' = 0) : dc_pg g d d'' 1 := by
  refine ⟨fun c z => h'.1 c (h.1 c z), h'.2.1, Or.inr ⟨rfl, ?_⟩⟩
  have h1 := dc_pg_le h
  rcases h'.2.2 with ⟨h2, _⟩ | ⟨_, h2⟩
  · exact absurd h2 hb
  · omega
/-- a second one that didn't -/
theorem dc_pg_f {g : dc_G} {d d' d'' : Nat → Int32} {b b' : Int32} (h : dc_pg g d d' b) (h' : dc_pg g d' d'' b') (hb : b' = 0) : dc_pg g d d'' b := by
  rcases h'.2.2 with ⟨_, rfl⟩ | ⟨h2, _⟩
  · exact h
  · rw [hb] at h2; exact absurd h2 (by decide)
/-- one cell more -/
theorem dc_pg_1 {g : dc_G} {d : Nat → Int32} {m v i j : Nat} (hs : dc_su (dc_SY d) (dc_D g)) (hm : m < 6) (hv : v < 4) (hi : i < 9) (hj : j < 9) (h0 : d (((m * 4 + v) * 9 + i) * 9 + j) = 0) (hD : dc_D g m v i j) : dc_pg g d (upd d (((m * 4 + v) * 9 + i) * 9 + j) 1) 1 := by
  have hu : ∀ c, d c ≠ 0 → upd d (((m * 4 + v) * 9 + i) * 9 + j) 1 c ≠ 0 := by
    intro c hc
    by_cases e : c = ((m * 4 + v) * 9 + i) * 9 + j
    · rw [e, pk_us]; decide
    · rw [pk_un e]; exact hc
  refine ⟨hu, ?_, Or.inr ⟨rfl, ?_⟩⟩
  · intro m' v' i' j' ⟨⟨h1, h2, h3, h4⟩, h5⟩
    by_cases e : ((m' * 4 + v') * 9 + i') * 9 + j' = ((m * 4 + v) * 9 + i) * 9 + j
    · obtain ⟨rfl, rfl, rfl, rfl⟩ := dc_iy h2 h3 h4 hv hi hj e
      exact hD
    · rw [pk_un e] at h5
      exact hs m' v' i' j' ⟨⟨h1, h2, h3, h4⟩, h5⟩
  · refine dc_ct_lt (fun k _ z => hu k z) (k := ((m * 4 + v) * 9 + i) * 9 + j) (by omega) ?_ ?_
    · show upd d _ 1 _ ≠ 0
      rw [pk_us]; decide
    · intro z; exact z h0
/-- X's: the relation grew from f to f', and b tells whether it did -/
def dc_px (g : dc_G) (f f' : Nat → Int32) (b : Int32) : Prop := dc_su (dc_SX f) (dc_SX f') ∧ dc_su (dc_SX f') (dc_D g) ∧ ((b = 0 ∧ f' = f) ∨ (b = 1 ∧ dc_ct (dc_CX f) 1944 < dc_ct (dc_CX f') 1944))
theorem dc_px_r {g : dc_G} {f : Nat → Int32} (h : dc_su (dc_SX f) (dc_D g)) : dc_px g f f 0 := ⟨fun _ _ _ _ z => z, h, Or.inl ⟨rfl, rfl⟩⟩
theorem dc_px_01 {g : dc_G} {d d' : Nat → Int32} {b : Int32} (h : dc_px g d d' b) : b = 0 ∨ b = 1 := by
  rcases h.2.2 with ⟨h, _⟩ | ⟨h, _⟩
  · exact Or.inl h
  · exact Or.inr h
theorem dc_CX_S {f : Nat → Int32} {k : Nat} (hk : k < 1944) : dc_CX f k ↔ dc_SX f (k / 9 / 9 / 4) (k / 9 / 9 % 4) (k / 9 % 9) (k % 9) := by
  unfold dc_CX dc_SX
  have e : (k / 9 / 9 / 4 * 4 + k / 9 / 9 % 4) * 9 + k / 9 % 9 = k / 9 := by omega
  rw [e]
  exact ⟨fun z => ⟨⟨by omega, by omega, by omega⟩, z⟩, fun z => z.2⟩
theorem dc_px_le {g : dc_G} {f f' : Nat → Int32} {b : Int32} (h : dc_px g f f' b) : dc_ct (dc_CX f) 1944 ≤ dc_ct (dc_CX f') 1944 := dc_ct_mono (fun _ hk z => (dc_CX_S hk).mpr (h.1 _ _ _ _ ((dc_CX_S hk).mp z)))
/-- one cell put: w holds what stood there and what D allows -/
theorem dc_px_1 {g : dc_G} (hW : dc_W g) {f0 f : Nat → Int32} {b : Int32} (h : dc_px g f0 f b) {m v i : Nat} (hm : m < 6) (hv : v < 4) (hi : i < 9) {w : Int32} (hw : ∀ j, dc_h w j → dc_D g m v i j) (hb' : b = 1 ∨ ¬ ((f ((m * 4 + v) * 9 + i)) ||| w) = f ((m * 4 + v) * 9 + i)) : dc_px g f0 (upd f ((m * 4 + v) * 9 + i) (f ((m * 4 + v) * 9 + i) ||| w)) 1 := by
  have hu : dc_su (dc_SX f) (dc_SX (upd f ((m * 4 + v) * 9 + i) (f ((m * 4 + v) * 9 + i) ||| w))) := by
    intro m' v' i' j' ⟨⟨h1, h2, h3⟩, h4⟩
    refine ⟨⟨h1, h2, h3⟩, ?_⟩
    by_cases e : (m' * 4 + v') * 9 + i' = (m * 4 + v) * 9 + i
    · rw [e, pk_us, dc_hor]
      rw [e] at h4
      exact Or.inl h4
    · rw [pk_un e]; exact h4
  refine ⟨dc_su_t h.1 hu, ?_, Or.inr ⟨rfl, ?_⟩⟩
  · intro m' v' i' j' ⟨⟨h1, h2, h3⟩, h4⟩
    by_cases e : (m' * 4 + v') * 9 + i' = (m * 4 + v) * 9 + i
    · rw [e, pk_us, dc_hor] at h4
      obtain ⟨rfl, rfl, rfl⟩ := dc_ix h2 h3 hv hi e
      rcases h4 with h4 | h4
      · exact h.2.1 _ _ _ _ ⟨⟨h1, h2, h3⟩, h4⟩
      · exact hw _ h4
    · rw [pk_un e] at h4
      exact h.2.1 _ _ _ _ ⟨⟨h1, h2, h3⟩, h4⟩
  · have hle : ∀ k, k < 1944 → dc_CX f k → dc_CX (upd f ((m * 4 + v) * 9 + i) (f ((m * 4 + v) * 9 + i) ||| w)) k := fun _ hk z => (dc_CX_S hk).mpr (hu _ _ _ _ ((dc_CX_S hk).mp z))
    have h1 := dc_px_le h
    have h2 := dc_ct_mono hle
    by_cases hb : b = 1
    · rcases h.2.2 with ⟨h3, _⟩ | ⟨_, h3⟩
      · rw [hb] at h3; exact absurd h3 (by decide)
      · omega
    · have h3 := hb'.resolve_left hb
      have h4 : ∃ j, dc_h w j ∧ ¬ dc_h (f ((m * 4 + v) * 9 + i)) j := by
        refine Classical.byContradiction fun hn => h3 (dc_hext fun j => ?_)
        rw [dc_hor]
        constructor
        · intro z
          rcases z with z | z
          · exact z
          · exact Classical.byContradiction fun hz => hn ⟨j, z, hz⟩
        · exact Or.inl
      obtain ⟨j, h5, h6⟩ := h4
      have h7 := dc_D_in hW (hw j h5)
      have h8 := hW.1.2
      have hj : j < 9 := by omega
      have e1 : (((m * 4 + v) * 9 + i) * 9 + j) / 9 = (m * 4 + v) * 9 + i := by omega
      have e2 : (((m * 4 + v) * 9 + i) * 9 + j) % 9 = j := by omega
      have h9 := dc_ct_lt hle (k := ((m * 4 + v) * 9 + i) * 9 + j) (by omega) (by
        unfold dc_CX
        rw [e1, e2, pk_us, dc_hor]
        exact Or.inr h5) (by
        unfold dc_CX
        rw [e1, e2]
        exact h6)
      omega
theorem dc_px_0 {f : Nat → Int32} {c : Nat} {w : Int32} (h : w = f c) : upd f c w = f := by
  funext k
  by_cases e : k = c
  · subst e; rw [pk_us, h]
  · rw [pk_un e]
