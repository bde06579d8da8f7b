noncomputable def dc_ct (P : Nat → Prop) : Nat → Nat
  | 0 => 0
  | n + 1 => dc_ct P n + @ite Nat (P n) (Classical.propDecidable (P n)) 1 0
theorem dc_ct_t {P : Nat → Prop} {n : Nat} (h : P n) : dc_ct P (n + 1) = dc_ct P n + 1 := by
  show dc_ct P n + @ite Nat (P n) (Classical.propDecidable (P n)) 1 0 = _
  rw [if_pos h]
theorem dc_ct_f {P : Nat → Prop} {n : Nat} (h : ¬ P n) : dc_ct P (n + 1) = dc_ct P n := by
  show dc_ct P n + @ite Nat (P n) (Classical.propDecidable (P n)) 1 0 = _
  rw [if_neg h, Nat.add_zero]
theorem dc_ct_le (P : Nat → Prop) (n : Nat) : dc_ct P n ≤ n := by
  induction n with
  | zero => exact Nat.le_refl 0
  | succ n ih =>
    by_cases h : P n
    · rw [dc_ct_t h]; omega
    · rw [dc_ct_f h]; omega
theorem dc_ct_mono {P Q : Nat → Prop} {n : Nat} (h : ∀ k, k < n → P k → Q k) : dc_ct P n ≤ dc_ct Q n := by
  induction n with
  | zero => exact Nat.le_refl 0
  | succ n ih =>
    have ih2 := ih (fun k hk => h k (by omega))
    by_cases hp : P n
    · rw [dc_ct_t hp, dc_ct_t (h n (by omega) hp)]; omega
    · by_cases hq : Q n
      · rw [dc_ct_f hp, dc_ct_t hq]; omega
      · rw [dc_ct_f hp, dc_ct_f hq]; omega
theorem dc_ct_lt {P Q : Nat → Prop} {n : Nat} (h : ∀ k, k < n → P k → Q k) {k : Nat} (hk : k < n) (hq : Q k) (hp : ¬ P k) : dc_ct P n < dc_ct Q n := by
  induction n with
  | zero => omega
  | succ n ih =>
    have hm := dc_ct_mono (n := n) (fun k hk => h k (by omega))
    by_cases e : k = n
    · subst e
      rw [dc_ct_f hp, dc_ct_t hq]; omega
    · have ih2 := ih (fun k hk => h k (by omega)) (by omega)
      by_cases hpn : P n
      · rw [dc_ct_t hpn, dc_ct_t (h n (by omega) hpn)]; omega
      · by_cases hqn : Q n
        · rw [dc_ct_f hpn, dc_ct_t hqn]; omega
        · rw [dc_ct_f hpn, dc_ct_f hqn]; omega
theorem dc_ct_full {P : Nat → Prop} {n : Nat} (h : n ≤ dc_ct P n) : ∀ k, k < n → P k := by
  intro k hk
  by_cases hp : P k
  · exact hp
  · have h2 := dc_ct_lt (P := P) (Q := fun _ => True) (n := n) (fun _ _ _ => trivial) hk trivial hp
    have h3 := dc_ct_le (fun _ : Nat => True) n
    omega
theorem dc_ct_one {P : Nat → Prop} {n k : Nat} (hk : k < n) (hp : P k) : 1 ≤ dc_ct P n := by
  have h2 := dc_ct_lt (P := fun _ => False) (Q := P) (n := n) (fun _ _ z => z.elim) hk hp (fun z => z)
  omega

/-- the grammar and the string as plain numbers: rules, tokens; head, argument, length of a rule; kind, symbol, argument of an item; tokens -/
abbrev dc_G : Type := (Nat × Nat) × (Nat → Nat) × (Nat → Nat) × (Nat → Nat) × (Nat → Nat) × (Nat → Nat) × (Nat → Nat) × (Nat → Nat)
def dc_R (g : dc_G) : Nat := g.1.1
def dc_T (g : dc_G) : Nat := g.1.2
def dc_hn (g : dc_G) : Nat → Nat := g.2.1
def dc_ha (g : dc_G) : Nat → Nat := g.2.2.1
def dc_bl (g : dc_G) : Nat → Nat := g.2.2.2.1
def dc_kd (g : dc_G) : Nat → Nat := g.2.2.2.2.1
def dc_sy (g : dc_G) : Nat → Nat := g.2.2.2.2.2.1
def dc_ag (g : dc_G) : Nat → Nat := g.2.2.2.2.2.2.1
def dc_tk (g : dc_G) : Nat → Nat := g.2.2.2.2.2.2.2
def dc_W (g : dc_G) : Prop := (dc_R g ≤ 12 ∧ dc_T g ≤ 8) ∧ (∀ r, dc_hn g r < 6) ∧ (∀ r, dc_ha g r < 6) ∧ (∀ r, dc_bl g r ≤ 6) ∧ (∀ q, dc_kd g q < 3) ∧ (∀ q, dc_sy g q < 16) ∧ (∀ q, dc_kd g q = 1 → dc_sy g q < 6) ∧ (∀ q, dc_ag g q < 6) ∧ (∀ p, dc_tk g p < 16)
def dc_vl (c x0 x1 : Nat) : Nat := if c < 4 then c else if c = 4 then x0 else x1
theorem dc_vl4 {c x0 x1 : Nat} (h0 : x0 < 4) (h1 : x1 < 4) : dc_vl c x0 x1 < 4 := by
  unfold dc_vl; split
  · assumption
  · split
    · exact h0
    · exact h1
abbrev dc_Q : Type := Nat → Nat → Nat → Nat → Prop
/-- one item: the positions behind it -/
def dc_st (g : dc_G) (S : dc_Q) (x0 x1 q : Nat) (P : Nat → Prop) (j : Nat) : Prop :=
  (dc_kd g q = 0 ∧ ∃ p, p < dc_T g ∧ P p ∧ dc_tk g p = dc_sy g q ∧ j = p + 1) ∨ (dc_kd g q ≠ 0 ∧ ∃ p, p ≤ dc_T g ∧ P p ∧ p ≤ j ∧ j ≤ dc_T g ∧ S (dc_sy g q) (dc_vl (dc_ag g q) x0 x1) p j)
/-- the places behind the first k items of rule r, of the alternative that stands there -/
def dc_pl (g : dc_G) (S : dc_Q) (r x0 x1 i : Nat) : Nat → Nat → Prop
  | 0 => fun j => j = i
  | k + 1 => fun j => (dc_kd g (r * 6 + k) = 2 ∧ j = i) ∨ (dc_kd g (r * 6 + k) ≠ 2 ∧ dc_st g S x0 x1 (r * 6 + k) (dc_pl g S r x0 x1 i k) j)
/-- k ends an alternative of rule r -/
def dc_en (g : dc_G) (r k : Nat) : Prop := k ≤ dc_bl g r ∧ (k = dc_bl g r ∨ dc_kd g (r * 6 + k) = 2)
def dc_bd (g : dc_G) (S : dc_Q) (r x0 x1 i j : Nat) : Prop := ∃ k, dc_en g r k ∧ dc_pl g S r x0 x1 i k j
def dc_rd (g : dc_G) (S : dc_Q) (r v i j : Nat) : Prop := ∃ x0 x1, x0 < 4 ∧ x1 < 4 ∧ dc_vl (dc_ha g r) x0 x1 = v ∧ dc_bd g S r x0 x1 i j
def dc_Cl (g : dc_G) (S : dc_Q) : Prop := ∀ r v i j, r < dc_R g → i ≤ dc_T g → dc_rd g S r v i j → S (dc_hn g r) v i j
/-- the least closed relation -/
def dc_D (g : dc_G) : dc_Q := fun m v i j => ∀ S : dc_Q, dc_Cl g S → S m v i j
theorem dc_st_mono {g : dc_G} {S S' : dc_Q} {P P' : Nat → Prop} (hS : ∀ m v i j, S m v i j → S' m v i j) (hP : ∀ j, P j → P' j) {x0 x1 q j : Nat} (h : dc_st g S x0 x1 q P j) : dc_st g S' x0 x1 q P' j := by
  rcases h with ⟨hk, p, h1, h2, h3, h4⟩ | ⟨hk, p, h1, h2, h3, h4, h5⟩
  · exact Or.inl ⟨hk, p, h1, hP p h2, h3, h4⟩
  · exact Or.inr ⟨hk, p, h1, hP p h2, h3, h4, hS _ _ _ _ h5⟩
theorem dc_pl_mono {g : dc_G} {S S' : dc_Q} (hS : ∀ m v i j, S m v i j → S' m v i j) {r x0 x1 i : Nat} : ∀ {k j : Nat}, dc_pl g S r x0 x1 i k j → dc_pl g S' r x0 x1 i k j := by
  intro k
  induction k with
  | zero => intro j h; exact h
  | succ k ih =>
    intro j h
    rcases h with h | ⟨h1, h2⟩
    · exact Or.inl h
    · exact Or.inr ⟨h1, dc_st_mono hS (fun j => ih) h2⟩
theorem dc_bd_mono {g : dc_G} {S S' : dc_Q} (hS : ∀ m v i j, S m v i j → S' m v i j) {r x0 x1 i j : Nat} (h : dc_bd g S r x0 x1 i j) : dc_bd g S' r x0 x1 i j := by
  obtain ⟨k, h1, h2⟩ := h
  exact ⟨k, h1, dc_pl_mono hS h2⟩
theorem dc_rd_mono {g : dc_G} {S S' : dc_Q} (hS : ∀ m v i j, S m v i j → S' m v i j) {r v i j : Nat} (h : dc_rd g S r v i j) : dc_rd g S' r v i j := by
  obtain ⟨x0, x1, h0, h1, h2, h3⟩ := h
  exact ⟨x0, x1, h0, h1, h2, dc_bd_mono hS h3⟩
theorem dc_pl_in {g : dc_G} {S : dc_Q} {r x0 x1 i : Nat} (hi : i ≤ dc_T g) : ∀ {k j : Nat}, dc_pl g S r x0 x1 i k j → i ≤ j ∧ j ≤ dc_T g := by
  intro k
  induction k with
  | zero => intro j h; have e : j = i := h; omega
  | succ k ih =>
    intro j h
    rcases h with ⟨_, h⟩ | ⟨_, ⟨_, p, h1, h2, h3, h4⟩ | ⟨_, p, h1, h2, h3, h4, h5⟩⟩
    · omega
    · have := ih h2; omega
    · have := ih h2; omega
theorem dc_D_cl (g : dc_G) : dc_Cl g (dc_D g) := by
  intro r v i j hr hi h S hS
  exact hS r v i j hr hi (dc_rd_mono (fun m v i j z => z S hS) h)
theorem dc_D_in {g : dc_G} (hW : dc_W g) {m v i j : Nat} (h : dc_D g m v i j) : m < 6 ∧ v < 4 ∧ i ≤ j ∧ j ≤ dc_T g := by
  refine h (fun m v i j => m < 6 ∧ v < 4 ∧ i ≤ j ∧ j ≤ dc_T g) ?_
  intro r v i j hr hi ⟨x0, x1, h0, h1, h2, k, h3, h4⟩
  have h5 := dc_pl_in hi h4
  exact ⟨hW.2.1 r, h2 ▸ dc_vl4 h0 h1, h5.1, h5.2⟩
theorem dc_D_of {g : dc_G} {S : dc_Q} (hc : dc_Cl g S) {m v i j : Nat} (h : dc_D g m v i j) : S m v i j := h S hc
/-- the items before k, of the alternative that stands there, are all in S -/
def dc_ok (g : dc_G) (S : Nat → Prop) (r k : Nat) : Prop := ∀ q, q < k → (∀ q', q ≤ q' → q' < k → dc_kd g (r * 6 + q') ≠ 2) → dc_kd g (r * 6 + q) = 1 ∧ S (dc_sy g (r * 6 + q))
theorem dc_ok_0 {g : dc_G} {S : Nat → Prop} {r : Nat} : dc_ok g S r 0 := fun q hq => by omega
theorem dc_ok_bar {g : dc_G} {S : Nat → Prop} {r k : Nat} (h : dc_kd g (r * 6 + k) = 2) : dc_ok g S r (k + 1) := by
  intro q hq hb
  exact absurd h (hb k (by omega) (by omega))
theorem dc_ok_s {g : dc_G} {S : Nat → Prop} {r k : Nat} (h : dc_kd g (r * 6 + k) ≠ 2) : dc_ok g S r (k + 1) ↔ (dc_ok g S r k ∧ dc_kd g (r * 6 + k) = 1 ∧ S (dc_sy g (r * 6 + k))) := by
  constructor
  · intro hk
    refine ⟨?_, ?_⟩
    · intro q hq hb
      refine hk q (by omega) ?_
      intro q' h1 h2
      by_cases e : q' = k
      · rw [e]; exact h
      · exact hb q' h1 (by omega)
    · refine hk k (by omega) ?_
      intro q' h1 h2
      have e : q' = k := by omega
      rw [e]; exact h
  · intro ⟨hk, h1⟩ q hq hb
    by_cases e : q = k
    · rw [e]; exact h1
    · exact hk q (by omega) (fun q' h2 h3 => hb q' h2 (by omega))
theorem dc_ok_mono {g : dc_G} {S S' : Nat → Prop} (hS : ∀ m, S m → S' m) {r k : Nat} (h : dc_ok g S r k) : dc_ok g S' r k := by
  intro q hq hb
  have := h q hq hb
  exact ⟨this.1, hS _ this.2⟩
/-- rule r has an alternative all in S -/
def dc_nr (g : dc_G) (S : Nat → Prop) (r : Nat) : Prop := ∃ k, dc_en g r k ∧ dc_ok g S r k
theorem dc_nr_mono {g : dc_G} {S S' : Nat → Prop} (hS : ∀ m, S m → S' m) {r : Nat} (h : dc_nr g S r) : dc_nr g S' r := by
  obtain ⟨k, h1, h2⟩ := h
  exact ⟨k, h1, dc_ok_mono hS h2⟩
def dc_NC (g : dc_G) (S : Nat → Prop) : Prop := ∀ r, r < dc_R g → dc_nr g S r → S (dc_hn g r)
/-- the nullable nonterminals -/
def dc_N (g : dc_G) (m : Nat) : Prop := ∀ S : Nat → Prop, dc_NC g S → S m
theorem dc_N_cl (g : dc_G) : dc_NC g (dc_N g) := by
  intro r hr h S hS
  exact hS r hr (dc_nr_mono (fun m z => z S hS) h)
theorem dc_N_in {g : dc_G} (hW : dc_W g) {m : Nat} (h : dc_N g m) : m < 6 := h (fun m => m < 6) (fun r _ _ => hW.2.1 r)
/-- the left edges -/
def dc_E (g : dc_G) (a b : Nat) : Prop := ∃ r k, r < dc_R g ∧ dc_hn g r = a ∧ k < dc_bl g r ∧ dc_kd g (r * 6 + k) = 1 ∧ dc_ok g (dc_N g) r k ∧ dc_sy g (r * 6 + k) = b
theorem dc_E_in {g : dc_G} (hW : dc_W g) {a b : Nat} (h : dc_E g a b) : a < 6 ∧ b < 6 := by
  obtain ⟨r, k, h1, h2, h3, h4, h5, h6⟩ := h
  exact ⟨h2 ▸ hW.2.1 r, h6 ▸ hW.2.2.2.2.2.2.1 _ h4⟩
def dc_LC (g : dc_G) (m : Nat) (S : Nat → Prop) : Prop := ∀ b, (dc_E g m b ∨ ∃ a, S a ∧ dc_E g a b) → S b
/-- the nonterminals that one or more edges reach from m -/
def dc_L (g : dc_G) (m b : Nat) : Prop := ∀ S : Nat → Prop, dc_LC g m S → S b
theorem dc_L_cl (g : dc_G) (m : Nat) : dc_LC g m (dc_L g m) := by
  intro b h S hS
  apply hS
  rcases h with h | ⟨a, h1, h2⟩
  · exact Or.inl h
  · exact Or.inr ⟨a, h1 S hS, h2⟩
theorem dc_L_in {g : dc_G} (hW : dc_W g) {m b : Nat} (h : dc_L g m b) : b < 6 := by
  refine h (fun b => b < 6) ?_
  intro b h
  rcases h with h | ⟨a, _, h⟩
  · exact (dc_E_in hW h).2
  · exact (dc_E_in hW h).2
