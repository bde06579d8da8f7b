section
theorem pk_us {f : Nat → Int32} {k : Nat} {x : Int32} : upd f k x k = x := if_pos rfl
theorem pk_un {f : Nat → Int32} {k j : Nat} {x : Int32} (h : j ≠ k) : upd f k x j = f j := if_neg h
theorem pk_sub {a b : Nat} (h : b ≤ a) : nI a - nI b = nI (a - b) := by
  obtain ⟨c, rfl⟩ : ∃ c, a = c + b := ⟨a - b, by omega⟩
  rw [← nI_add, Int32.add_sub_cancel, Nat.add_sub_cancel]
theorem pk_m1 (n : Nat) : nI (n + 1) + (-1) = nI n := by
  rw [← nI_1, Int32.add_assoc, show (1 : Int32) + (-1) = 0 from rfl, Int32.add_zero]
theorem pk_mul (a b : Nat) : nI a * nI b = nI (a * b) := (Int32.ofNat_mul a b).symm
theorem pk_ix (x : Int32) {n : Nat} (hn : n < 2 ^ 31) : x < 0 ∨ nI n ≤ x ∨ ∃ j : Nat, j < n ∧ x = nI j := by
  by_cases h : x < 0
  · exact Or.inl h
  · obtain ⟨j, hj, rfl⟩ := nI_of h
    by_cases h2 : j < n
    · exact Or.inr (Or.inr ⟨j, h2, rfl⟩)
    · exact Or.inr (Or.inl (nI_le (by omega) hj))
theorem pk_le {x y : Int32} {A B : Prop} (a b : Nat) (f : a ≤ b → A) (g : b < a → B) (hx : x = nI a := by rfl) (hy : y = nI b := by rfl) (ha : a < 2 ^ 31 := by omega) (hb : b < 2 ^ 31 := by omega) : (x ≤ y → A) ∧ (¬ x ≤ y → B) := by
  subst hx hy
  rw [nI_leI ha hb]
  exact ⟨f, fun z => g (by omega)⟩
theorem pk_lt {x y : Int32} {A B : Prop} (a b : Nat) (f : a < b → A) (g : b ≤ a → B) (hx : x = nI a := by rfl) (hy : y = nI b := by rfl) (ha : a < 2 ^ 31 := by omega) (hb : b < 2 ^ 31 := by omega) : (x < y → A) ∧ (¬ x < y → B) := by
  subst hx hy
  rw [nI_ltI ha hb]
  exact ⟨f, fun z => g (by omega)⟩
theorem pk_eq {x y : Int32} {A B : Prop} (a b : Nat) (f : a = b → A) (g : a ≠ b → B) (hx : x = nI a := by rfl) (hy : y = nI b := by rfl) (ha : a < 2 ^ 31 := by omega) (hb : b < 2 ^ 31 := by omega) : (x = y → A) ∧ (¬ x = y → B) := by
  subst hx hy
  rw [nI_eq ha hb]
  exact ⟨f, g⟩
theorem pk_in {x : Int32} (n N : Nat) (h : n < N) (hx : x = nI n := by rfl) (hN : N < 2 ^ 31 := by omega) : vp_in x N := by
  subst hx
  exact vp_in_nI h hN
theorem pk_cl {x : Int32} (n : Nat) (hx : x = nI n := by rfl) (h : n < 2 ^ 31 := by omega) : x.toNatClampNeg = n := by
  subst hx
  exact nI_clamp h
theorem sb_m1 {p : Nat} (h : 0 < p) : nI p + (-1) = nI (p - 1) := by
  obtain ⟨q, rfl⟩ : ∃ q, p = q + 1 := ⟨p - 1, by omega⟩
  exact pk_m1 q
def bt (x : Int32) (i : Nat) : Bool := x.toBitVec.getLsbD i
theorem b_ext {x y : Int32} (h : ∀ i, i < 32 → bt x i = bt y i) : x = y := Int32.toBitVec_inj.mp (BitVec.eq_of_getLsbD_eq (fun i hi => h i hi))
theorem b_or (x y : Int32) (i : Nat) : bt (x ||| y) i = (bt x i || bt y i) := by unfold bt; rw [Int32.toBitVec_or, BitVec.getLsbD_or]
theorem b_and (x y : Int32) (i : Nat) : bt (x &&& y) i = (bt x i && bt y i) := by unfold bt; rw [Int32.toBitVec_and, BitVec.getLsbD_and]
theorem b_big {x : Int32} {i : Nat} (h : 32 ≤ i) : bt x i = false := BitVec.getLsbD_of_ge _ _ h
theorem b_0 (i : Nat) : bt 0 i = false := BitVec.getLsbD_zero
theorem s_l : ∀ n, n < 32 → ((nI n &&& 31).toBitVec.smod 32).toNat = n := by decide +kernel
theorem b_shl (n : Nat) (hn : n < 32) (x : Int32) {i : Nat} (hi : i < 32) : bt (x <<< (nI n &&& 31)) i = (decide (n ≤ i) && bt x (i - n)) := by
  unfold bt
  rw [Int32.toBitVec_shiftLeft]
  show (x.toBitVec <<< ((nI n &&& 31).toBitVec.smod 32).toNat).getLsbD i = _
  rw [s_l n hn, BitVec.getLsbD_shiftLeft]
  rcases Nat.lt_or_ge i n with h | h
  · simp [h, Nat.not_le.mpr h]
  · simp [hi, h, Nat.not_lt.mpr h]
theorem b_sshr (n : Nat) (hn : n < 32) (x : Int32) {i : Nat} (hi : i < 32) : bt (x >>> (nI n &&& 31)) i = if n + i < 32 then bt x (n + i) else bt x 31 := by
  unfold bt
  rw [Int32.toBitVec_shiftRight]
  show (x.toBitVec.sshiftRight ((nI n &&& 31).toBitVec.smod 32).toNat).getLsbD i = _
  rw [s_l n hn, BitVec.getLsbD_sshiftRight, BitVec.msb_eq_getLsbD_last]
  simp [hi]
def dc_h (w : Int32) (j : Nat) : Prop := bt w j = true
theorem dc_h0 (j : Nat) : ¬ dc_h 0 j := by
  unfold dc_h; rw [b_0]; exact Bool.noConfusion
theorem dc_hor (x y : Int32) (j : Nat) : dc_h (x ||| y) j ↔ (dc_h x j ∨ dc_h y j) := by
  unfold dc_h; rw [b_or]; exact Bool.or_eq_true _ _ ▸ Iff.rfl
theorem dc_hlt {w : Int32} {j : Nat} (h : dc_h w j) : j < 32 := by
  rcases Nat.lt_or_ge j 32 with h1 | h1
  · exact h1
  · unfold dc_h at h; rw [b_big h1] at h; exact Bool.noConfusion h
theorem dc_b1 : ∀ j, j < 32 → bt 1 j = decide (j = 0) := by decide +kernel
theorem dc_hone {k : Nat} (hk : k < 32) (j : Nat) : dc_h ((1 : Int32) <<< (nI k &&& 31)) j ↔ j = k := by
  rcases Nat.lt_or_ge j 32 with h1 | h1
  · unfold dc_h
    rw [b_shl k hk 1 h1, dc_b1 (j - k) (by omega)]
    simp only [Bool.and_eq_true, decide_eq_true_eq]
    omega
  · constructor
    · intro h; have := dc_hlt h; omega
    · intro h; omega
theorem dc_hext {x y : Int32} (h : ∀ j, dc_h x j ↔ dc_h y j) : x = y := by
  apply b_ext
  intro i _
  have hi := h i
  unfold dc_h at hi
  exact Bool.eq_iff_iff.mpr hi
theorem dc_hand1 (x : Int32) (j : Nat) : dc_h (x &&& 1) j ↔ (j = 0 ∧ dc_h x 0) := by
  rcases Nat.lt_or_ge j 32 with h1 | h1
  · unfold dc_h
    rw [b_and, dc_b1 j h1]
    simp only [Bool.and_eq_true, decide_eq_true_eq]
    constructor
    · intro h; obtain ⟨h2, rfl⟩ := h; exact ⟨rfl, h2⟩
    · intro h; obtain ⟨rfl, h2⟩ := h; exact ⟨h2, rfl⟩
  · constructor
    · intro h; have := dc_hlt h; omega
    · intro h; omega
theorem dc_h1 (j : Nat) : dc_h 1 j ↔ j = 0 := by
  rcases Nat.lt_or_ge j 32 with h1 | h1
  · unfold dc_h
    rw [dc_b1 j h1]
    simp only [decide_eq_true_eq]
  · constructor
    · intro h; have := dc_hlt h; omega
    · intro h; omega
theorem dc_hshr {p : Nat} (hp : p < 32) (w : Int32) : dc_h (w >>> (nI p &&& 31)) 0 ↔ dc_h w p := by
  unfold dc_h
  rw [b_sshr p hp w (by omega), if_pos (by omega)]
  exact Iff.rfl
theorem dc_hbit {p : Nat} (hp : p < 32) (w : Int32) : ((w >>> (nI p &&& 31)) &&& 1) = 1 ↔ dc_h w p := by
  constructor
  · intro h
    have h2 := (dc_hand1 (w >>> (nI p &&& 31)) 0)
    rw [h] at h2
    exact (dc_hshr hp w).mp (h2.mp ((dc_h1 0).mpr rfl)).2
  · intro h
    apply dc_hext
    intro j
    rw [dc_hand1, dc_h1, dc_hshr hp w]
    exact ⟨fun z => z.1, fun z => ⟨z, h⟩⟩
theorem dc_hbv {p v : Nat} (hp : p < 32) (hv : v < 32) (w : Int32) (j : Nat) : dc_h (((w >>> (nI p &&& 31)) &&& 1) <<< (nI v &&& 31)) j ↔ (j = v ∧ dc_h w p) := by
  by_cases hw : dc_h w p
  · rw [(dc_hbit hp w).mpr hw, dc_hone hv]
    exact ⟨fun z => ⟨z, hw⟩, fun z => z.1⟩
  · have e : ((w >>> (nI p &&& 31)) &&& 1) = 0 := by
      apply dc_hext
      intro i
      rw [dc_hand1, dc_hshr hp w]
      exact ⟨fun z => absurd z.2 hw, fun z => absurd z (dc_h0 i)⟩
    rw [e]
    constructor
    · intro z
      have hj := dc_hlt z
      unfold dc_h at z
      rw [b_shl v hv 0 hj, b_0, Bool.and_false] at z
      exact Bool.noConfusion z
    · intro z; exact absurd z.2 hw
theorem dc_addor {x y : Int32} (h : ∀ j, dc_h x j → ¬ dc_h y j) : x + y = x ||| y := by
  apply Int32.toBitVec_inj.mp
  rw [Int32.toBitVec_add, Int32.toBitVec_or]
  apply BitVec.add_eq_or_of_and_eq_zero
  apply BitVec.eq_of_getLsbD_eq
  intro i _
  rw [BitVec.getLsbD_and, BitVec.getLsbD_zero]
  have hi := h i
  unfold dc_h bt at hi
  cases hx : x.toBitVec.getLsbD i
  · rfl
  · cases hy : y.toBitVec.getLsbD i
    · rfl
    · exact absurd hy (hi hx)
end
section
noncomputable def dc_ct (P : Nat → Prop) : Nat → Nat
  | 0 => 0
  | n + 1 => dc_ct P n + @ite Nat (P n) (Classical.propDecidable (P n)) 1 0
theorem dc_ct_t {P : Nat → Prop} {n : Nat} (h : P n) : dc_ct P (n + 1) = dc_ct P n + 1 := by
  show dc_ct P n + @ite Nat (P n) (Classical.propDecidable (P n)) 1 0 = _
  rw [if_pos h]
theorem dc_ct_f {P : Nat → Prop} {n : Nat} (h : ¬ P n) : dc_ct P (n + 1) = dc_ct P n := by
  show dc_ct P n + @ite Nat (P n) (Classical.propDecidable (P n)) 1 0 = _
  rw [if_neg h, Nat.add_zero]
theorem dc_ct_le (P : Nat → Prop) (n : Nat) : dc_ct P n ≤ n := by
  induction n with
  | zero => exact Nat.le_refl 0
  | succ n ih =>
    by_cases h : P n
    · rw [dc_ct_t h]; omega
    · rw [dc_ct_f h]; omega
theorem dc_ct_mono {P Q : Nat → Prop} {n : Nat} (h : ∀ k, k < n → P k → Q k) : dc_ct P n ≤ dc_ct Q n := by
  induction n with
  | zero => exact Nat.le_refl 0
  | succ n ih =>
    have ih2 := ih (fun k hk => h k (by omega))
    by_cases hp : P n
    · rw [dc_ct_t hp, dc_ct_t (h n (by omega) hp)]; omega
    · by_cases hq : Q n
      · rw [dc_ct_f hp, dc_ct_t hq]; omega
      · rw [dc_ct_f hp, dc_ct_f hq]; omega
theorem dc_ct_lt {P Q : Nat → Prop} {n : Nat} (h : ∀ k, k < n → P k → Q k) {k : Nat} (hk : k < n) (hq : Q k) (hp : ¬ P k) : dc_ct P n < dc_ct Q n := by
  induction n with
  | zero => omega
  | succ n ih =>
    have hm := dc_ct_mono (n := n) (fun k hk => h k (by omega))
    by_cases e : k = n
    · subst e
      rw [dc_ct_f hp, dc_ct_t hq]; omega
    · have ih2 := ih (fun k hk => h k (by omega)) (by omega)
      by_cases hpn : P n
      · rw [dc_ct_t hpn, dc_ct_t (h n (by omega) hpn)]; omega
      · by_cases hqn : Q n
        · rw [dc_ct_f hpn, dc_ct_t hqn]; omega
        · rw [dc_ct_f hpn, dc_ct_f hqn]; omega
theorem dc_ct_full {P : Nat → Prop} {n : Nat} (h : n ≤ dc_ct P n) : ∀ k, k < n → P k := by
  intro k hk
  by_cases hp : P k
  · exact hp
  · have h2 := dc_ct_lt (P := P) (Q := fun _ => True) (n := n) (fun _ _ _ => trivial) hk trivial hp
    have h3 := dc_ct_le (fun _ : Nat => True) n
    omega
theorem dc_ct_one {P : Nat → Prop} {n k : Nat} (hk : k < n) (hp : P k) : 1 ≤ dc_ct P n := by
  have h2 := dc_ct_lt (P := fun _ => False) (Q := P) (n := n) (fun _ _ z => z.elim) hk hp (fun z => z)
  omega

/-- the grammar and the string as plain numbers: rules, tokens; head, argument, length of a rule; kind, symbol, argument of an item; tokens -/
abbrev dc_G : Type := (Nat × Nat) × (Nat → Nat) × (Nat → Nat) × (Nat → Nat) × (Nat → Nat) × (Nat → Nat) × (Nat → Nat) × (Nat → Nat)
def dc_R (g : dc_G) : Nat := g.1.1
def dc_T (g : dc_G) : Nat := g.1.2
def dc_hn (g : dc_G) : Nat → Nat := g.2.1
def dc_ha (g : dc_G) : Nat → Nat := g.2.2.1
def dc_bl (g : dc_G) : Nat → Nat := g.2.2.2.1
def dc_kd (g : dc_G) : Nat → Nat := g.2.2.2.2.1
def dc_sy (g : dc_G) : Nat → Nat := g.2.2.2.2.2.1
def dc_ag (g : dc_G) : Nat → Nat := g.2.2.2.2.2.2.1
def dc_tk (g : dc_G) : Nat → Nat := g.2.2.2.2.2.2.2
def dc_W (g : dc_G) : Prop := (dc_R g ≤ 12 ∧ dc_T g ≤ 8) ∧ (∀ r, dc_hn g r < 6) ∧ (∀ r, dc_ha g r < 6) ∧ (∀ r, dc_bl g r ≤ 6) ∧ (∀ q, dc_kd g q < 3) ∧ (∀ q, dc_sy g q < 16) ∧ (∀ q, dc_kd g q = 1 → dc_sy g q < 6) ∧ (∀ q, dc_ag g q < 6) ∧ (∀ p, dc_tk g p < 16)
def dc_vl (c x0 x1 : Nat) : Nat := if c < 4 then c else if c = 4 then x0 else x1
theorem dc_vl4 {c x0 x1 : Nat} (h0 : x0 < 4) (h1 : x1 < 4) : dc_vl c x0 x1 < 4 := by
  unfold dc_vl; split
  · assumption
  · split
    · exact h0
    · exact h1
abbrev dc_Q : Type := Nat → Nat → Nat → Nat → Prop
/-- one item: the positions behind it -/
def dc_st (g : dc_G) (S : dc_Q) (x0 x1 q : Nat) (P : Nat → Prop) (j : Nat) : Prop :=
  (dc_kd g q = 0 ∧ ∃ p, p < dc_T g ∧ P p ∧ dc_tk g p = dc_sy g q ∧ j = p + 1) ∨ (dc_kd g q ≠ 0 ∧ ∃ p, p ≤ dc_T g ∧ P p ∧ p ≤ j ∧ j ≤ dc_T g ∧ S (dc_sy g q) (dc_vl (dc_ag g q) x0 x1) p j)
/-- the places behind the first k items of rule r, of the alternative that stands there -/
def dc_pl (g : dc_G) (S : dc_Q) (r x0 x1 i : Nat) : Nat → Nat → Prop
  | 0 => fun j => j = i
  | k + 1 => fun j => (dc_kd g (r * 6 + k) = 2 ∧ j = i) ∨ (dc_kd g (r * 6 + k) ≠ 2 ∧ dc_st g S x0 x1 (r * 6 + k) (dc_pl g S r x0 x1 i k) j)
/-- k ends an alternative of rule r -/
def dc_en (g : dc_G) (r k : Nat) : Prop := k ≤ dc_bl g r ∧ (k = dc_bl g r ∨ dc_kd g (r * 6 + k) = 2)
def dc_bd (g : dc_G) (S : dc_Q) (r x0 x1 i j : Nat) : Prop := ∃ k, dc_en g r k ∧ dc_pl g S r x0 x1 i k j
def dc_rd (g : dc_G) (S : dc_Q) (r v i j : Nat) : Prop := ∃ x0 x1, x0 < 4 ∧ x1 < 4 ∧ dc_vl (dc_ha g r) x0 x1 = v ∧ dc_bd g S r x0 x1 i j
def dc_Cl (g : dc_G) (S : dc_Q) : Prop := ∀ r v i j, r < dc_R g → i ≤ dc_T g → dc_rd g S r v i j → S (dc_hn g r) v i j
/-- the least closed relation -/
def dc_D (g : dc_G) : dc_Q := fun m v i j => ∀ S : dc_Q, dc_Cl g S → S m v i j
theorem dc_st_mono {g : dc_G} {S S' : dc_Q} {P P' : Nat → Prop} (hS : ∀ m v i j, S m v i j → S' m v i j) (hP : ∀ j, P j → P' j) {x0 x1 q j : Nat} (h : dc_st g S x0 x1 q P j) : dc_st g S' x0 x1 q P' j := by
  rcases h with ⟨hk, p, h1, h2, h3, h4⟩ | ⟨hk, p, h1, h2, h3, h4, h5⟩
  · exact Or.inl ⟨hk, p, h1, hP p h2, h3, h4⟩
  · exact Or.inr ⟨hk, p, h1, hP p h2, h3, h4, hS _ _ _ _ h5⟩
theorem dc_pl_mono {g : dc_G} {S S' : dc_Q} (hS : ∀ m v i j, S m v i j → S' m v i j) {r x0 x1 i : Nat} : ∀ {k j : Nat}, dc_pl g S r x0 x1 i k j → dc_pl g S' r x0 x1 i k j := by
  intro k
  induction k with
  | zero => intro j h; exact h
  | succ k ih =>
    intro j h
    rcases h with h | ⟨h1, h2⟩
    · exact Or.inl h
    · exact Or.inr ⟨h1, dc_st_mono hS (fun j => ih) h2⟩
theorem dc_bd_mono {g : dc_G} {S S' : dc_Q} (hS : ∀ m v i j, S m v i j → S' m v i j) {r x0 x1 i j : Nat} (h : dc_bd g S r x0 x1 i j) : dc_bd g S' r x0 x1 i j := by
  obtain ⟨k, h1, h2⟩ := h
  exact ⟨k, h1, dc_pl_mono hS h2⟩
theorem dc_rd_mono {g : dc_G} {S S' : dc_Q} (hS : ∀ m v i j, S m v i j → S' m v i j) {r v i j : Nat} (h : dc_rd g S r v i j) : dc_rd g S' r v i j := by
  obtain ⟨x0, x1, h0, h1, h2, h3⟩ := h
  exact ⟨x0, x1, h0, h1, h2, dc_bd_mono hS h3⟩
theorem dc_pl_in {g : dc_G} {S : dc_Q} {r x0 x1 i : Nat} (hi : i ≤ dc_T g) : ∀ {k j : Nat}, dc_pl g S r x0 x1 i k j → i ≤ j ∧ j ≤ dc_T g := by
  intro k
  induction k with
  | zero => intro j h; have e : j = i := h; omega
  | succ k ih =>
    intro j h
    rcases h with ⟨_, h⟩ | ⟨_, ⟨_, p, h1, h2, h3, h4⟩ | ⟨_, p, h1, h2, h3, h4, h5⟩⟩
    · omega
    · have := ih h2; omega
    · have := ih h2; omega
theorem dc_D_cl (g : dc_G) : dc_Cl g (dc_D g) := by
  intro r v i j hr hi h S hS
  exact hS r v i j hr hi (dc_rd_mono (fun m v i j z => z S hS) h)
theorem dc_D_in {g : dc_G} (hW : dc_W g) {m v i j : Nat} (h : dc_D g m v i j) : m < 6 ∧ v < 4 ∧ i ≤ j ∧ j ≤ dc_T g := by
  refine h (fun m v i j => m < 6 ∧ v < 4 ∧ i ≤ j ∧ j ≤ dc_T g) ?_
  intro r v i j hr hi ⟨x0, x1, h0, h1, h2, k, h3, h4⟩
  have h5 := dc_pl_in hi h4
  exact ⟨hW.2.1 r, h2 ▸ dc_vl4 h0 h1, h5.1, h5.2⟩
theorem dc_D_of {g : dc_G} {S : dc_Q} (hc : dc_Cl g S) {m v i j : Nat} (h : dc_D g m v i j) : S m v i j := h S hc
/-- the items before k, of the alternative that stands there, are all in S -/
def dc_ok (g : dc_G) (S : Nat → Prop) (r k : Nat) : Prop := ∀ q, q < k → (∀ q', q ≤ q' → q' < k → dc_kd g (r * 6 + q') ≠ 2) → dc_kd g (r * 6 + q) = 1 ∧ S (dc_sy g (r * 6 + q))
theorem dc_ok_0 {g : dc_G} {S : Nat → Prop} {r : Nat} : dc_ok g S r 0 := fun q hq => by omega
theorem dc_ok_bar {g : dc_G} {S : Nat → Prop} {r k : Nat} (h : dc_kd g (r * 6 + k) = 2) : dc_ok g S r (k + 1) := by
  intro q hq hb
  exact absurd h (hb k (by omega) (by omega))
theorem dc_ok_s {g : dc_G} {S : Nat → Prop} {r k : Nat} (h : dc_kd g (r * 6 + k) ≠ 2) : dc_ok g S r (k + 1) ↔ (dc_ok g S r k ∧ dc_kd g (r * 6 + k) = 1 ∧ S (dc_sy g (r * 6 + k))) := by
  constructor
  · intro hk
    refine ⟨?_, ?_⟩
    · intro q hq hb
      refine hk q (by omega) ?_
      intro q' h1 h2
      by_cases e : q' = k
      · rw [e]; exact h
      · exact hb q' h1 (by omega)
    · refine hk k (by omega) ?_
      intro q' h1 h2
      have e : q' = k := by omega
      rw [e]; exact h
  · intro ⟨hk, h1⟩ q hq hb
    by_cases e : q = k
    · rw [e]; exact h1
    · exact hk q (by omega) (fun q' h2 h3 => hb q' h2 (by omega))
theorem dc_ok_mono {g : dc_G} {S S' : Nat → Prop} (hS : ∀ m, S m → S' m) {r k : Nat} (h : dc_ok g S r k) : dc_ok g S' r k := by
  intro q hq hb
  have := h q hq hb
  exact ⟨this.1, hS _ this.2⟩
/-- rule r has an alternative all in S -/
def dc_nr (g : dc_G) (S : Nat → Prop) (r : Nat) : Prop := ∃ k, dc_en g r k ∧ dc_ok g S r k
theorem dc_nr_mono {g : dc_G} {S S' : Nat → Prop} (hS : ∀ m, S m → S' m) {r : Nat} (h : dc_nr g S r) : dc_nr g S' r := by
  obtain ⟨k, h1, h2⟩ := h
  exact ⟨k, h1, dc_ok_mono hS h2⟩
def dc_NC (g : dc_G) (S : Nat → Prop) : Prop := ∀ r, r < dc_R g → dc_nr g S r → S (dc_hn g r)
/-- the nullable nonterminals -/
def dc_N (g : dc_G) (m : Nat) : Prop := ∀ S : Nat → Prop, dc_NC g S → S m
theorem dc_N_cl (g : dc_G) : dc_NC g (dc_N g) := by
  intro r hr h S hS
  exact hS r hr (dc_nr_mono (fun m z => z S hS) h)
theorem dc_N_in {g : dc_G} (hW : dc_W g) {m : Nat} (h : dc_N g m) : m < 6 := h (fun m => m < 6) (fun r _ _ => hW.2.1 r)
/-- the left edges -/
def dc_E (g : dc_G) (a b : Nat) : Prop := ∃ r k, r < dc_R g ∧ dc_hn g r = a ∧ k < dc_bl g r ∧ dc_kd g (r * 6 + k) = 1 ∧ dc_ok g (dc_N g) r k ∧ dc_sy g (r * 6 + k) = b
theorem dc_E_in {g : dc_G} (hW : dc_W g) {a b : Nat} (h : dc_E g a b) : a < 6 ∧ b < 6 := by
  obtain ⟨r, k, h1, h2, h3, h4, h5, h6⟩ := h
  exact ⟨h2 ▸ hW.2.1 r, h6 ▸ hW.2.2.2.2.2.2.1 _ h4⟩
def dc_LC (g : dc_G) (m : Nat) (S : Nat → Prop) : Prop := ∀ b, (dc_E g m b ∨ ∃ a, S a ∧ dc_E g a b) → S b
/-- the nonterminals that one or more edges reach from m -/
def dc_L (g : dc_G) (m b : Nat) : Prop := ∀ S : Nat → Prop, dc_LC g m S → S b
theorem dc_L_cl (g : dc_G) (m : Nat) : dc_LC g m (dc_L g m) := by
  intro b h S hS
  apply hS
  rcases h with h | ⟨a, h1, h2⟩
  · exact Or.inl h
  · exact Or.inr ⟨a, h1 S hS, h2⟩
theorem dc_L_in {g : dc_G} (hW : dc_W g) {m b : Nat} (h : dc_L g m b) : b < 6 := by
  refine h (fun b => b < 6) ?_
  intro b h
  rcases h with h | ⟨a, _, h⟩
  · exact (dc_E_in hW h).2
  · exact (dc_E_in hW h).2
end
section
def dc_un (f : Nat → Nat) (k x : Nat) : Nat → Nat := fun j => if j = k then x else f j
theorem dc_un_s {f : Nat → Nat} {k x : Nat} : dc_un f k x k = x := if_pos rfl
theorem dc_un_n {f : Nat → Nat} {k x j : Nat} (h : j ≠ k) : dc_un f k x j = f j := if_neg h
theorem dc_un_u (f : Nat → Nat) (k x : Nat) : upd (fun r => nI (f r)) k (nI x) = fun r => nI (dc_un f k x r) := by
  funext j
  by_cases h : j = k
  · subst h; rw [pk_us, dc_un_s]
  · rw [pk_un h, dc_un_n h]
theorem dc_un_lt {f : Nat → Nat} {k x n : Nat} (hf : ∀ r, f r < n) (hx : x < n) : ∀ r, dc_un f k x r < n := by
  intro r
  by_cases h : r = k
  · subst h; rw [dc_un_s]; exact hx
  · rw [dc_un_n h]; exact hf r
/-- b is the answer of P -/
def dc_bo (P : Prop) (b : Int32) : Prop := (b = 1 ∧ P) ∨ (b = 0 ∧ ¬ P)
theorem dc_bo_u {P : Prop} {a b : Int32} (ha : dc_bo P a) (hb : dc_bo P b) : a = b := by
  rcases ha with ⟨rfl, h⟩ | ⟨rfl, h⟩ <;> rcases hb with ⟨rfl, h'⟩ | ⟨rfl, h'⟩
  · rfl
  · exact absurd h h'
  · exact absurd h' h
  · rfl
theorem dc_bo_0 {P : Prop} {b : Int32} (h : dc_bo P b) : b = 0 ↔ ¬ P := by
  rcases h with ⟨rfl, h⟩ | ⟨rfl, h⟩
  · exact ⟨fun z => absurd z (by decide), fun z => absurd h z⟩
  · exact ⟨fun _ => h, fun _ => rfl⟩
theorem dc_bo_1 {P : Prop} {b : Int32} (h : dc_bo P b) : b = 1 ↔ P := by
  rcases h with ⟨rfl, h⟩ | ⟨rfl, h⟩
  · exact ⟨fun _ => h, fun _ => rfl⟩
  · exact ⟨fun z => absurd z (by decide), fun z => absurd z h⟩
theorem dc_bo_01 {P : Prop} {b : Int32} (h : dc_bo P b) : b = 0 ∨ b = 1 := by
  rcases h with ⟨rfl, h⟩ | ⟨rfl, h⟩
  · exact Or.inr rfl
  · exact Or.inl rfl
theorem dc_bo_t {P : Prop} (h : P) : dc_bo P 1 := Or.inl ⟨rfl, h⟩
theorem dc_bo_f {P : Prop} (h : ¬ P) : dc_bo P 0 := Or.inr ⟨rfl, h⟩
theorem dc_bo_c {P Q : Prop} (e : P ↔ Q) {b : Int32} (h : dc_bo P b) : dc_bo Q b := by
  rcases h with ⟨rfl, h⟩ | ⟨rfl, h⟩
  · exact dc_bo_t (e.mp h)
  · exact dc_bo_f (fun z => h (e.mpr z))
theorem dc_nar01 {b : Int32} (h : b = 0 ∨ b = 1) : narrow .boolean (.int b) = .int b := by
  rcases h with rfl | rfl <;> rfl
theorem dc_nb1 : vp_nar .boolean 1 = 1 := rfl
theorem dc_nb0 : vp_nar .boolean 0 = 0 := rfl
theorem dc_asg : ∀ a, a < 16 → nI a &&& 3 = nI (a % 4) ∧ nI a >>> ((2 : Int32) &&& 31) = nI (a / 4) := by decide +kernel

/-! the relation as the two sides keep it -/
def dc_SX (f : Nat → Int32) : dc_Q := fun m v i j => (m < 6 ∧ v < 4 ∧ i < 9) ∧ dc_h (f ((m * 4 + v) * 9 + i)) j
def dc_SY (d : Nat → Int32) : dc_Q := fun m v i j => (m < 6 ∧ v < 4 ∧ i < 9 ∧ j < 9) ∧ d (((m * 4 + v) * 9 + i) * 9 + j) ≠ 0
def dc_su (S S' : dc_Q) : Prop := ∀ m v i j, S m v i j → S' m v i j
theorem dc_su_r (S : dc_Q) : dc_su S S := fun _ _ _ _ h => h
theorem dc_su_t {A B C : dc_Q} (h : dc_su A B) (h' : dc_su B C) : dc_su A C := fun m v i j z => h' m v i j (h m v i j z)
/-- one round over all rules: all that S gives is in S' -/
def dc_ph (g : dc_G) (S S' : dc_Q) : Prop := ∀ r v i j, r < dc_R g → i ≤ dc_T g → dc_rd g S r v i j → S' (dc_hn g r) v i j
theorem dc_ph_cl {g : dc_G} {S S' : dc_Q} (h : dc_ph g S S') (h' : dc_su S' S) : dc_Cl g S := fun r v i j hr hi z => h' _ _ _ _ (h r v i j hr hi z)
theorem dc_fin {g : dc_G} {S : dc_Q} (hc : dc_Cl g S) (hs : dc_su S (dc_D g)) (m v i j : Nat) : S m v i j ↔ dc_D g m v i j := ⟨hs m v i j, fun h => h S hc⟩
def dc_FX (g : dc_G) (f : Nat → Int32) : Prop := ∀ m v i j, m < 6 → v < 4 → i < 9 → (dc_h (f ((m * 4 + v) * 9 + i)) j ↔ dc_D g m v i j)
def dc_FY (g : dc_G) (d : Nat → Int32) : Prop := ∀ m v i j, m < 6 → v < 4 → i < 9 → j < 9 → (d (((m * 4 + v) * 9 + i) * 9 + j) ≠ 0 ↔ dc_D g m v i j)
theorem dc_FX_of {g : dc_G} {f : Nat → Int32} (hc : dc_Cl g (dc_SX f)) (hs : dc_su (dc_SX f) (dc_D g)) : dc_FX g f := by
  intro m v i j hm hv hi
  have h := dc_fin hc hs m v i j
  exact ⟨fun z => h.mp ⟨⟨hm, hv, hi⟩, z⟩, fun z => (h.mpr z).2⟩
theorem dc_FY_of {g : dc_G} {d : Nat → Int32} (hc : dc_Cl g (dc_SY d)) (hs : dc_su (dc_SY d) (dc_D g)) : dc_FY g d := by
  intro m v i j hm hv hi hj
  have h := dc_fin hc hs m v i j
  exact ⟨fun z => h.mp ⟨⟨hm, hv, hi, hj⟩, z⟩, fun z => (h.mpr z).2⟩
theorem dc_FX_S {g : dc_G} (hW : dc_W g) {f : Nat → Int32} (h : dc_FX g f) (m v i j : Nat) : dc_SX f m v i j ↔ dc_D g m v i j := by
  constructor
  · intro ⟨⟨h1, h2, h3⟩, h4⟩
    exact (h m v i j h1 h2 h3).mp h4
  · intro z
    have h1 := dc_D_in hW z
    have h2 := hW.1.2
    have h3 : i < 9 := by omega
    exact ⟨⟨h1.1, h1.2.1, h3⟩, (h m v i j h1.1 h1.2.1 h3).mpr z⟩
theorem dc_FY_S {g : dc_G} (hW : dc_W g) {d : Nat → Int32} (h : dc_FY g d) (m v i j : Nat) : dc_SY d m v i j ↔ dc_D g m v i j := by
  constructor
  · intro ⟨⟨h1, h2, h3, h4⟩, h5⟩
    exact (h m v i j h1 h2 h3 h4).mp h5
  · intro z
    have h1 := dc_D_in hW z
    have h2 := hW.1.2
    have h3 : i < 9 := by omega
    have h4 : j < 9 := by omega
    exact ⟨⟨h1.1, h1.2.1, h3, h4⟩, (h m v i j h1.1 h1.2.1 h3 h4).mpr z⟩
theorem dc_rd_c {g : dc_G} {S S' : dc_Q} (h : ∀ m v i j, S m v i j ↔ S' m v i j) (r v i j : Nat) : dc_rd g S r v i j ↔ dc_rd g S' r v i j := ⟨dc_rd_mono (fun m v i j => (h m v i j).mp), dc_rd_mono (fun m v i j => (h m v i j).mpr)⟩
theorem dc_ix {m v i m' v' i' : Nat} (hv : v < 4) (hi : i < 9) (hv' : v' < 4) (hi' : i' < 9) (h : (m * 4 + v) * 9 + i = (m' * 4 + v') * 9 + i') : m = m' ∧ v = v' ∧ i = i' := by omega
theorem dc_iy {m v i j m' v' i' j' : Nat} (hv : v < 4) (hi : i < 9) (hj : j < 9) (hv' : v' < 4) (hi' : i' < 9) (hj' : j' < 9) (h : ((m * 4 + v) * 9 + i) * 9 + j = ((m' * 4 + v') * 9 + i') * 9 + j') : m = m' ∧ v = v' ∧ i = i' ∧ j = j' := by omega
theorem dc_bd_iff (g : dc_G) (S : dc_Q) (r x0 x1 i j : Nat) : dc_bd g S r x0 x1 i j ↔ ((∃ k, k < dc_bl g r ∧ dc_kd g (r * 6 + k) = 2 ∧ dc_pl g S r x0 x1 i k j) ∨ dc_pl g S r x0 x1 i (dc_bl g r) j) := by
  constructor
  · intro ⟨k, ⟨h1, h2⟩, h3⟩
    by_cases e : k = dc_bl g r
    · exact Or.inr (e ▸ h3)
    · exact Or.inl ⟨k, by omega, h2.resolve_left e, h3⟩
  · intro h
    rcases h with ⟨k, h1, h2, h3⟩ | h
    · exact ⟨k, ⟨by omega, Or.inr h2⟩, h3⟩
    · exact ⟨_, ⟨Nat.le_refl _, Or.inl rfl⟩, h⟩
/-! counts of the two pictures -/
def dc_CX (f : Nat → Int32) (k : Nat) : Prop := dc_h (f (k / 9)) (k % 9)
def dc_CY (d : Nat → Int32) (k : Nat) : Prop := d k ≠ 0
/-- Y's chart grew from d to d', and b tells whether it did -/
def dc_pg (g : dc_G) (d d' : Nat → Int32) (b : Int32) : Prop := (∀ c, d c ≠ 0 → d' c ≠ 0) ∧ dc_su (dc_SY d') (dc_D g) ∧ ((b = 0 ∧ d' = d) ∨ (b = 1 ∧ dc_ct (dc_CY d) 1944 < dc_ct (dc_CY d') 1944))
theorem dc_pg_su {g : dc_G} {d d' : Nat → Int32} {b : Int32} (h : dc_pg g d d' b) : dc_su (dc_SY d) (dc_SY d') := fun m v i j z => ⟨z.1, h.1 _ z.2⟩
theorem dc_pg_r {g : dc_G} {d : Nat → Int32} (h : dc_su (dc_SY d) (dc_D g)) : dc_pg g d d 0 := ⟨fun _ z => z, h, Or.inl ⟨rfl, rfl⟩⟩
theorem dc_pg_01 {g : dc_G} {d d' : Nat → Int32} {b : Int32} (h : dc_pg g d d' b) : b = 0 ∨ b = 1 := by
  rcases h.2.2 with ⟨h, _⟩ | ⟨h, _⟩
  · exact Or.inl h
  · exact Or.inr h
theorem dc_pg_le {g : dc_G} {d d' : Nat → Int32} {b : Int32} (h : dc_pg g d d' b) : dc_ct (dc_CY d) 1944 ≤ dc_ct (dc_CY d') 1944 := dc_ct_mono (fun k _ z => h.1 k z)
/-- a second growth that grew -/
theorem dc_pg_t {g : dc_G} {d d' d'' : Nat → Int32} {b b' : Int32} (h : dc_pg g d d' b) (h' : dc_pg g d' d'' b') (hb : ¬ b' = 0) : dc_pg g d d'' 1 := by
  refine ⟨fun c z => h'.1 c (h.1 c z), h'.2.1, Or.inr ⟨rfl, ?_⟩⟩
  have h1 := dc_pg_le h
  rcases h'.2.2 with ⟨h2, _⟩ | ⟨_, h2⟩
  · exact absurd h2 hb
  · omega
/-- a second one that didn't -/
theorem dc_pg_f {g : dc_G} {d d' d'' : Nat → Int32} {b b' : Int32} (h : dc_pg g d d' b) (h' : dc_pg g d' d'' b') (hb : b' = 0) : dc_pg g d d'' b := by
  rcases h'.2.2 with ⟨_, rfl⟩ | ⟨h2, _⟩
  · exact h
  · rw [hb] at h2; exact absurd h2 (by decide)
/-- one cell more -/
theorem dc_pg_1 {g : dc_G} {d : Nat → Int32} {m v i j : Nat} (hs : dc_su (dc_SY d) (dc_D g)) (hm : m < 6) (hv : v < 4) (hi : i < 9) (hj : j < 9) (h0 : d (((m * 4 + v) * 9 + i) * 9 + j) = 0) (hD : dc_D g m v i j) : dc_pg g d (upd d (((m * 4 + v) * 9 + i) * 9 + j) 1) 1 := by
  have hu : ∀ c, d c ≠ 0 → upd d (((m * 4 + v) * 9 + i) * 9 + j) 1 c ≠ 0 := by
    intro c hc
    by_cases e : c = ((m * 4 + v) * 9 + i) * 9 + j
    · rw [e, pk_us]; decide
    · rw [pk_un e]; exact hc
  refine ⟨hu, ?_, Or.inr ⟨rfl, ?_⟩⟩
  · intro m' v' i' j' ⟨⟨h1, h2, h3, h4⟩, h5⟩
    by_cases e : ((m' * 4 + v') * 9 + i') * 9 + j' = ((m * 4 + v) * 9 + i) * 9 + j
    · obtain ⟨rfl, rfl, rfl, rfl⟩ := dc_iy h2 h3 h4 hv hi hj e
      exact hD
    · rw [pk_un e] at h5
      exact hs m' v' i' j' ⟨⟨h1, h2, h3, h4⟩, h5⟩
  · refine dc_ct_lt (fun k _ z => hu k z) (k := ((m * 4 + v) * 9 + i) * 9 + j) (by omega) ?_ ?_
    · show upd d _ 1 _ ≠ 0
      rw [pk_us]; decide
    · intro z; exact z h0
/-- X's: the relation grew from f to f', and b tells whether it did -/
def dc_px (g : dc_G) (f f' : Nat → Int32) (b : Int32) : Prop := dc_su (dc_SX f) (dc_SX f') ∧ dc_su (dc_SX f') (dc_D g) ∧ ((b = 0 ∧ f' = f) ∨ (b = 1 ∧ dc_ct (dc_CX f) 1944 < dc_ct (dc_CX f') 1944))
theorem dc_px_r {g : dc_G} {f : Nat → Int32} (h : dc_su (dc_SX f) (dc_D g)) : dc_px g f f 0 := ⟨fun _ _ _ _ z => z, h, Or.inl ⟨rfl, rfl⟩⟩
theorem dc_px_01 {g : dc_G} {d d' : Nat → Int32} {b : Int32} (h : dc_px g d d' b) : b = 0 ∨ b = 1 := by
  rcases h.2.2 with ⟨h, _⟩ | ⟨h, _⟩
  · exact Or.inl h
  · exact Or.inr h
theorem dc_CX_S {f : Nat → Int32} {k : Nat} (hk : k < 1944) : dc_CX f k ↔ dc_SX f (k / 9 / 9 / 4) (k / 9 / 9 % 4) (k / 9 % 9) (k % 9) := by
  unfold dc_CX dc_SX
  have e : (k / 9 / 9 / 4 * 4 + k / 9 / 9 % 4) * 9 + k / 9 % 9 = k / 9 := by omega
  rw [e]
  exact ⟨fun z => ⟨⟨by omega, by omega, by omega⟩, z⟩, fun z => z.2⟩
theorem dc_px_le {g : dc_G} {f f' : Nat → Int32} {b : Int32} (h : dc_px g f f' b) : dc_ct (dc_CX f) 1944 ≤ dc_ct (dc_CX f') 1944 := dc_ct_mono (fun _ hk z => (dc_CX_S hk).mpr (h.1 _ _ _ _ ((dc_CX_S hk).mp z)))
/-- one cell put: w holds what stood there and what D allows -/
theorem dc_px_1 {g : dc_G} (hW : dc_W g) {f0 f : Nat → Int32} {b : Int32} (h : dc_px g f0 f b) {m v i : Nat} (hm : m < 6) (hv : v < 4) (hi : i < 9) {w : Int32} (hw : ∀ j, dc_h w j → dc_D g m v i j) (hb' : b = 1 ∨ ¬ ((f ((m * 4 + v) * 9 + i)) ||| w) = f ((m * 4 + v) * 9 + i)) : dc_px g f0 (upd f ((m * 4 + v) * 9 + i) (f ((m * 4 + v) * 9 + i) ||| w)) 1 := by
  have hu : dc_su (dc_SX f) (dc_SX (upd f ((m * 4 + v) * 9 + i) (f ((m * 4 + v) * 9 + i) ||| w))) := by
    intro m' v' i' j' ⟨⟨h1, h2, h3⟩, h4⟩
    refine ⟨⟨h1, h2, h3⟩, ?_⟩
    by_cases e : (m' * 4 + v') * 9 + i' = (m * 4 + v) * 9 + i
    · rw [e, pk_us, dc_hor]
      rw [e] at h4
      exact Or.inl h4
    · rw [pk_un e]; exact h4
  refine ⟨dc_su_t h.1 hu, ?_, Or.inr ⟨rfl, ?_⟩⟩
  · intro m' v' i' j' ⟨⟨h1, h2, h3⟩, h4⟩
    by_cases e : (m' * 4 + v') * 9 + i' = (m * 4 + v) * 9 + i
    · rw [e, pk_us, dc_hor] at h4
      obtain ⟨rfl, rfl, rfl⟩ := dc_ix h2 h3 hv hi e
      rcases h4 with h4 | h4
      · exact h.2.1 _ _ _ _ ⟨⟨h1, h2, h3⟩, h4⟩
      · exact hw _ h4
    · rw [pk_un e] at h4
      exact h.2.1 _ _ _ _ ⟨⟨h1, h2, h3⟩, h4⟩
  · have hle : ∀ k, k < 1944 → dc_CX f k → dc_CX (upd f ((m * 4 + v) * 9 + i) (f ((m * 4 + v) * 9 + i) ||| w)) k := fun _ hk z => (dc_CX_S hk).mpr (hu _ _ _ _ ((dc_CX_S hk).mp z))
    have h1 := dc_px_le h
    have h2 := dc_ct_mono hle
    by_cases hb : b = 1
    · rcases h.2.2 with ⟨h3, _⟩ | ⟨_, h3⟩
      · rw [hb] at h3; exact absurd h3 (by decide)
      · omega
    · have h3 := hb'.resolve_left hb
      have h4 : ∃ j, dc_h w j ∧ ¬ dc_h (f ((m * 4 + v) * 9 + i)) j := by
        refine Classical.byContradiction fun hn => h3 (dc_hext fun j => ?_)
        rw [dc_hor]
        constructor
        · intro z
          rcases z with z | z
          · exact z
          · exact Classical.byContradiction fun hz => hn ⟨j, z, hz⟩
        · exact Or.inl
      obtain ⟨j, h5, h6⟩ := h4
      have h7 := dc_D_in hW (hw j h5)
      have h8 := hW.1.2
      have hj : j < 9 := by omega
      have e1 : (((m * 4 + v) * 9 + i) * 9 + j) / 9 = (m * 4 + v) * 9 + i := by omega
      have e2 : (((m * 4 + v) * 9 + i) * 9 + j) % 9 = j := by omega
      have h9 := dc_ct_lt hle (k := ((m * 4 + v) * 9 + i) * 9 + j) (by omega) (by
        unfold dc_CX
        rw [e1, e2, pk_us, dc_hor]
        exact Or.inr h5) (by
        unfold dc_CX
        rw [e1, e2]
        exact h6)
      omega
theorem dc_px_0 {f : Nat → Int32} {c : Nat} {w : Int32} (h : w = f c) : upd f c w = f := by
  funext k
  by_cases e : k = c
  · subst e; rw [pk_us, h]
  · rw [pk_un e]
end
section
theorem dc_Nstep {g : dc_G} (hW : dc_W g) {A B : Nat → Prop} (hAB : ∀ m, A m → B m) (hB : ∀ m, B m → dc_N g m) (hph : ∀ r, r < dc_R g → dc_nr g A r → B (dc_hn g r)) {t : Nat} (h : dc_NC g A ∨ t ≤ dc_ct A 6) : dc_NC g B ∨ t + 1 ≤ dc_ct B 6 := by
  have key : (∀ m, B m → A m) → dc_NC g B := fun hBA r hr hn => hph r hr (dc_nr_mono hBA hn)
  rcases h with h | h
  · exact Or.inl (key fun m z => hB m z A h)
  · by_cases hBA : ∀ m, B m → A m
    · exact Or.inl (key hBA)
    · obtain ⟨m, hm⟩ := Classical.not_forall.mp hBA
      obtain ⟨h1, h2⟩ := Classical.not_imp.mp hm
      have h3 := dc_ct_lt (n := 6) (fun k _ => hAB k) (dc_N_in hW (hB m h1)) h1 h2
      exact Or.inr (by omega)
theorem dc_Nend {g : dc_G} (hW : dc_W g) {A : Nat → Prop} (hA : ∀ m, A m → dc_N g m) (h : dc_NC g A ∨ 6 ≤ dc_ct A 6) (m : Nat) : A m ↔ dc_N g m := by
  refine ⟨hA m, fun z => ?_⟩
  rcases h with h | h
  · exact z A h
  · exact dc_ct_full h m (dc_N_in hW z)
theorem dc_Lstep {g : dc_G} (hW : dc_W g) {m : Nat} {A B : Nat → Prop} (hAB : ∀ b, A b → B b) (hB : ∀ b, B b → dc_L g m b) (h0 : ∀ b, dc_E g m b → A b) (hph : ∀ a b, A a → dc_E g a b → B b) {t : Nat} (h : dc_LC g m A ∨ t ≤ dc_ct A 6) : dc_LC g m B ∨ t + 1 ≤ dc_ct B 6 := by
  have key : (∀ b, B b → A b) → dc_LC g m B := by
    intro hBA b hb
    rcases hb with hb | ⟨a, ha, hb⟩
    · exact hAB b (h0 b hb)
    · exact hph a b (hBA a ha) hb
  rcases h with h | h
  · exact Or.inl (key fun b z => hB b z A h)
  · by_cases hBA : ∀ b, B b → A b
    · exact Or.inl (key hBA)
    · obtain ⟨b, hb⟩ := Classical.not_forall.mp hBA
      obtain ⟨h1, h2⟩ := Classical.not_imp.mp hb
      have h3 := dc_ct_lt (n := 6) (fun k _ => hAB k) (dc_L_in hW (hB b h1)) h1 h2
      exact Or.inr (by omega)
theorem dc_Lend {g : dc_G} (hW : dc_W g) {m : Nat} {A : Nat → Prop} (hA : ∀ b, A b → dc_L g m b) (h : dc_LC g m A ∨ 6 ≤ dc_ct A 6) (b : Nat) : A b ↔ dc_L g m b := by
  refine ⟨hA b, fun z => ?_⟩
  rcases h with h | h
  · exact z A h
  · exact dc_ct_full h b (dc_L_in hW z)
/-- the first step of X: what one edge reaches is closed, or not empty -/
theorem dc_Lbeg {g : dc_G} {m : Nat} {A : Nat → Prop} (hA : ∀ b, A b ↔ dc_E g m b) (h6 : ∀ b, A b → b < 6) : dc_LC g m A ∨ 1 ≤ dc_ct A 6 := by
  by_cases h : ∃ b, A b
  · obtain ⟨b, hb⟩ := h
    exact Or.inr (dc_ct_one (h6 b hb) hb)
  · refine Or.inl fun b hb => ?_
    rcases hb with hb | ⟨a, ha, _⟩
    · exact (hA b).mpr hb
    · exact absurd ⟨a, ha⟩ h
theorem dc_L_E {g : dc_G} {m b : Nat} (h : dc_E g m b) : dc_L g m b := dc_L_cl g m b (Or.inl h)
theorem dc_L_s {g : dc_G} {m a b : Nat} (h : dc_L g m a) (h' : dc_E g a b) : dc_L g m b := dc_L_cl g m b (Or.inr ⟨a, h, h'⟩)
end
section
abbrev dc_HN (g : dc_G) : Nat → Int32 := fun r => nI (dc_hn g r)
abbrev dc_HA (g : dc_G) : Nat → Int32 := fun r => nI (dc_ha g r)
abbrev dc_BL (g : dc_G) : Nat → Int32 := fun r => nI (dc_bl g r)
abbrev dc_KD (g : dc_G) : Nat → Int32 := fun q => nI (dc_kd g q)
abbrev dc_SM (g : dc_G) : Nat → Int32 := fun q => nI (dc_sy g q)
abbrev dc_AG (g : dc_G) : Nat → Int32 := fun q => nI (dc_ag g q)
abbrev dc_TK (g : dc_G) : Nat → Int32 := fun p => nI (dc_tk g p)
theorem dc_at (f : Nat → Int32) {p : Nat} (hp : p < 2 ^ 31) : f (nI p).toNatClampNeg = f p := by rw [nI_clamp hp]
theorem dc_i6 (r k : Nat) : nI r * 6 + nI k = nI (r * 6 + k) := by
  rw [show (6 : Int32) = nI 6 from rfl, pk_mul, nI_add]
theorem dc_i4 (r k : Nat) : nI r * 4 + nI k = nI (r * 4 + k) := by
  rw [show (4 : Int32) = nI 4 from rfl, pk_mul, nI_add]
theorem dc_i9 (m v i : Nat) : (nI m * 4 + nI v) * 9 + nI i = nI ((m * 4 + v) * 9 + i) := by
  rw [dc_i4, show (9 : Int32) = nI 9 from rfl, pk_mul, nI_add]
theorem dc_i81 (m v i j : Nat) : ((nI m * 4 + nI v) * 9 + nI i) * 9 + nI j = nI (((m * 4 + v) * 9 + i) * 9 + j) := by
  rw [dc_i9, show (9 : Int32) = nI 9 from rfl, pk_mul, nI_add]
/-- X's symbol and argument cells are the grammar's where the kind reads them -/
def dc_HS (g : dc_G) (sy ag : Nat → Int32) : Prop := (∀ q, dc_kd g q ≠ 2 → sy q = nI (dc_sy g q)) ∧ (∀ q, dc_kd g q = 1 → ag q = nI (dc_ag g q))
abbrev dc_x (g : dc_G) (rc tc op cm : Int32) (sy ag f : Nat → Int32) : SX := (rc, tc, nI (dc_R g), op, cm, nI (dc_T g), dc_HN g, dc_HA g, dc_BL g, dc_KD g, sy, ag, dc_TK g, f)
abbrev dc_y (g : dc_G) (rc tc op cm : Int32) (d re nx nu ed se : Nat → Int32) : SY := (rc, tc, nI (dc_R g), nI (dc_T g), op, cm, dc_HN g, dc_HA g, dc_BL g, dc_KD g, dc_SM g, dc_AG g, dc_TK g, d, re, nx, nu, ed, se)
theorem dc_if {c d A B : Prop} (e : c ↔ d) (f : d → A) (g : ¬ d → B) : (c → A) ∧ (¬ c → B) := ⟨fun z => f (e.mp z), fun z => g (fun y => z (e.mpr y))⟩
theorem dc_exy {p : Nat} {F : Nat → Prop} {G : Prop} (h : F p ↔ G) : ((∃ q, q < p ∧ F q) ∨ G) ↔ ∃ q, q < p + 1 ∧ F q := by
  constructor
  · intro z
    rcases z with ⟨q, h1, h2⟩ | z
    · exact ⟨q, by omega, h2⟩
    · exact ⟨p, by omega, h.mpr z⟩
  · intro ⟨q, h1, h2⟩
    by_cases e : q = p
    · subst e; exact Or.inr (h.mp h2)
    · exact Or.inl ⟨q, by omega, h2⟩
theorem dc_exn {p : Nat} {F : Nat → Prop} (h : ¬ F p) : (∃ q, q < p ∧ F q) ↔ ∃ q, q < p + 1 ∧ F q := by
  constructor
  · intro ⟨q, h1, h2⟩
    exact ⟨q, by omega, h2⟩
  · intro ⟨q, h1, h2⟩
    by_cases e : q = p
    · subst e; exact absurd h2 h
    · exact ⟨q, by omega, h2⟩
theorem dc_ex0 {F : Nat → Prop} : ¬ ∃ q, q < 0 ∧ F q := fun ⟨_, h, _⟩ => absurd h (Nat.not_lt_zero _)
theorem dc_h00 {F : Nat → Prop} (j : Nat) : dc_h 0 j ↔ ∃ q, q < 0 ∧ F q := ⟨fun z => absurd z (dc_h0 j), fun z => absurd z dc_ex0⟩
theorem dc_W_T {g : dc_G} (h : dc_W g) : dc_T g ≤ 8 := h.1.2
theorem dc_W_R {g : dc_G} (h : dc_W g) : dc_R g ≤ 12 := h.1.1
theorem dc_W_hn {g : dc_G} (h : dc_W g) (r : Nat) : dc_hn g r < 6 := h.2.1 r
theorem dc_W_ha {g : dc_G} (h : dc_W g) (r : Nat) : dc_ha g r < 6 := h.2.2.1 r
theorem dc_W_bl {g : dc_G} (h : dc_W g) (r : Nat) : dc_bl g r ≤ 6 := h.2.2.2.1 r
theorem dc_W_kd {g : dc_G} (h : dc_W g) (q : Nat) : dc_kd g q < 3 := h.2.2.2.2.1 q
theorem dc_W_sy {g : dc_G} (h : dc_W g) (q : Nat) : dc_sy g q < 16 := h.2.2.2.2.2.1 q
theorem dc_W_s1 {g : dc_G} (h : dc_W g) {q : Nat} (hq : dc_kd g q = 1) : dc_sy g q < 6 := h.2.2.2.2.2.2.1 q hq
theorem dc_W_ag {g : dc_G} (h : dc_W g) (q : Nat) : dc_ag g q < 6 := h.2.2.2.2.2.2.2.1 q
theorem dc_W_tk {g : dc_G} (h : dc_W g) (p : Nat) : dc_tk g p < 16 := h.2.2.2.2.2.2.2.2 p
end
section
section
variable {g : dc_G} {rc tc op cm : Int32} {sy ag f : Nat → Int32}
theorem dc_x_av {post : Int32 → Prop} {c x0 x1 : Nat} (hc : c < 6) (h : post (nI (dc_vl c x0 x1))) : wpX_argumentValue post (nI c) (nI x0) (nI x1) := by
  refine pk_eq c 4 (fun e => ?_) (fun e => pk_eq c 5 (fun e' => ?_) (fun e' => ?_))
  · subst e; exact h
  · subst e'; exact h
  · unfold dc_vl at h
    rw [if_pos (by omega)] at h
    exact h
theorem dc_x_tkL (hW : dc_W g) {post : Int32 → Prop} {w : Int32} {t : Nat} (ht : t < 16) : ∀ n p a, p ≤ dc_T g → dc_T g - p < n → (∀ j, dc_h a j ↔ ∃ q, q < p ∧ (dc_h w q ∧ dc_tk g q = t ∧ j = q + 1)) → (∀ b, (∀ j, dc_h b j ↔ ∃ q, q < dc_T g ∧ (dc_h w q ∧ dc_tk g q = t ∧ j = q + 1)) → post b) → wX_placesAfterToken_5 post w (nI t) rc tc (nI (dc_R g)) op cm (nI (dc_T g)) (dc_HN g) (dc_HA g) (dc_BL g) (dc_KD g) sy ag (dc_TK g) f n a (nI p) := by
  have hT := dc_W_T hW
  intro n
  induction n with
  | zero => intro p a h1 h2; omega
  | succ n ih =>
    intro p a hp hn ha hpost
    refine pk_le (dc_T g) p (fun h => ?_) (fun h => ?_)
    · have e : p = dc_T g := by omega
      subst e
      exact hpost a ha
    · refine dc_if (dc_hbit (p := p) (by omega) w) (fun h1 => ?_) (fun h1 => ?_)
      · have hk := dc_W_tk hW p
        refine ⟨vp_in_nI (by omega) (by omega), pk_eq (dc_tk g p) t (fun h2 => ?_) (fun h2 => ?_) (dc_at (dc_TK g) (by omega)) rfl (by omega) (by omega)⟩
        · refine nm_e (nm_r (nI_1 p) (ih (p + 1) _ (by omega) (by omega) ?_ hpost))
          intro j
          rw [dc_hor, nI_1 p, dc_hone (by omega), ha]
          exact dc_exy ⟨fun z => z.2.2, fun z => ⟨h1, h2, z⟩⟩
        · refine nm_r (nI_1 p) (ih (p + 1) _ (by omega) (by omega) ?_ hpost)
          intro j
          rw [ha]
          exact dc_exn (fun z => h2 z.2.1)
      · refine nm_r (nI_1 p) (ih (p + 1) _ (by omega) (by omega) ?_ hpost)
        intro j
        rw [ha]
        exact dc_exn (fun z => h1 z.1)
theorem dc_x_tk (hW : dc_W g) {post : Int32 → Prop} {w : Int32} {t : Nat} (ht : t < 16) (h : ∀ b, (∀ j, dc_h b j ↔ ∃ q, q < dc_T g ∧ (dc_h w q ∧ dc_tk g q = t ∧ j = q + 1)) → post b) : wpX_placesAfterToken post (dc_x g rc tc op cm sy ag f) w (nI t) :=
  ⟨dc_T g + 1, dc_x_tkL hW ht _ 0 0 (by omega) (by omega) (fun j => dc_h00 j) h⟩
theorem dc_x_ntL (hW : dc_W g) {post : Int32 → Prop} {w : Int32} {m v : Nat} (hm : m < 6) (hv : v < 4) : ∀ n p a, p ≤ dc_T g + 1 → dc_T g + 1 - p < n → (∀ j, dc_h a j ↔ ∃ q, q < p ∧ (dc_h w q ∧ dc_h (f ((m * 4 + v) * 9 + q)) j)) → (∀ b, (∀ j, dc_h b j ↔ ∃ q, q < dc_T g + 1 ∧ (dc_h w q ∧ dc_h (f ((m * 4 + v) * 9 + q)) j)) → post b) → wX_placesAfterNonterminal_16 post w (nI ((m * 4 + v) * 9)) rc tc (nI (dc_R g)) op cm (nI (dc_T g)) (dc_HN g) (dc_HA g) (dc_BL g) (dc_KD g) sy ag (dc_TK g) f n a (nI p) := by
  have hT := dc_W_T hW
  intro n
  induction n with
  | zero => intro p a h1 h2; omega
  | succ n ih =>
    intro p a hp hn ha hpost
    refine pk_lt (dc_T g) p (fun h => ?_) (fun h => ?_)
    · have e : p = dc_T g + 1 := by omega
      subst e
      exact hpost a ha
    · refine dc_if (dc_hbit (p := p) (by omega) w) (fun h1 => ?_) (fun h1 => ?_)
      · refine ⟨?_, ?_⟩
        · rw [nI_add]; exact vp_in_nI (by omega) (by omega)
        · refine nm_r (e' := a ||| f ((m * 4 + v) * 9 + p)) (by rw [nI_add, nI_clamp (by omega)]) (nm_r (nI_1 p) (ih (p + 1) _ (by omega) (by omega) ?_ hpost))
          intro j
          rw [dc_hor, ha]
          exact dc_exy ⟨fun z => z.2, fun z => ⟨h1, z⟩⟩
      · refine nm_r (nI_1 p) (ih (p + 1) _ (by omega) (by omega) ?_ hpost)
        intro j
        rw [ha]
        exact dc_exn (fun z => h1 z.1)
theorem dc_x_nt (hW : dc_W g) {post : Int32 → Prop} {w : Int32} {m v : Nat} (hm : m < 6) (hv : v < 4) (h : ∀ b, (∀ j, dc_h b j ↔ ∃ q, q < dc_T g + 1 ∧ (dc_h w q ∧ dc_h (f ((m * 4 + v) * 9 + q)) j)) → post b) : wpX_placesAfterNonterminal post (dc_x g rc tc op cm sy ag f) w (nI m) (nI v) :=
  nm_r (e' := nI ((m * 4 + v) * 9)) (by rw [dc_i4, show (9 : Int32) = nI 9 from rfl, pk_mul]) ⟨dc_T g + 2, dc_x_ntL hW hm hv _ 0 0 (by omega) (by omega) (fun j => dc_h00 j) h⟩
theorem dc_x_bdL (hW : dc_W g) (hS : dc_HS g sy ag) (hs : dc_su (dc_SX f) (dc_D g)) {post : Int32 → Prop} {r x0 x1 i : Nat} (hr : r < 12) (h0 : x0 < 4) (h1 : x1 < 4) (hi : i ≤ dc_T g) : ∀ n k a b, k ≤ dc_bl g r → dc_bl g r - k < n → (∀ j, dc_h a j ↔ ∃ q, q < k ∧ (dc_kd g (r * 6 + q) = 2 ∧ dc_pl g (dc_SX f) r x0 x1 i q j)) → (∀ j, dc_h b j ↔ dc_pl g (dc_SX f) r x0 x1 i k j) → (∀ c, (∀ j, dc_h c j ↔ dc_bd g (dc_SX f) r x0 x1 i j) → post c) → wX_bodyEnds_12 post (nI r) (nI x0) (nI x1) (nI i) rc tc (nI (dc_R g)) op cm (nI (dc_T g)) (dc_HN g) (dc_HA g) (dc_BL g) (dc_KD g) sy ag (dc_TK g) f n a b (nI k) := by
  have hT := dc_W_T hW
  have hB := dc_W_bl hW r
  intro n
  induction n with
  | zero => intro k a b h1 h2; omega
  | succ n ih =>
    intro k a b hk hn ha hb hpost
    refine ⟨vp_in_nI (by omega) (by omega), pk_le (dc_bl g r) k (fun h => ?_) (fun h => ?_) (dc_at (dc_BL g) (by omega))⟩
    · have e : k = dc_bl g r := by omega
      subst e
      refine hpost _ (fun j => ?_)
      rw [dc_hor, ha, hb, dc_bd_iff]
    · have hq : r * 6 + k < 72 := by omega
      have hkd := dc_W_kd hW (r * 6 + k)
      refine nm_r (dc_i6 r k) ⟨vp_in_nI hq (by omega), pk_eq (dc_kd g (r * 6 + k)) 2 (fun h2 => ?_) (fun h2 => ?_) (dc_at (dc_KD g) (by omega))⟩
      · refine nm_e (nm_e (nm_r (nI_1 k) (ih (k + 1) _ _ (by omega) (by omega) ?_ ?_ hpost)))
        · intro j
          rw [dc_hor, ha, hb]
          exact dc_exy ⟨fun z => z.2, fun z => ⟨h2, z⟩⟩
        · intro j
          rw [dc_hone (by omega)]
          exact ⟨fun z => Or.inl ⟨h2, z⟩, fun z => z.elim (fun y => y.2) (fun y => absurd h2 y.1)⟩
      · have ha' : ∀ j, dc_h a j ↔ ∃ q, q < k + 1 ∧ (dc_kd g (r * 6 + q) = 2 ∧ dc_pl g (dc_SX f) r x0 x1 i q j) := by
          intro j
          rw [ha]
          exact dc_exn (fun z => h2 z.1)
        refine ⟨vp_in_nI hq (by omega), pk_eq (dc_kd g (r * 6 + k)) 0 (fun h3 => ?_) (fun h3 => ?_) (dc_at (dc_KD g) (by omega))⟩
        · refine ⟨vp_in_nI hq (by omega), ?_⟩
          have es : sy (nI (r * 6 + k)).toNatClampNeg = nI (dc_sy g (r * 6 + k)) := by rw [nI_clamp (by omega)]; exact hS.1 _ h2
          rw [es]
          refine dc_x_tk hW (dc_W_sy hW _) (fun c hc => nm_r (nI_1 k) (ih (k + 1) _ _ (by omega) (by omega) ha' ?_ hpost))
          intro j
          rw [hc]
          constructor
          · intro ⟨q, hq1, hq2, hq3, hq4⟩
            exact Or.inr ⟨h2, Or.inl ⟨h3, q, hq1, (hb q).mp hq2, hq3, hq4⟩⟩
          · intro z
            rcases z with z | ⟨_, ⟨_, q, hq1, hq2, hq3, hq4⟩ | ⟨z, _⟩⟩
            · exact absurd z.1 h2
            · exact ⟨q, hq1, (hb q).mpr hq2, hq3, hq4⟩
            · exact absurd h3 z
        · refine ⟨vp_in_nI hq (by omega), ?_⟩
          have hk1 : dc_kd g (r * 6 + k) = 1 := by omega
          have es : sy (nI (r * 6 + k)).toNatClampNeg = nI (dc_sy g (r * 6 + k)) := by rw [nI_clamp (by omega)]; exact hS.1 _ h2
          have ea : ag (nI (r * 6 + k)).toNatClampNeg = nI (dc_ag g (r * 6 + k)) := by rw [nI_clamp (by omega)]; exact hS.2 _ hk1
          rw [es, ea]
          refine dc_x_av (dc_W_ag hW _) ⟨vp_in_nI hq (by omega), ?_⟩
          have hv4 := dc_vl4 (c := dc_ag g (r * 6 + k)) h0 h1
          refine dc_x_nt hW (dc_W_s1 hW hk1) hv4 (fun c hc => nm_r (nI_1 k) (ih (k + 1) _ _ (by omega) (by omega) ha' ?_ hpost))
          intro j
          rw [hc]
          constructor
          · intro ⟨q, hq1, hq2, hq3⟩
            have hsx : dc_SX f (dc_sy g (r * 6 + k)) (dc_vl (dc_ag g (r * 6 + k)) x0 x1) q j := ⟨⟨dc_W_s1 hW hk1, hv4, by omega⟩, hq3⟩
            have hin := dc_D_in hW (hs _ _ _ _ hsx)
            exact Or.inr ⟨h2, Or.inr ⟨h3, q, by omega, (hb q).mp hq2, hin.2.2.1, hin.2.2.2, hsx⟩⟩
          · intro z
            rcases z with z | ⟨_, ⟨z, _⟩ | ⟨_, q, hq1, hq2, hq3, hq4, hq5⟩⟩
            · exact absurd z.1 h2
            · exact absurd z h3
            · exact ⟨q, by omega, (hb q).mpr hq2, hq5.2⟩
theorem dc_x_bd (hW : dc_W g) (hS : dc_HS g sy ag) (hs : dc_su (dc_SX f) (dc_D g)) {post : Int32 → Prop} {r x0 x1 i : Nat} (hr : r < 12) (h0 : x0 < 4) (h1 : x1 < 4) (hi : i ≤ dc_T g) (h : ∀ c, (∀ j, dc_h c j ↔ dc_bd g (dc_SX f) r x0 x1 i j) → post c) : wpX_bodyEnds post (dc_x g rc tc op cm sy ag f) (nI r) (nI x0) (nI x1) (nI i) := by
  have hT := dc_W_T hW
  exact nm_e ⟨dc_bl g r + 1, dc_x_bdL hW hS hs hr h0 h1 hi _ 0 0 _ (by omega) (by omega) (fun j => dc_h00 j) (fun j => dc_hone (by omega) j) h⟩
theorem dc_x_re1 (hW : dc_W g) (hS : dc_HS g sy ag) (hs : dc_su (dc_SX f) (dc_D g)) {post : Int32 → Prop} {J : Int32 → Int32 → Prop} {r v i x0 : Nat} {A : Nat → Prop} (hr : r < 12) (hv : v < 4) (h0 : x0 < 4) (hi : i ≤ dc_T g) : ∀ n x1 a, x1 ≤ 4 → 4 - x1 < n → (∀ j, dc_h a j ↔ (A j ∨ ∃ q, q < x1 ∧ (dc_vl (dc_ha g r) x0 q = v ∧ dc_bd g (dc_SX f) r x0 q i j))) → (∀ c, (∀ j, dc_h c j ↔ (A j ∨ ∃ q, q < 4 ∧ (dc_vl (dc_ha g r) x0 q = v ∧ dc_bd g (dc_SX f) r x0 q i j))) → J c (nI (x0 + 1))) → wX_ruleEnds_15 post J (nI r) (nI v) (nI i) (nI x0) rc tc (nI (dc_R g)) op cm (nI (dc_T g)) (dc_HN g) (dc_HA g) (dc_BL g) (dc_KD g) sy ag (dc_TK g) f n a (nI x1) := by
  intro n
  induction n with
  | zero => intro x1 a h1 h2; omega
  | succ n ih =>
    intro x1 a hx hn ha hpost
    refine pk_le 4 x1 (fun h => ?_) (fun h => ?_)
    · have e : x1 = 4 := by omega
      subst e
      exact nm_r (nI_1 x0) (hpost a ha)
    · refine ⟨vp_in_nI (by omega) (by omega), ?_⟩
      rw [dc_at (dc_HA g) (show r < 2 ^ 31 by omega)]
      have hv4 := dc_vl4 (c := dc_ha g r) h0 h
      refine dc_x_av (dc_W_ha hW _) (pk_eq (dc_vl (dc_ha g r) x0 x1) v (fun h2 => ?_) (fun h2 => ?_))
      · refine dc_x_bd hW hS hs hr h0 h hi (fun c hc => nm_e (nm_r (nI_1 x1) (ih (x1 + 1) _ (by omega) (by omega) ?_ hpost)))
        intro j
        rw [dc_hor, ha, hc, or_assoc]
        exact or_congr Iff.rfl (dc_exy ⟨fun z => z.2, fun z => ⟨h2, z⟩⟩)
      · refine nm_r (nI_1 x1) (ih (x1 + 1) _ (by omega) (by omega) ?_ hpost)
        intro j
        rw [ha]
        exact or_congr Iff.rfl (dc_exn (fun z => h2 z.1))
theorem dc_x_re0 (hW : dc_W g) (hS : dc_HS g sy ag) (hs : dc_su (dc_SX f) (dc_D g)) {post : Int32 → Prop} {r v i : Nat} (hr : r < 12) (hv : v < 4) (hi : i ≤ dc_T g) (hpost : ∀ c, (∀ j, dc_h c j ↔ dc_rd g (dc_SX f) r v i j) → post c) : ∀ n x0 a, x0 ≤ 4 → 4 - x0 < n → (∀ j, dc_h a j ↔ ∃ p, p < x0 ∧ ∃ q, q < 4 ∧ (dc_vl (dc_ha g r) p q = v ∧ dc_bd g (dc_SX f) r p q i j)) → wX_ruleEnds_6 post (nI r) (nI v) (nI i) rc tc (nI (dc_R g)) op cm (nI (dc_T g)) (dc_HN g) (dc_HA g) (dc_BL g) (dc_KD g) sy ag (dc_TK g) f n a (nI x0) := by
  intro n
  induction n with
  | zero => intro x1 a h1 h2; omega
  | succ n ih =>
    intro x0 a hx hn ha
    refine pk_le 4 x0 (fun h => ?_) (fun h => ?_)
    · have e : x0 = 4 := by omega
      subst e
      refine hpost a (fun j => ?_)
      rw [ha]
      constructor
      · intro ⟨p, h1, q, h2, h3, h4⟩
        exact ⟨p, q, h1, h2, h3, h4⟩
      · intro ⟨p, q, h1, h2, h3, h4⟩
        exact ⟨p, h1, q, h2, h3, h4⟩
    · refine ⟨5, dc_x_re1 (A := fun j => ∃ p, p < x0 ∧ ∃ q, q < 4 ∧ (dc_vl (dc_ha g r) p q = v ∧ dc_bd g (dc_SX f) r p q i j)) hW hS hs hr hv h hi 5 0 a (by omega) (by omega) ?_ ?_⟩
      · intro j
        rw [ha]
        exact ⟨Or.inl, fun z => z.elim id (fun y => absurd y dc_ex0)⟩
      · intro c hc
        refine ih (x0 + 1) c (by omega) (by omega) ?_
        intro j
        rw [hc]
        exact dc_exy Iff.rfl
theorem dc_x_re (hW : dc_W g) (hS : dc_HS g sy ag) (hs : dc_su (dc_SX f) (dc_D g)) {post : Int32 → Prop} {r v i : Nat} (hr : r < 12) (hv : v < 4) (hi : i ≤ dc_T g) (h : ∀ c, (∀ j, dc_h c j ↔ dc_rd g (dc_SX f) r v i j) → post c) : wpX_ruleEnds post (dc_x g rc tc op cm sy ag f) (nI r) (nI v) (nI i) :=
  ⟨5, dc_x_re0 hW hS hs hr hv hi h 5 0 0 (by omega) (by omega) (fun j => dc_h00 j)⟩
end
end
section
section
variable {g : dc_G} {rc tc op cm : Int32} {sy ag : Nat → Int32}
/-- what stands ahead of (i, r, v) in a sweep is done -/
def dc_vs (g : dc_G) (f0 f : Nat → Int32) (i r v : Nat) : Prop := ∀ r' v' i' j, r' < dc_R g → v' < 4 → i' ≤ dc_T g → (i < i' ∨ (i' = i ∧ (r' < r ∨ (r' = r ∧ v' < v)))) → dc_rd g (dc_SX f0) r' v' i' j → dc_SX f (dc_hn g r') v' i' j
theorem dc_su_u {f : Nat → Int32} {c : Nat} {w : Int32} : dc_su (dc_SX f) (dc_SX (upd f c (f c ||| w))) := by
  intro m' v' i' j' ⟨h1, h4⟩
  refine ⟨h1, ?_⟩
  by_cases e : (m' * 4 + v') * 9 + i' = c
  · rw [e, pk_us, dc_hor]
    rw [e] at h4
    exact Or.inl h4
  · rw [pk_un e]; exact h4
theorem dc_g_vs (hW : dc_W g) {f0 f : Nat → Int32} {b w : Int32} (h : dc_px g f0 f b) {i r v : Nat} (hv : v < 4) (hi : i ≤ dc_T g) (hw : ∀ j, dc_h w j ↔ dc_rd g (dc_SX f) r v i j) (hs : dc_vs g f0 f i r v) : dc_vs g f0 (upd f ((dc_hn g r * 4 + v) * 9 + i) (f ((dc_hn g r * 4 + v) * 9 + i) ||| w)) i r (v + 1) := by
  have hT := dc_W_T hW
  intro r' v' i' j hr' hv' hi' hc hd
  by_cases e : i' = i ∧ r' = r ∧ v' = v
  · obtain ⟨rfl, rfl, rfl⟩ := e
    refine ⟨⟨dc_W_hn hW _, hv, by omega⟩, ?_⟩
    rw [pk_us, dc_hor]
    exact Or.inr ((hw j).mpr (dc_rd_mono h.1 hd))
  · exact dc_su_u _ _ _ _ (hs r' v' i' j hr' hv' hi' (by omega) hd)
theorem dc_g_D {f0 f : Nat → Int32} {b w : Int32} (h : dc_px g f0 f b) {i r v : Nat} (hr : r < dc_R g) (hi : i ≤ dc_T g) (hw : ∀ j, dc_h w j ↔ dc_rd g (dc_SX f) r v i j) (j : Nat) (hj : dc_h w j) : dc_D g (dc_hn g r) v i j :=
  dc_D_cl g r v i j hr hi (dc_rd_mono h.2.1 ((hw j).mp hj))
theorem dc_x_g83 {post : Int32 → SX → Prop} {J7 J13 J24 : Int32 → Int32 → (Nat → Int32) → (Nat → Int32) → (Nat → Int32) → (Nat → Int32) → (Nat → Int32) → (Nat → Int32) → (Nat → Int32) → (Nat → Int32) → Prop} {f : Nat → Int32} {x2 x3 z w : Int32} {v c : Nat} (hc : c < 216) (h : J24 z (nI (v + 1)) (dc_HN g) (dc_HA g) (dc_BL g) (dc_KD g) sy ag (dc_TK g) (upd f c w)) : wX_growSpans_83 post J7 J13 J24 x2 x3 (nI v) (nI c) w z rc tc (nI (dc_R g)) op cm (nI (dc_T g)) (dc_HN g) (dc_HA g) (dc_BL g) (dc_KD g) sy ag (dc_TK g) f :=
  ⟨vp_in_nI hc (by omega), nm_r (e' := upd f c w) (by rw [nI_clamp (by omega)]) (nm_r (nI_1 v) h)⟩
theorem dc_x_g24 (hW : dc_W g) (hS : dc_HS g sy ag) {post : Int32 → SX → Prop} {J7 J13 : Int32 → Int32 → (Nat → Int32) → (Nat → Int32) → (Nat → Int32) → (Nat → Int32) → (Nat → Int32) → (Nat → Int32) → (Nat → Int32) → (Nat → Int32) → Prop} {f0 : Nat → Int32} {i r : Nat} (hr : r < dc_R g) (hi : i ≤ dc_T g) (hJ : ∀ b f, dc_px g f0 f b → dc_vs g f0 f i r 4 → J13 b (nI (r + 1)) (dc_HN g) (dc_HA g) (dc_BL g) (dc_KD g) sy ag (dc_TK g) f) : ∀ n v b f, v ≤ 4 → 4 - v < n → dc_px g f0 f b → dc_vs g f0 f i r v → wX_growSpans_24 post J7 J13 (nI i) (nI r) rc tc (nI (dc_R g)) op cm (nI (dc_T g)) n b (nI v) (dc_HN g) (dc_HA g) (dc_BL g) (dc_KD g) sy ag (dc_TK g) f := by
  have hT := dc_W_T hW
  have hR := dc_W_R hW
  have hn6 := dc_W_hn hW r
  intro n
  induction n with
  | zero => intro v b f h1 h2; omega
  | succ n ih =>
    intro v b f hv hn hp hs
    refine pk_le 4 v (fun h => ?_) (fun h => ?_)
    · have e : v = 4 := by omega
      subst e
      exact nm_r (nI_1 r) (hJ b f hp hs)
    · refine ⟨vp_in_nI (by omega) (by omega), ?_⟩
      rw [dc_at (dc_HN g) (show r < 2 ^ 31 by omega)]
      have ec : (nI (dc_hn g r) * 4 + nI v) * 9 + nI i = nI ((dc_hn g r * 4 + v) * 9 + i) := dc_i9 _ _ _
      have hc : (dc_hn g r * 4 + v) * 9 + i < 216 := by omega
      unfold wpX_spanCell
      rw [ec]
      refine ⟨vp_in_nI hc (by omega), dc_x_re hW hS hp.2.1 (by omega) h hi (fun w hw => ?_)⟩
      refine nm_r (e' := f ((dc_hn g r * 4 + v) * 9 + i) ||| w) (by rw [nI_clamp (by omega)]) ?_
      have hvs := dc_g_vs hW hp h hi hw hs
      have hD := dc_g_D hp hr hi hw
      have go : ∀ b', dc_px g f0 (upd f ((dc_hn g r * 4 + v) * 9 + i) (f ((dc_hn g r * 4 + v) * 9 + i) ||| w)) b' → wX_growSpans_83 post J7 J13 (wX_growSpans_24 post J7 J13 (nI i) (nI r) rc tc (nI (dc_R g)) op cm (nI (dc_T g)) n) (nI i) (nI r) (nI v) (nI ((dc_hn g r * 4 + v) * 9 + i)) (f ((dc_hn g r * 4 + v) * 9 + i) ||| w) b' rc tc (nI (dc_R g)) op cm (nI (dc_T g)) (dc_HN g) (dc_HA g) (dc_BL g) (dc_KD g) sy ag (dc_TK g) f :=
        fun b' hb' => dc_x_g83 hc (ih (v + 1) b' _ (by omega) (by omega) hb' hvs)
      refine br_c (fun hb => ⟨vp_in_nI hc (by omega), ?_⟩) (fun hb => ?_)
      · rw [nI_clamp (show (dc_hn g r * 4 + v) * 9 + i < 2 ^ 31 by omega)]
        refine br_c (fun he => go 0 ?_) (fun he => go 1 ?_)
        · rw [dc_px_0 he, ← hb]; exact hp
        · exact dc_px_1 hW hp hn6 h (by omega) hD (Or.inr he)
      · refine go 1 (dc_px_1 hW hp hn6 h (by omega) hD (Or.inl ?_))
        rcases dc_px_01 hp with z | z
        · exact absurd z hb
        · exact z
theorem dc_x_g13 (hW : dc_W g) (hS : dc_HS g sy ag) {post : Int32 → SX → Prop} {J7 : Int32 → Int32 → (Nat → Int32) → (Nat → Int32) → (Nat → Int32) → (Nat → Int32) → (Nat → Int32) → (Nat → Int32) → (Nat → Int32) → (Nat → Int32) → Prop} {f0 : Nat → Int32} {i : Nat} (hi : i ≤ dc_T g) (hJ : ∀ b f, dc_px g f0 f b → dc_vs g f0 f i (dc_R g) 0 → J7 b (nI i + (-1)) (dc_HN g) (dc_HA g) (dc_BL g) (dc_KD g) sy ag (dc_TK g) f) : ∀ n r b f, r ≤ dc_R g → dc_R g - r < n → dc_px g f0 f b → dc_vs g f0 f i r 0 → wX_growSpans_13 post J7 (nI i) rc tc (nI (dc_R g)) op cm (nI (dc_T g)) n b (nI r) (dc_HN g) (dc_HA g) (dc_BL g) (dc_KD g) sy ag (dc_TK g) f := by
  have hR := dc_W_R hW
  intro n
  induction n with
  | zero => intro r b f h1 h2; omega
  | succ n ih =>
    intro r b f hr hn hp hs
    refine pk_le (dc_R g) r (fun h => ?_) (fun h => ?_)
    · have e : r = dc_R g := by omega
      subst e
      exact nm_e (hJ b f hp hs)
    · refine ⟨5, dc_x_g24 hW hS h hi (fun b' f' hp' hs' => ih (r + 1) b' f' (by omega) (by omega) hp' ?_) 5 0 b f (by omega) (by omega) hp hs⟩
      intro r' v' i' j hr' hv' hi' hc hd
      exact hs' r' v' i' j hr' hv' hi' (by omega) hd
theorem dc_x_g7 (hW : dc_W g) (hS : dc_HS g sy ag) {post : Int32 → SX → Prop} {f0 : Nat → Int32} (hJ : ∀ b f, dc_px g f0 f b → dc_ph g (dc_SX f0) (dc_SX f) → post b (dc_x g rc tc op cm sy ag f)) : ∀ n e b f, e ≤ dc_T g + 1 → e < n → dc_px g f0 f b → (∀ r' v' i' j, r' < dc_R g → v' < 4 → i' ≤ dc_T g → e ≤ i' → dc_rd g (dc_SX f0) r' v' i' j → dc_SX f (dc_hn g r') v' i' j) → wX_growSpans_7 post rc tc (nI (dc_R g)) op cm (nI (dc_T g)) n b (nI e + (-1)) (dc_HN g) (dc_HA g) (dc_BL g) (dc_KD g) sy ag (dc_TK g) f := by
  have hT := dc_W_T hW
  intro n
  induction n with
  | zero => intro e b f h1 h2; omega
  | succ n ih =>
    intro e b f he hn hp hs
    rcases Nat.eq_zero_or_pos e with e0 | e0
    · subst e0
      refine br_t (by decide +kernel) ⟨dc_nar01 (dc_px_01 hp), hJ b f hp ?_⟩
      intro r v i j hr hi hd
      obtain ⟨x0, x1, h0, h1, h2, h3⟩ := hd
      exact hs r v i j hr (h2 ▸ dc_vl4 h0 h1) hi (by omega) ⟨x0, x1, h0, h1, h2, h3⟩
    · obtain ⟨i, rfl⟩ : ∃ i, e = i + 1 := ⟨e - 1, by omega⟩
      rw [pk_m1]
      refine br_f (nI_pos (by omega)) ⟨dc_R g + 1, dc_x_g13 hW hS (i := i) (by omega) (fun b' f' hp' hs' => ih i b' f' (by omega) (by omega) hp' ?_) _ 0 b f (by omega) (by omega) hp ?_⟩
      · intro r' v' i' j hr' hv' hi' hc hd
        exact hs' r' v' i' j hr' hv' hi' (by omega) hd
      · intro r' v' i' j hr' hv' hi' hc hd
        exact hs r' v' i' j hr' hv' hi' (by omega) hd
theorem dc_x_gr (hW : dc_W g) (hS : dc_HS g sy ag) {post : Int32 → SX → Prop} {f : Nat → Int32} (hs : dc_su (dc_SX f) (dc_D g)) (h : ∀ b f', dc_px g f f' b → dc_ph g (dc_SX f) (dc_SX f') → post b (dc_x g rc tc op cm sy ag f')) : wpX_growSpans post (dc_x g rc tc op cm sy ag f) := by
  have hl := dc_x_g7 (rc := rc) (tc := tc) (op := op) (cm := cm) hW hS h (dc_T g + 2) (dc_T g + 1) 0 f (by omega) (by omega) (dc_px_r hs) (fun r' v' i' j _ _ h1 h2 => by omega)
  rw [pk_m1] at hl
  exact ⟨_, hl⟩
theorem dc_x_d34 (hW : dc_W g) (hS : dc_HS g sy ag) {post : SX → Prop} (h : ∀ f', dc_FX g f' → post (dc_x g rc tc op cm sy ag f')) : ∀ n s b f, s ≤ 1945 → 1945 - s < n → dc_su (dc_SX f) (dc_D g) → ((b = 0 ∧ dc_Cl g (dc_SX f)) ∨ (b = 1 ∧ s ≤ dc_ct (dc_CX f) 1944)) → wX_deriveSpans_34 post n b (nI s) rc tc (nI (dc_R g)) op cm (nI (dc_T g)) (dc_HN g) (dc_HA g) (dc_BL g) (dc_KD g) sy ag (dc_TK g) f := by
  intro n
  induction n with
  | zero => intro s b f h1 h2; omega
  | succ n ih =>
    intro s b f hs hn hd hb
    refine pk_le 1945 s (fun h1 => ?_) (fun h1 => ?_)
    · rcases hb with ⟨_, hc⟩ | ⟨_, hc⟩
      · exact h f (dc_FX_of hc hd)
      · have := dc_ct_le (dc_CX f) 1944
        omega
    · refine br_c (fun e => ?_) (fun e => ?_)
      · rcases hb with ⟨_, hc⟩ | ⟨e1, hc⟩
        · exact h f (dc_FX_of hc hd)
        · rw [e] at e1; exact absurd e1 (by decide)
      · have hc : s ≤ dc_ct (dc_CX f) 1944 := by
          rcases hb with ⟨e1, _⟩ | ⟨_, hc⟩
          · exact absurd e1 e
          · exact hc
        refine dc_x_gr hW hS hd (fun b' f' hp hf => ?_)
        refine nm_r (nI_1 s) (ih (s + 1) b' f' (by omega) (by omega) hp.2.1 ?_)
        rcases hp.2.2 with ⟨h2, h3⟩ | ⟨h2, h3⟩
        · subst h3
          exact Or.inl ⟨h2, dc_ph_cl hf (dc_su_r _)⟩
        · exact Or.inr ⟨h2, by omega⟩
theorem dc_x_d10 (hW : dc_W g) (hS : dc_HS g sy ag) {post : SX → Prop} (h : ∀ f', dc_FX g f' → post (dc_x g rc tc op cm sy ag f')) : ∀ n c f, c ≤ 216 → 216 - c < n → (∀ q, q < c → f q = 0) → wX_deriveSpans_10 post rc tc (nI (dc_R g)) op cm (nI (dc_T g)) n (nI c) (dc_HN g) (dc_HA g) (dc_BL g) (dc_KD g) sy ag (dc_TK g) f := by
  intro n
  induction n with
  | zero => intro c f h1 h2; omega
  | succ n ih =>
    intro c f hc hn hz
    refine pk_le 216 c (fun h1 => ?_) (fun h1 => ?_)
    · refine ⟨1946, dc_x_d34 hW hS h 1946 0 1 f (by omega) (by omega) ?_ (Or.inr ⟨rfl, by omega⟩)⟩
      intro m v i j ⟨⟨h2, h3, h4⟩, h5⟩
      rw [hz _ (by omega)] at h5
      exact absurd h5 (dc_h0 j)
    · refine ⟨vp_in_nI h1 (by omega), nm_r (e' := upd f c 0) (by rw [nI_clamp (by omega)]) (nm_r (nI_1 c) (ih (c + 1) _ (by omega) (by omega) ?_))⟩
      intro q hq
      by_cases e : q = c
      · rw [e, pk_us]
      · rw [pk_un e]; exact hz q (by omega)
theorem dc_x_ds (hW : dc_W g) (hS : dc_HS g sy ag) {post : SX → Prop} {f : Nat → Int32} (h : ∀ f', (¬ cm = 0 → dc_FX g f') → post (dc_x g rc tc op cm sy ag f')) : wpX_deriveSpans post (dc_x g rc tc op cm sy ag f) :=
  br_c (fun e => h f (fun z => absurd e z)) (fun e => ⟨217, dc_x_d10 hW hS (fun f' hf => h f' (fun _ => hf)) 217 0 f (by omega) (by omega) (fun q hq => by omega)⟩)
end
end
section
section
variable {g : dc_G} {rc tc op cm : Int32} {sy ag f : Nat → Int32}
theorem dc_x_ni (hW : dc_W g) (hS : dc_HS g sy ag) {A : Nat → Prop} {w : Int32} (hA : ∀ m, dc_h w m ↔ A m) {post : Int32 → Prop} {q : Nat} (hq : q < 72) (h : ∀ b, dc_bo (dc_kd g q = 1 ∧ A (dc_sy g q)) b → post b) : wpX_isNullableItem post (dc_x g rc tc op cm sy ag f) (nI q) w := by
  have hk := dc_W_kd hW q
  refine ⟨vp_in_nI hq (by omega), pk_eq (dc_kd g q) 1 (fun h1 => ?_) (fun h1 => ?_) (dc_at (dc_KD g) (by omega))⟩
  · refine ⟨vp_in_nI hq (by omega), ?_⟩
    have es : sy (nI q).toNatClampNeg = nI (dc_sy g q) := by rw [nI_clamp (by omega)]; exact hS.1 _ (by omega)
    have h6 := dc_W_s1 hW h1
    rw [es]
    refine dc_if (dc_hbit (p := dc_sy g q) (by omega) w) (fun h2 => ?_) (fun h2 => ?_)
    · exact h 1 (dc_bo_t ⟨h1, (hA _).mp h2⟩)
    · exact h 0 (dc_bo_f (fun z => h2 ((hA _).mpr z.2)))
  · exact h 0 (dc_bo_f (fun z => h1 z.1))
theorem dc_x_haL (hW : dc_W g) (hS : dc_HS g sy ag) {w : Int32} {post : Int32 → Prop} {r : Nat} (hr : r < 12) (h : ∀ b, dc_bo (dc_nr g (dc_h w) r) b → post b) : ∀ n k x, k ≤ dc_bl g r → dc_bl g r - k < n → dc_bo (dc_ok g (dc_h w) r k) x → (∀ k', k' < k → dc_kd g (r * 6 + k') = 2 → ¬ dc_ok g (dc_h w) r k') → wX_hasNullableAlternative_5 post (nI r) w rc tc (nI (dc_R g)) op cm (nI (dc_T g)) (dc_HN g) (dc_HA g) (dc_BL g) (dc_KD g) sy ag (dc_TK g) f n x (nI k) := by
  have hB := dc_W_bl hW r
  intro n
  induction n with
  | zero => intro k x h1 h2; omega
  | succ n ih =>
    intro k x hk hn hx hno
    refine ⟨vp_in_nI (by omega) (by omega), pk_le (dc_bl g r) k (fun h1 => ?_) (fun h1 => ?_) (dc_at (dc_BL g) (by omega))⟩
    · have e : k = dc_bl g r := by omega
      subst e
      refine ⟨dc_nar01 (dc_bo_01 hx), h x (dc_bo_c ?_ hx)⟩
      constructor
      · intro z; exact ⟨_, ⟨Nat.le_refl _, Or.inl rfl⟩, z⟩
      · intro ⟨k', ⟨h2, h3⟩, h4⟩
        by_cases e : k' = dc_bl g r
        · exact e ▸ h4
        · exact absurd h4 (hno k' (by omega) (h3.resolve_left e))
    · have hq : r * 6 + k < 72 := by omega
      have hkd := dc_W_kd hW (r * 6 + k)
      refine nm_r (dc_i6 r k) ⟨vp_in_nI hq (by omega), pk_eq (dc_kd g (r * 6 + k)) 2 (fun h2 => ?_) (fun h2 => ?_) (dc_at (dc_KD g) (by omega))⟩
      · refine dc_if (dc_bo_0 hx) (fun h3 => ?_) (fun h3 => ?_)
        · refine nm_r (nI_1 k) (ih (k + 1) 1 (by omega) (by omega) (dc_bo_t (dc_ok_bar h2)) ?_)
          intro k' hk' hb
          by_cases e : k' = k
          · rw [e]; exact h3
          · exact hno k' (by omega) hb
        · exact h 1 (dc_bo_t ⟨k, ⟨by omega, Or.inr h2⟩, Classical.not_not.mp h3⟩)
      · have hno' : ∀ k', k' < k + 1 → dc_kd g (r * 6 + k') = 2 → ¬ dc_ok g (dc_h w) r k' := by
          intro k' hk' hb
          by_cases e : k' = k
          · rw [e] at hb; exact absurd hb h2
          · exact hno k' (by omega) hb
        refine dc_x_ni hW hS (A := dc_h w) (fun _ => Iff.rfl) hq (fun b hb => dc_if (dc_bo_0 hb) (fun h3 => ?_) (fun h3 => ?_))
        · exact nm_r (nI_1 k) (ih (k + 1) 0 (by omega) (by omega) (dc_bo_f (fun z => h3 ((dc_ok_s h2).mp z).2)) hno')
        · refine nm_r (nI_1 k) (ih (k + 1) x (by omega) (by omega) (dc_bo_c ?_ hx) hno')
          rw [dc_ok_s h2]
          exact ⟨fun z => ⟨z, Classical.not_not.mp h3⟩, fun z => z.1⟩
theorem dc_x_ha (hW : dc_W g) (hS : dc_HS g sy ag) {w : Int32} {post : Int32 → Prop} {r : Nat} (hr : r < 12) (h : ∀ b, dc_bo (dc_nr g (dc_h w) r) b → post b) : wpX_hasNullableAlternative post (dc_x g rc tc op cm sy ag f) (nI r) w :=
  ⟨dc_bl g r + 1, dc_x_haL hW hS hr h _ 0 1 (by omega) (by omega) (dc_bo_t dc_ok_0) (fun k' hk' => by omega)⟩
theorem dc_x_ns12 (hW : dc_W g) (hS : dc_HS g sy ag) {post : Int32 → Prop} {J : Int32 → Int32 → Prop} {w0 : Int32} {t : Nat} (hJ : ∀ w, (∀ m, dc_h w0 m → dc_h w m) → (∀ m, dc_h w m → dc_N g m) → (∀ r, r < dc_R g → dc_nr g (dc_h w0) r → dc_h w (dc_hn g r)) → J w (nI (t + 1))) : ∀ n r w, r ≤ dc_R g → dc_R g - r < n → (∀ m, dc_h w0 m → dc_h w m) → (∀ m, dc_h w m → dc_N g m) → (∀ r', r' < r → dc_nr g (dc_h w0) r' → dc_h w (dc_hn g r')) → wX_nullableSet_12 post J (nI t) rc tc (nI (dc_R g)) op cm (nI (dc_T g)) (dc_HN g) (dc_HA g) (dc_BL g) (dc_KD g) sy ag (dc_TK g) f n w (nI r) := by
  have hR := dc_W_R hW
  intro n
  induction n with
  | zero => intro r w h1 h2; omega
  | succ n ih =>
    intro r w hr hn h1 h2 h3
    refine pk_le (dc_R g) r (fun h => ?_) (fun h => ?_)
    · have e : r = dc_R g := by omega
      subst e
      exact nm_r (nI_1 t) (hJ w h1 h2 h3)
    · refine dc_x_ha hW hS (by omega) (fun b hb => dc_if (dc_bo_0 hb) (fun h4 => ?_) (fun h4 => ?_))
      · refine nm_r (nI_1 r) (ih (r + 1) w (by omega) (by omega) h1 h2 ?_)
        intro r' hr' hz
        by_cases e : r' = r
        · rw [e] at hz; exact absurd (dc_nr_mono h1 hz) h4
        · exact h3 r' (by omega) hz
      · have h6 := dc_W_hn hW r
        have h5 : dc_nr g (dc_h w) r := Classical.not_not.mp h4
        refine ⟨vp_in_nI (by omega) (by omega), nm_r (e' := w ||| ((1 : Int32) <<< (nI (dc_hn g r) &&& 31))) (by rw [dc_at (dc_HN g) (show r < 2 ^ 31 by omega)]) (nm_r (nI_1 r) (ih (r + 1) _ (by omega) (by omega) ?_ ?_ ?_))⟩
        · intro m hm; rw [dc_hor]; exact Or.inl (h1 m hm)
        · intro m hm
          rw [dc_hor, dc_hone (by omega)] at hm
          rcases hm with hm | hm
          · exact h2 m hm
          · rw [hm]; exact dc_N_cl g r h (dc_nr_mono h2 h5)
        · intro r' hr' hz
          rw [dc_hor, dc_hone (by omega)]
          by_cases e : r' = r
          · rw [e]; exact Or.inr rfl
          · exact Or.inl (h3 r' (by omega) hz)
theorem dc_x_ns4 (hW : dc_W g) (hS : dc_HS g sy ag) {post : Int32 → Prop} (h : ∀ w, (∀ m, dc_h w m ↔ dc_N g m) → post w) : ∀ n t w, t ≤ 6 → 6 - t < n → (∀ m, dc_h w m → dc_N g m) → (dc_NC g (dc_h w) ∨ t ≤ dc_ct (dc_h w) 6) → wX_nullableSet_4 post rc tc (nI (dc_R g)) op cm (nI (dc_T g)) (dc_HN g) (dc_HA g) (dc_BL g) (dc_KD g) sy ag (dc_TK g) f n w (nI t) := by
  intro n
  induction n with
  | zero => intro r w h1 h2; omega
  | succ n ih =>
    intro t w ht hn h1 h2
    refine pk_le 6 t (fun h3 => ?_) (fun h3 => ?_)
    · have e : t = 6 := by omega
      subst e
      exact h w (dc_Nend hW h1 h2)
    · refine ⟨dc_R g + 1, dc_x_ns12 hW hS (fun w' k1 k2 k3 => ih (t + 1) w' (by omega) (by omega) k2 (dc_Nstep hW k1 k2 k3 h2)) _ 0 w (by omega) (by omega) (fun _ z => z) h1 (fun r' hr' => by omega)⟩
theorem dc_x_ns (hW : dc_W g) (hS : dc_HS g sy ag) {post : Int32 → Prop} (h : ∀ w, (∀ m, dc_h w m ↔ dc_N g m) → post w) : wpX_nullableSet post (dc_x g rc tc op cm sy ag f) :=
  ⟨7, dc_x_ns4 hW hS h 7 0 0 (by omega) (by omega) (fun m z => absurd z (dc_h0 m)) (Or.inr (by omega))⟩
theorem dc_x_lt73 (hW : dc_W g) (hS : dc_HS g sy ag) {w : Int32} (hw : ∀ m, dc_h w m ↔ dc_N g m) {post : Int32 → Prop} {J : Int32 → Int32 → Int32 → Prop} {r k : Nat} {a x : Int32} (hq : r * 6 + k < 72) (h2 : dc_kd g (r * 6 + k) ≠ 2) (hx : dc_bo (dc_ok g (dc_N g) r k) x) (h : ∀ x', dc_bo (dc_ok g (dc_N g) r (k + 1)) x' → J a x' (nI (k + 1))) : wX_leftTargetsOfRule_73 post J (nI r) w a x (nI k) (nI (r * 6 + k)) rc tc (nI (dc_R g)) op cm (nI (dc_T g)) (dc_HN g) (dc_HA g) (dc_BL g) (dc_KD g) sy ag (dc_TK g) f := by
  refine dc_if (dc_bo_0 hx) (fun h3 => ?_) (fun h3 => ?_)
  · exact nm_r (nI_1 k) (h 0 (dc_bo_f (fun z => h3 ((dc_ok_s h2).mp z).1)))
  · refine dc_x_ni hW hS hw hq (fun b hb => dc_if (dc_bo_0 hb) (fun h4 => ?_) (fun h4 => ?_))
    · exact nm_r (nI_1 k) (h 0 (dc_bo_f (fun z => h4 ((dc_ok_s h2).mp z).2)))
    · exact nm_r (nI_1 k) (h 1 (dc_bo_t ((dc_ok_s h2).mpr ⟨Classical.not_not.mp h3, Classical.not_not.mp h4⟩)))
/-- what rule r shows on the left, of its first k items -/
def dc_lt (g : dc_G) (r k b : Nat) : Prop := ∃ q, q < k ∧ (dc_kd g (r * 6 + q) = 1 ∧ dc_ok g (dc_N g) r q ∧ dc_sy g (r * 6 + q) = b)
theorem dc_x_lt8 (hW : dc_W g) (hS : dc_HS g sy ag) {w : Int32} (hw : ∀ m, dc_h w m ↔ dc_N g m) {post : Int32 → Prop} {r : Nat} (hr : r < 12) (h : ∀ c, (∀ b, dc_h c b ↔ dc_lt g r (dc_bl g r) b) → post c) : ∀ n k a x, k ≤ dc_bl g r → dc_bl g r - k < n → (∀ b, dc_h a b ↔ dc_lt g r k b) → dc_bo (dc_ok g (dc_N g) r k) x → wX_leftTargetsOfRule_8 post (nI r) w rc tc (nI (dc_R g)) op cm (nI (dc_T g)) (dc_HN g) (dc_HA g) (dc_BL g) (dc_KD g) sy ag (dc_TK g) f n a x (nI k) := by
  have hB := dc_W_bl hW r
  intro n
  induction n with
  | zero => intro k a x h1 h2; omega
  | succ n ih =>
    intro k a x hk hn ha hx
    refine ⟨vp_in_nI (by omega) (by omega), pk_le (dc_bl g r) k (fun h1 => ?_) (fun h1 => ?_) (dc_at (dc_BL g) (by omega))⟩
    · have e : k = dc_bl g r := by omega
      subst e
      exact h a ha
    · have hq : r * 6 + k < 72 := by omega
      have hkd := dc_W_kd hW (r * 6 + k)
      have hsk : ¬ (dc_kd g (r * 6 + k) = 1 ∧ dc_ok g (dc_N g) r k) → ∀ b, dc_h a b ↔ dc_lt g r (k + 1) b := by
        intro hz b
        rw [ha]
        exact dc_exn (fun z => hz ⟨z.1, z.2.1⟩)
      refine nm_r (dc_i6 r k) ⟨vp_in_nI hq (by omega), pk_eq (dc_kd g (r * 6 + k)) 2 (fun h2 => ?_) (fun h2 => ?_) (dc_at (dc_KD g) (by omega))⟩
      · exact nm_r (nI_1 k) (ih (k + 1) a 1 (by omega) (by omega) (hsk (fun z => by omega)) (dc_bo_t (dc_ok_bar h2)))
      · refine dc_if (dc_bo_0 hx) (fun h3 => ?_) (fun h3 => ?_)
        · exact dc_x_lt73 hW hS hw hq h2 hx (fun x' hx' => ih (k + 1) a x' (by omega) (by omega) (hsk (fun z => h3 z.2)) hx')
        · refine ⟨vp_in_nI hq (by omega), pk_eq (dc_kd g (r * 6 + k)) 1 (fun h4 => ?_) (fun h4 => ?_) (dc_at (dc_KD g) (by omega))⟩
          · have h6 := dc_W_s1 hW h4
            refine ⟨vp_in_nI hq (by omega), nm_r (e' := a ||| ((1 : Int32) <<< (nI (dc_sy g (r * 6 + k)) &&& 31))) (by rw [nI_clamp (show r * 6 + k < 2 ^ 31 by omega), hS.1 _ h2]) ?_⟩
            refine dc_x_lt73 hW hS hw hq h2 hx (fun x' hx' => ih (k + 1) _ x' (by omega) (by omega) ?_ hx')
            intro b
            rw [dc_hor, dc_hone (by omega), ha]
            exact dc_exy ⟨fun z => z.2.2.symm, fun z => ⟨h4, Classical.not_not.mp h3, z.symm⟩⟩
          · exact dc_x_lt73 hW hS hw hq h2 hx (fun x' hx' => ih (k + 1) a x' (by omega) (by omega) (hsk (fun z => h4 z.1)) hx')
theorem dc_x_ltr (hW : dc_W g) (hS : dc_HS g sy ag) {w : Int32} (hw : ∀ m, dc_h w m ↔ dc_N g m) {post : Int32 → Prop} {r : Nat} (hr : r < 12) (h : ∀ c, (∀ b, dc_h c b ↔ dc_lt g r (dc_bl g r) b) → post c) : wpX_leftTargetsOfRule post (dc_x g rc tc op cm sy ag f) (nI r) w :=
  ⟨dc_bl g r + 1, dc_x_lt8 hW hS hw hr h _ 0 0 1 (by omega) (by omega) (fun j => dc_h00 j) (dc_bo_t dc_ok_0)⟩
theorem dc_x_lt5 (hW : dc_W g) (hS : dc_HS g sy ag) {w s : Int32} (hw : ∀ m, dc_h w m ↔ dc_N g m) {post : Int32 → Prop} (h : ∀ c, (∀ b, dc_h c b ↔ ∃ a, dc_h s a ∧ dc_E g a b) → post c) : ∀ n r a, r ≤ dc_R g → dc_R g - r < n → (∀ b, dc_h a b ↔ ∃ q, q < r ∧ (dc_h s (dc_hn g q) ∧ dc_lt g q (dc_bl g q) b)) → wX_leftTargets_5 post s w rc tc (nI (dc_R g)) op cm (nI (dc_T g)) (dc_HN g) (dc_HA g) (dc_BL g) (dc_KD g) sy ag (dc_TK g) f n a (nI r) := by
  have hR := dc_W_R hW
  intro n
  induction n with
  | zero => intro r a h1 h2; omega
  | succ n ih =>
    intro r a hr hn ha
    refine pk_le (dc_R g) r (fun h1 => ?_) (fun h1 => ?_)
    · have e : r = dc_R g := by omega
      subst e
      refine h a (fun b => ?_)
      rw [ha]
      constructor
      · intro ⟨q, k1, k2, k, k3, k4, k5, k6⟩
        exact ⟨_, k2, q, k, k1, rfl, k3, k4, k5, k6⟩
      · intro ⟨c, k2, q, k, k1, k7, k3, k4, k5, k6⟩
        exact ⟨q, k1, k7 ▸ k2, k, k3, k4, k5, k6⟩
    · have h6 := dc_W_hn hW r
      refine ⟨vp_in_nI (by omega) (by omega), ?_⟩
      rw [dc_at (dc_HN g) (show r < 2 ^ 31 by omega)]
      refine dc_if (dc_hbit (p := dc_hn g r) (by omega) s) (fun h2 => ?_) (fun h2 => ?_)
      · refine dc_x_ltr hW hS hw (by omega) (fun c hc => nm_e (nm_r (nI_1 r) (ih (r + 1) _ (by omega) (by omega) ?_)))
        intro b
        rw [dc_hor, ha, hc]
        exact dc_exy ⟨fun z => z.2, fun z => ⟨h2, z⟩⟩
      · refine nm_r (nI_1 r) (ih (r + 1) _ (by omega) (by omega) ?_)
        intro b
        rw [ha]
        exact dc_exn (fun z => h2 z.1)
theorem dc_x_lt (hW : dc_W g) (hS : dc_HS g sy ag) {w s : Int32} (hw : ∀ m, dc_h w m ↔ dc_N g m) {post : Int32 → Prop} (h : ∀ c, (∀ b, dc_h c b ↔ ∃ a, dc_h s a ∧ dc_E g a b) → post c) : wpX_leftTargets post (dc_x g rc tc op cm sy ag f) s w :=
  ⟨dc_R g + 1, dc_x_lt5 hW hS hw h _ 0 0 (by omega) (by omega) (fun j => dc_h00 j)⟩
theorem dc_x_lc28 (hW : dc_W g) (hS : dc_HS g sy ag) {w : Int32} (hw : ∀ m, dc_h w m ↔ dc_N g m) {post : Int32 → Prop} {m : Nat} (hm : m < 6) (h : ∀ b, dc_bo (dc_L g m m) b → post b) : ∀ n t a, t ≤ 6 → 6 - t < n → (∀ b, dc_E g m b → dc_h a b) → (∀ b, dc_h a b → dc_L g m b) → (dc_LC g m (dc_h a) ∨ t ≤ dc_ct (dc_h a) 6) → wX_onLeftCycle_28 post (nI m) w rc tc (nI (dc_R g)) op cm (nI (dc_T g)) (dc_HN g) (dc_HA g) (dc_BL g) (dc_KD g) sy ag (dc_TK g) f n a (nI t) := by
  intro n
  induction n with
  | zero => intro t a h1 h2; omega
  | succ n ih =>
    intro t a ht hn h1 h2 h3
    refine pk_le 6 t (fun h4 => ?_) (fun h4 => ?_)
    · have e : t = 6 := by omega
      subst e
      have hl := dc_Lend hW h2 h3 m
      refine dc_if (dc_hbit (p := m) (by omega) a) (fun h5 => ?_) (fun h5 => ?_)
      · exact h 1 (dc_bo_t (hl.mp h5))
      · exact h 0 (dc_bo_f (fun z => h5 (hl.mpr z)))
    · refine dc_x_lt hW hS hw (fun c hc => nm_e (nm_r (nI_1 t) (ih (t + 1) _ (by omega) (by omega) ?_ ?_ ?_)))
      · intro b hb; rw [dc_hor]; exact Or.inl (h1 b hb)
      · intro b hb
        rw [dc_hor, hc] at hb
        rcases hb with hb | ⟨q, hb, he⟩
        · exact h2 b hb
        · exact dc_L_s (h2 q hb) he
      · refine dc_Lstep hW (A := dc_h a) ?_ ?_ h1 ?_ h3
        · intro b hb; rw [dc_hor]; exact Or.inl hb
        · intro b hb
          rw [dc_hor, hc] at hb
          rcases hb with hb | ⟨q, hb, he⟩
          · exact h2 b hb
          · exact dc_L_s (h2 q hb) he
        · intro q b hq hb
          rw [dc_hor, hc]
          exact Or.inr ⟨q, hq, hb⟩
theorem dc_x_wi {post : Int32 → Prop} {x : Int32} {n : Nat} (hn : n < 2 ^ 31) (h : (∃ j, j < n ∧ x = nI j ∧ post 1) ∨ ((x < 0 ∨ nI n ≤ x) ∧ post 0)) : wpX_within post x (nI n) := by
  rcases h with ⟨j, h1, rfl, h2⟩ | ⟨h1, h2⟩
  · exact br_f (nI_pos (by omega)) (br_f (nI_ge h1 hn) h2)
  · refine br_c (fun _ => h2) (fun z => br_t (h1.resolve_left z) h2)
theorem dc_x_lc (hW : dc_W g) (hS : dc_HS g sy ag) {post : Int32 → Prop} {m : Nat} (hm : m < 6) (h : ∀ b, dc_bo (dc_L g m m) b → post b) : wpX_onLeftCycle post (dc_x g rc tc op cm sy ag f) (nI m) := by
  unfold wpX_onLeftCycle
  dsimp only
  refine dc_x_wi (n := 6) (by omega) (Or.inl ⟨m, hm, rfl, ?_⟩)
  refine br_f (by decide) (dc_x_ns hW hS (fun w hw => dc_x_lt hW hS hw (fun c hc => ?_)))
  have hc' : ∀ b, dc_h c b ↔ dc_E g m b := by
    intro b
    rw [hc]
    constructor
    · intro ⟨a, h1, h2⟩
      rw [dc_hone (by omega)] at h1
      exact h1 ▸ h2
    · intro z
      exact ⟨m, (dc_hone (by omega) m).mpr rfl, z⟩
  exact ⟨6, dc_x_lc28 hW hS hw hm h 6 1 c (by omega) (by omega) (fun b hb => (hc' b).mpr hb) (fun b hb => dc_L_E ((hc' b).mp hb)) (dc_Lbeg hc' (fun b hb => (dc_E_in hW ((hc' b).mp hb)).2))⟩
end
end
section
/-- the boolean array a holds the set P below n -/
def dc_is (a : Nat → Int32) (n : Nat) (P : Nat → Prop) : Prop := ∀ q, q < n → dc_bo (P q) (a q)
theorem dc_is_c {a : Nat → Int32} {n : Nat} {P Q : Nat → Prop} (h : dc_is a n P) (e : ∀ q, q < n → (P q ↔ Q q)) : dc_is a n Q := fun q hq => dc_bo_c (e q hq) (h q hq)
theorem dc_is_u {a : Nat → Int32} {n k : Nat} {P : Nat → Prop} (h : dc_is a n P) : dc_is (upd a k 1) n (fun q => P q ∨ q = k) := by
  intro q hq
  by_cases e : q = k
  · rw [e, pk_us]; exact dc_bo_t (Or.inr rfl)
  · rw [pk_un e]
    exact dc_bo_c ⟨Or.inl, fun z => z.resolve_right e⟩ (h q hq)
theorem dc_is_0 {a : Nat → Int32} {n : Nat} {P : Nat → Prop} (h : ∀ q, q < n → a q = 0) (hP : ∀ q, q < n → ¬ P q) : dc_is a n P := by
  intro q hq
  rw [h q hq]
  exact dc_bo_f (hP q hq)
theorem dc_z_s {a : Nat → Int32} {k : Nat} (h : ∀ q, q < k → a q = 0) : ∀ q, q < k + 1 → upd a k 0 q = 0 := by
  intro q hq
  by_cases e : q = k
  · rw [e, pk_us]
  · rw [pk_un e]; exact h q (by omega)
theorem dc_nbo {P : Prop} {b : Int32} (h : dc_bo P b) : vp_nar .boolean b = b := by
  rcases h with ⟨rfl, _⟩ | ⟨rfl, _⟩ <;> rfl
section
variable {g : dc_G} {rc tc op cm : Int32} {d re nx nu ed se : Nat → Int32}
theorem dc_y_vl {post : Int32 → Prop} {u : SY} {c x0 x1 : Nat} (hc : c < 6) (h : post (nI (dc_vl c x0 x1))) : wpY_val post u (nI c) (nI x0) (nI x1) := by
  refine pk_le 4 c (fun e => pk_eq c 4 (fun e' => ?_) (fun e' => ?_)) (fun e => ?_)
  · subst e'; exact h
  · have e2 : c = 5 := by omega
    subst e2; exact h
  · unfold dc_vl at h
    rw [if_pos (by omega)] at h
    exact h
theorem dc_y_ix {post : Int32 → Prop} {u : SY} {m v i j : Nat} (h : post (nI (((m * 4 + v) * 9 + i) * 9 + j))) : wpY_idx post u (nI m) (nI v) (nI i) (nI j) := by
  unfold wpY_idx
  dsimp only
  rw [dc_i81]
  exact h
theorem dc_y_s177 {P : Nat → Prop} (hnx : dc_is nx 9 P) {post : SY → Prop} (h : ∀ re', dc_is re' 9 P → post (dc_y g rc tc op cm d re' nx nu ed se)) : ∀ n j re, j ≤ 9 → 9 - j < n → (∀ q, q < j → dc_bo (P q) (re q)) → wY_step_177 post rc tc (nI (dc_R g)) (nI (dc_T g)) op cm n (nI j) (dc_HN g) (dc_HA g) (dc_BL g) (dc_KD g) (dc_SM g) (dc_AG g) (dc_TK g) d re nx nu ed se := by
  intro n
  induction n with
  | zero => intro j re h1 h2; omega
  | succ n ih =>
    intro j re hj hn hr
    refine pk_le 9 j (fun h1 => ?_) (fun h1 => ?_)
    · have e : j = 9 := by omega
      subst e
      exact h re hr
    · refine ⟨vp_in_nI h1 (by omega), vp_in_nI h1 (by omega), nm_r (e' := upd re j (nx j)) (by rw [nI_clamp (by omega), dc_nbo (hnx j h1)]) (nm_r (nI_1 j) (ih (j + 1) _ (by omega) (by omega) ?_))⟩
      intro q hq
      by_cases e : q = j
      · rw [e, pk_us]; exact hnx j h1
      · rw [pk_un e]; exact hr q (by omega)
theorem dc_y_s121 (hW : dc_W g) {P : Nat → Prop} {post : SY → Prop} {J : Int32 → (Nat → Int32) → (Nat → Int32) → (Nat → Int32) → (Nat → Int32) → (Nat → Int32) → (Nat → Int32) → (Nat → Int32) → (Nat → Int32) → (Nat → Int32) → (Nat → Int32) → (Nat → Int32) → (Nat → Int32) → (Nat → Int32) → Prop} {q c p : Nat} (hq : q < 72) (hk : dc_kd g q = 1) (hc : c < 4) (hp : p ≤ dc_T g) (hJ : ∀ nx', dc_is nx' 9 (fun j => P j ∨ (p ≤ j ∧ j < dc_T g + 1 ∧ dc_SY d (dc_sy g q) c p j)) → J (nI (p + 1)) (dc_HN g) (dc_HA g) (dc_BL g) (dc_KD g) (dc_SM g) (dc_AG g) (dc_TK g) d re nx' nu ed se) : ∀ n j nx, p ≤ j → j ≤ dc_T g + 1 → dc_T g + 1 - j < n → dc_is nx 9 (fun j' => P j' ∨ (p ≤ j' ∧ j' < j ∧ dc_SY d (dc_sy g q) c p j')) → wY_step_121 post J (nI q) (nI c) (nI p) rc tc (nI (dc_R g)) (nI (dc_T g)) op cm n (nI j) (dc_HN g) (dc_HA g) (dc_BL g) (dc_KD g) (dc_SM g) (dc_AG g) (dc_TK g) d re nx nu ed se := by
  have hT := dc_W_T hW
  have h6 := dc_W_s1 hW hk
  intro n
  induction n with
  | zero => intro j nx h0 h1 h2; omega
  | succ n ih =>
    intro j nx hpj hj hn hnx
    refine pk_lt (dc_T g) j (fun h1 => ?_) (fun h1 => ?_)
    · have e : j = dc_T g + 1 := by omega
      subst e
      exact nm_r (nI_1 p) (hJ nx hnx)
    · refine ⟨vp_in_nI hq (by omega), ?_⟩
      rw [dc_at (dc_SM g) (show q < 2 ^ 31 by omega)]
      refine dc_y_ix ⟨vp_in_nI (by omega) (by omega), ?_⟩
      rw [nI_clamp (show ((dc_sy g q * 4 + c) * 9 + p) * 9 + j < 2 ^ 31 by omega)]
      refine br_c (fun hz => ?_) (fun hz => ?_)
      · refine nm_r (nI_1 j) (ih (j + 1) nx (by omega) (by omega) (by omega) (dc_is_c hnx ?_))
        intro j' _
        refine or_congr Iff.rfl ⟨fun z => ⟨z.1, by omega, z.2.2⟩, fun z => ⟨z.1, ?_, z.2.2⟩⟩
        by_cases e : j' = j
        · rw [e] at z; exact absurd hz z.2.2.2
        · omega
      · refine ⟨vp_in_nI (by omega) (by omega), nm_r (e' := upd nx j 1) (by rw [nI_clamp (by omega), dc_nb1]) (nm_r (nI_1 j) (ih (j + 1) _ (by omega) (by omega) (by omega) (dc_is_c (dc_is_u hnx) ?_)))⟩
        intro j' _
        have hS : dc_SY d (dc_sy g q) c p j := ⟨⟨h6, hc, by omega, by omega⟩, hz⟩
        constructor
        · intro z
          rcases z with (z | z) | z
          · exact Or.inl z
          · exact Or.inr ⟨z.1, by omega, z.2.2⟩
          · subst z; exact Or.inr ⟨hpj, by omega, hS⟩
        · intro z
          rcases z with z | z
          · exact Or.inl (Or.inl z)
          · by_cases e : j' = j
            · exact Or.inr e
            · exact Or.inl (Or.inr ⟨z.1, by omega, z.2.2⟩)
/-- what item q gives from place p -/
def dc_gv (g : dc_G) (S : dc_Q) (x0 x1 q p j : Nat) : Prop := (dc_kd g q = 0 ∧ p < dc_T g ∧ dc_tk g p = dc_sy g q ∧ j = p + 1) ∨ (dc_kd g q ≠ 0 ∧ p ≤ j ∧ j ≤ dc_T g ∧ S (dc_sy g q) (dc_vl (dc_ag g q) x0 x1) p j)
theorem dc_gv_st (g : dc_G) (S : dc_Q) (x0 x1 q : Nat) (P : Nat → Prop) (j : Nat) : (∃ p, p < dc_T g + 1 ∧ (P p ∧ dc_gv g S x0 x1 q p j)) ↔ dc_st g S x0 x1 q P j := by
  constructor
  · intro ⟨p, h1, h2, h3⟩
    rcases h3 with ⟨h4, h5, h6, h7⟩ | ⟨h4, h5, h6, h7⟩
    · exact Or.inl ⟨h4, p, h5, h2, h6, h7⟩
    · exact Or.inr ⟨h4, p, by omega, h2, h5, h6, h7⟩
  · intro h
    rcases h with ⟨h4, p, h5, h2, h6, h7⟩ | ⟨h4, p, h1, h2, h5, h6, h7⟩
    · exact ⟨p, by omega, h2, Or.inl ⟨h4, h5, h6, h7⟩⟩
    · exact ⟨p, by omega, h2, Or.inr ⟨h4, h5, h6, h7⟩⟩
theorem dc_y_s41 (hW : dc_W g) {P : Nat → Prop} (hre : dc_is re 9 P) {post : SY → Prop} {q x0 x1 : Nat} (hq : q < 72) (h2 : dc_kd g q ≠ 2) (h0 : x0 < 4) (h1 : x1 < 4) (h : ∀ re' nx', dc_is re' 9 (dc_st g (dc_SY d) x0 x1 q P) → post (dc_y g rc tc op cm d re' nx' nu ed se)) : ∀ n p nx, p ≤ dc_T g + 1 → dc_T g + 1 - p < n → dc_is nx 9 (fun j => ∃ p', p' < p ∧ (P p' ∧ dc_gv g (dc_SY d) x0 x1 q p' j)) → wY_step_41 post (nI q) (nI (dc_vl (dc_ag g q) x0 x1)) rc tc (nI (dc_R g)) (nI (dc_T g)) op cm n (nI p) (dc_HN g) (dc_HA g) (dc_BL g) (dc_KD g) (dc_SM g) (dc_AG g) (dc_TK g) d re nx nu ed se := by
  have hT := dc_W_T hW
  have hkd := dc_W_kd hW q
  have hsy := dc_W_sy hW q
  intro n
  induction n with
  | zero => intro p nx h1 h2; omega
  | succ n ih =>
    intro p nx hp hn hnx
    refine pk_lt (dc_T g) p (fun h3 => ?_) (fun h3 => ?_)
    · have e : p = dc_T g + 1 := by omega
      subst e
      exact ⟨10, dc_y_s177 (dc_is_c hnx (fun j _ => dc_gv_st g (dc_SY d) x0 x1 q P j)) (fun re' hre' => h re' nx hre') 10 0 re (by omega) (by omega) (fun q' hq' => by omega)⟩
    · have hp9 : p < 9 := by omega
      have hsk : ¬ P p → wY_step_41 post (nI q) (nI (dc_vl (dc_ag g q) x0 x1)) rc tc (nI (dc_R g)) (nI (dc_T g)) op cm n (nI (p + 1)) (dc_HN g) (dc_HA g) (dc_BL g) (dc_KD g) (dc_SM g) (dc_AG g) (dc_TK g) d re nx nu ed se :=
        fun hz => ih (p + 1) nx (by omega) (by omega) (dc_is_c hnx (fun j _ => dc_exn (fun z => hz z.1)))
      have h107 : ¬ (P p ∧ dc_kd g q = 0) → wY_step_107 post (wY_step_41 post (nI q) (nI (dc_vl (dc_ag g q) x0 x1)) rc tc (nI (dc_R g)) (nI (dc_T g)) op cm n) (nI q) (nI (dc_vl (dc_ag g q) x0 x1)) (nI p) rc tc (nI (dc_R g)) (nI (dc_T g)) op cm (dc_HN g) (dc_HA g) (dc_BL g) (dc_KD g) (dc_SM g) (dc_AG g) (dc_TK g) d re nx nu ed se := by
        intro hz
        refine ⟨vp_in_nI hp9 (by omega), ?_⟩
        rw [nI_clamp (show p < 2 ^ 31 by omega)]
        refine dc_if (dc_bo_0 (hre p hp9)) (fun h4 => nm_r (nI_1 p) (hsk h4)) (fun h4 => ?_)
        have hP : P p := Classical.not_not.mp h4
        have hk1 : dc_kd g q = 1 := by
          by_cases e : dc_kd g q = 0
          · exact absurd ⟨hP, e⟩ hz
          · omega
        refine ⟨dc_T g + 2, dc_y_s121 (P := fun j => ∃ p', p' < p ∧ (P p' ∧ dc_gv g (dc_SY d) x0 x1 q p' j)) hW hq hk1 (dc_vl4 h0 h1) (by omega) (fun nx' hnx' => ih (p + 1) nx' (by omega) (by omega) (dc_is_c hnx' ?_)) _ p nx (Nat.le_refl p) (by omega) (by omega) (dc_is_c hnx ?_)⟩
        · intro j _
          refine dc_exy ?_
          constructor
          · intro ⟨_, z⟩
            rcases z with z | z
            · omega
            · exact ⟨z.2.1, by omega, z.2.2.2⟩
          · intro z
            exact ⟨hP, Or.inr ⟨by omega, z.1, by omega, z.2.2⟩⟩
        · intro j _
          exact ⟨Or.inl, fun z => z.elim id (fun y => by omega)⟩
      refine ⟨vp_in_nI hp9 (by omega), ?_⟩
      rw [nI_clamp (show p < 2 ^ 31 by omega)]
      refine dc_if (dc_bo_0 (hre p hp9)) (fun h4 => h107 (fun z => h4 z.1)) (fun h4 => ?_)
      have hP : P p := Classical.not_not.mp h4
      refine ⟨vp_in_nI hq (by omega), pk_eq (dc_kd g q) 0 (fun h5 => ?_) (fun h5 => h107 (fun z => h5 z.2)) (dc_at (dc_KD g) (by omega))⟩
      refine pk_le (dc_T g) p (fun h6 => ?_) (fun h6 => ?_)
      · refine nm_r (nI_1 p) (ih (p + 1) nx (by omega) (by omega) (dc_is_c hnx (fun j _ => dc_exn ?_)))
        intro z
        rcases z.2 with y | y
        · omega
        · exact y.1 h5
      · have htk := dc_W_tk hW p
        refine ⟨vp_in_nI (by omega) (by omega), vp_in_nI hq (by omega), pk_eq (dc_tk g p) (dc_sy g q) (fun h7 => ?_) (fun h7 => ?_) rfl (dc_at (dc_SM g) (by omega))⟩
        · refine ⟨?_, nm_r (e' := upd nx (p + 1) 1) (by rw [nI_1, nI_clamp (by omega), dc_nb1]) (nm_r (nI_1 p) (ih (p + 1) _ (by omega) (by omega) (dc_is_c (dc_is_u hnx) (fun j _ => dc_exy ?_))))⟩
          · rw [nI_1]; exact vp_in_nI (by omega) (by omega)
          · constructor
            · intro ⟨_, z⟩
              rcases z with z | z
              · exact z.2.2.2
              · exact absurd h5 z.1
            · intro z
              exact ⟨hP, Or.inl ⟨h5, h6, h7, z⟩⟩
        · refine nm_r (nI_1 p) (ih (p + 1) nx (by omega) (by omega) (dc_is_c hnx (fun j _ => dc_exn ?_)))
          intro z
          rcases z.2 with y | y
          · exact h7 y.2.2.1
          · exact y.1 h5
theorem dc_y_s3 (hW : dc_W g) {P : Nat → Prop} (hre : dc_is re 9 P) {post : SY → Prop} {q x0 x1 : Nat} (hq : q < 72) (h2 : dc_kd g q ≠ 2) (h0 : x0 < 4) (h1 : x1 < 4) (h : ∀ re' nx', dc_is re' 9 (dc_st g (dc_SY d) x0 x1 q P) → post (dc_y g rc tc op cm d re' nx' nu ed se)) : ∀ n j nx, j ≤ 9 → 9 - j < n → (∀ q', q' < j → nx q' = 0) → wY_step_3 post (nI q) (nI x0) (nI x1) rc tc (nI (dc_R g)) (nI (dc_T g)) op cm n (nI j) (dc_HN g) (dc_HA g) (dc_BL g) (dc_KD g) (dc_SM g) (dc_AG g) (dc_TK g) d re nx nu ed se := by
  intro n
  induction n with
  | zero => intro p nx h1 h2; omega
  | succ n ih =>
    intro j nx hj hn hz
    refine pk_le 9 j (fun h3 => ?_) (fun h3 => ?_)
    · have e : j = 9 := by omega
      subst e
      refine ⟨vp_in_nI hq (by omega), ?_⟩
      rw [dc_at (dc_AG g) (show q < 2 ^ 31 by omega)]
      exact dc_y_vl (dc_W_ag hW q) ⟨dc_T g + 2, dc_y_s41 hW hre hq h2 h0 h1 h _ 0 nx (by omega) (by omega) (dc_is_0 hz (fun _ _ => dc_ex0))⟩
    · exact ⟨vp_in_nI h3 (by omega), nm_r (e' := upd nx j 0) (by rw [nI_clamp (by omega), dc_nb0]) (nm_r (nI_1 j) (ih (j + 1) _ (by omega) (by omega) (dc_z_s hz)))⟩
theorem dc_y_st (hW : dc_W g) {P : Nat → Prop} (hre : dc_is re 9 P) {post : SY → Prop} {q x0 x1 : Nat} (hq : q < 72) (h2 : dc_kd g q ≠ 2) (h0 : x0 < 4) (h1 : x1 < 4) (h : ∀ re' nx', dc_is re' 9 (dc_st g (dc_SY d) x0 x1 q P) → post (dc_y g rc tc op cm d re' nx' nu ed se)) : wpY_step post (dc_y g rc tc op cm d re nx nu ed se) (nI q) (nI x0) (nI x1) :=
  ⟨10, dc_y_s3 hW hre hq h2 h0 h1 h 10 0 nx (by omega) (by omega) (fun q' hq' => by omega)⟩
theorem dc_y_r35 (hW : dc_W g) {post : SY → Prop} {r x0 x1 i k s : Nat} (hr : r < 12) (h0 : x0 < 4) (h1 : x1 < 4) (hk : k ≤ 6) (hn2 : ∀ q, s ≤ q → q < k → dc_kd g (r * 6 + q) ≠ 2) (h : ∀ re' nx', dc_is re' 9 (dc_pl g (dc_SY d) r x0 x1 i k) → post (dc_y g rc tc op cm d re' nx' nu ed se)) : ∀ n t re nx, s ≤ t → t ≤ k → k - t < n → dc_is re 9 (dc_pl g (dc_SY d) r x0 x1 i t) → wY_spanReach_35 post (nI (r * 6 + k)) (nI x0) (nI x1) n (nI (r * 6 + t)) rc tc (nI (dc_R g)) (nI (dc_T g)) op cm (dc_HN g) (dc_HA g) (dc_BL g) (dc_KD g) (dc_SM g) (dc_AG g) (dc_TK g) d re nx nu ed se := by
  intro n
  induction n with
  | zero => intro t re nx h0 h1 h2; omega
  | succ n ih =>
    intro t re nx hst htk hn hre
    refine pk_le (r * 6 + k) (r * 6 + t) (fun h3 => ?_) (fun h3 => ?_)
    · have e : t = k := by omega
      subst e
      exact h re nx hre
    · have hb := hn2 t hst (by omega)
      refine dc_y_st hW hre (by omega) hb h0 h1 (fun re' nx' hre' => nm_r (nI_1 (r * 6 + t)) (ih (t + 1) re' nx' (by omega) (by omega) (by omega) (dc_is_c hre' ?_)))
      intro j _
      exact ⟨fun z => Or.inr ⟨hb, z⟩, fun z => z.elim (fun y => absurd y.1 hb) (fun y => y.2)⟩
/-- s begins an alternative of rule r -/
def dc_be (g : dc_G) (r s : Nat) : Prop := s = 0 ∨ ∃ t, s = t + 1 ∧ dc_kd g (r * 6 + t) = 2
theorem dc_be_pl {g : dc_G} {S : dc_Q} {r x0 x1 i s j : Nat} (h : dc_be g r s) : j = i ↔ dc_pl g S r x0 x1 i s j := by
  rcases h with rfl | ⟨t, rfl, h⟩
  · exact Iff.rfl
  · exact ⟨fun z => Or.inl ⟨h, z⟩, fun z => z.elim (fun y => y.2) (fun y => absurd h y.1)⟩
theorem dc_y_r3 (hW : dc_W g) {post : SY → Prop} {r x0 x1 i k s : Nat} (hr : r < 12) (h0 : x0 < 4) (h1 : x1 < 4) (hi : i < 9) (hk : k ≤ 6) (hs : s ≤ k) (hb : dc_be g r s) (hn2 : ∀ q, s ≤ q → q < k → dc_kd g (r * 6 + q) ≠ 2) (h : ∀ re' nx', dc_is re' 9 (dc_pl g (dc_SY d) r x0 x1 i k) → post (dc_y g rc tc op cm d re' nx' nu ed se)) : ∀ n j re, j ≤ 9 → 9 - j < n → (∀ q, q < j → re q = 0) → wY_spanReach_3 post (nI (r * 6 + s)) (nI (r * 6 + k)) (nI x0) (nI x1) (nI i) rc tc (nI (dc_R g)) (nI (dc_T g)) op cm n (nI j) (dc_HN g) (dc_HA g) (dc_BL g) (dc_KD g) (dc_SM g) (dc_AG g) (dc_TK g) d re nx nu ed se := by
  intro n
  induction n with
  | zero => intro p nx h1 h2; omega
  | succ n ih =>
    intro j re hj hn hz
    refine pk_le 9 j (fun h3 => ?_) (fun h3 => ?_)
    · have e : j = 9 := by omega
      subst e
      refine ⟨vp_in_nI hi (by omega), nm_r (e' := upd re i 1) (by rw [nI_clamp (by omega), dc_nb1]) ⟨k - s + 1, dc_y_r35 hW hr h0 h1 hk hn2 h _ s _ nx (Nat.le_refl s) hs (by omega) (dc_is_c (dc_is_u (dc_is_0 (P := fun _ => False) hz (fun _ _ z => z))) ?_)⟩⟩
      intro q _
      rw [false_or]
      exact dc_be_pl hb
    · exact ⟨vp_in_nI h3 (by omega), nm_r (e' := upd re j 0) (by rw [nI_clamp (by omega), dc_nb0]) (nm_r (nI_1 j) (ih (j + 1) _ (by omega) (by omega) (dc_z_s hz)))⟩
theorem dc_y_sr (hW : dc_W g) {post : SY → Prop} {r x0 x1 i k s : Nat} (hr : r < 12) (h0 : x0 < 4) (h1 : x1 < 4) (hi : i < 9) (hk : k ≤ 6) (hs : s ≤ k) (hb : dc_be g r s) (hn2 : ∀ q, s ≤ q → q < k → dc_kd g (r * 6 + q) ≠ 2) (h : ∀ re' nx', dc_is re' 9 (dc_pl g (dc_SY d) r x0 x1 i k) → post (dc_y g rc tc op cm d re' nx' nu ed se)) : wpY_spanReach post (dc_y g rc tc op cm d re nx nu ed se) (nI (r * 6 + s)) (nI (r * 6 + k)) (nI x0) (nI x1) (nI i) :=
  ⟨10, dc_y_r3 hW hr h0 h1 hi hk hs hb hn2 h 10 0 re (by omega) (by omega) (fun q hq => by omega)⟩
end
end
section
section
variable {g : dc_G} {rc tc op cm : Int32} {d re nx nu ed se : Nat → Int32}
theorem dc_y_a47 (hW : dc_W g) {post : Int32 → SY → Prop} {d0 : Nat → Int32} {r x0 x1 i k : Nat} (hr : r < dc_R g) (h0 : x0 < 4) (h1 : x1 < 4) (hi : i ≤ dc_T g) (hen : dc_en g r k) (hd0 : dc_su (dc_SY d0) (dc_D g)) (hre : dc_is re 9 (dc_pl g (dc_SY d0) r x0 x1 i k)) (h : ∀ b d', dc_pg g d0 d' b → (∀ j, dc_pl g (dc_SY d0) r x0 x1 i k j → dc_SY d' (dc_hn g r) (dc_vl (dc_ha g r) x0 x1) i j) → post b (dc_y g rc tc op cm d' re nx nu ed se)) : ∀ n j b d, j ≤ dc_T g + 1 → dc_T g + 1 - j < n → dc_pg g d0 d b → (∀ j', j' < j → dc_pl g (dc_SY d0) r x0 x1 i k j' → dc_SY d (dc_hn g r) (dc_vl (dc_ha g r) x0 x1) i j') → wY_applyFrom_47 post (nI r) (nI i) (nI (dc_vl (dc_ha g r) x0 x1)) rc tc (nI (dc_R g)) (nI (dc_T g)) op cm n b (nI j) (dc_HN g) (dc_HA g) (dc_BL g) (dc_KD g) (dc_SM g) (dc_AG g) (dc_TK g) d re nx nu ed se := by
  have hT := dc_W_T hW
  have hR := dc_W_R hW
  have h6 := dc_W_hn hW r
  have hv4 := dc_vl4 (c := dc_ha g r) h0 h1
  intro n
  induction n with
  | zero => intro j b d h1 h2; omega
  | succ n ih =>
    intro j b d hj hn hp hv
    refine pk_lt (dc_T g) j (fun h2 => ?_) (fun h2 => ?_)
    · have e : j = dc_T g + 1 := by omega
      subst e
      refine ⟨dc_nar01 (dc_pg_01 hp), h b d hp (fun j' hj' => ?_)⟩
      have := dc_pl_in hi hj'
      exact hv j' (by omega) hj'
    · refine ⟨vp_in_nI (by omega) (by omega), ?_⟩
      rw [dc_at (dc_HN g) (show r < 2 ^ 31 by omega)]
      refine dc_y_ix ⟨vp_in_nI (by omega) (by omega), ?_⟩
      rw [nI_clamp (show j < 2 ^ 31 by omega)]
      have hj9 : j < 9 := by omega
      refine dc_if (dc_bo_0 (hre j hj9)) (fun h3 => ?_) (fun h3 => ?_)
      · refine nm_r (nI_1 j) (ih (j + 1) b d (by omega) (by omega) hp ?_)
        intro j' hj' hl
        by_cases e : j' = j
        · rw [e] at hl; exact absurd hl h3
        · exact hv j' (by omega) hl
      · have hpl := Classical.not_not.mp h3
        have hD : dc_D g (dc_hn g r) (dc_vl (dc_ha g r) x0 x1) i j := dc_D_cl g r _ i j hr hi ⟨x0, x1, h0, h1, rfl, k, hen, dc_pl_mono hd0 hpl⟩
        have hc : ((dc_hn g r * 4 + dc_vl (dc_ha g r) x0 x1) * 9 + i) * 9 + j < 1944 := by omega
        refine ⟨vp_in_nI hc (by omega), ?_⟩
        rw [nI_clamp (show ((dc_hn g r * 4 + dc_vl (dc_ha g r) x0 x1) * 9 + i) * 9 + j < 2 ^ 31 by omega)]
        refine br_c (fun h4 => ?_) (fun h4 => ?_)
        · have hp1 := dc_pg_1 hp.2.1 h6 hv4 (show i < 9 by omega) hj9 h4 hD
          have hp2 := dc_pg_t hp hp1 (by decide)
          refine ⟨vp_in_nI hc (by omega), nm_r (e' := upd d (((dc_hn g r * 4 + dc_vl (dc_ha g r) x0 x1) * 9 + i) * 9 + j) 1) (by rw [dc_nb1]) (nm_r (nI_1 j) (ih (j + 1) 1 _ (by omega) (by omega) hp2 ?_))⟩
          intro j' hj' hl
          by_cases e : j' = j
          · subst e
            refine ⟨⟨h6, hv4, by omega, hj9⟩, ?_⟩
            rw [pk_us]; decide
          · exact dc_pg_su hp1 _ _ _ _ (hv j' (by omega) hl)
        · refine nm_r (nI_1 j) (ih (j + 1) b d (by omega) (by omega) hp ?_)
          intro j' hj' hl
          by_cases e : j' = j
          · subst e
            exact ⟨⟨h6, hv4, by omega, hj9⟩, h4⟩
          · exact hv j' (by omega) hl
theorem dc_y_af (hW : dc_W g) {post : Int32 → SY → Prop} {r i k s a : Nat} (hr : r < dc_R g) (hi : i ≤ dc_T g) (hk : k ≤ 6) (hs : s ≤ k) (hb : dc_be g r s) (hn2 : ∀ q, s ≤ q → q < k → dc_kd g (r * 6 + q) ≠ 2) (hen : dc_en g r k) (hd : dc_su (dc_SY d) (dc_D g)) (ha : a < 16) (h : ∀ b d' re' nx', dc_pg g d d' b → (∀ j, dc_pl g (dc_SY d) r (a % 4) (a / 4) i k j → dc_SY d' (dc_hn g r) (dc_vl (dc_ha g r) (a % 4) (a / 4)) i j) → post b (dc_y g rc tc op cm d' re' nx' nu ed se)) : wpY_applyFrom post (dc_y g rc tc op cm d re nx nu ed se) (nI r) (nI (r * 6 + s)) (nI (r * 6 + k)) (nI a) (nI i) := by
  have hT := dc_W_T hW
  have hR := dc_W_R hW
  refine nm_r (dc_asg a ha).1 (nm_r (dc_asg a ha).2 ⟨vp_in_nI (by omega) (by omega), ?_⟩)
  rw [dc_at (dc_HA g) (show r < 2 ^ 31 by omega)]
  have h0 : a % 4 < 4 := by omega
  have h1 : a / 4 < 4 := by omega
  refine dc_y_vl (dc_W_ha hW r) (dc_y_sr hW (by omega) h0 h1 (by omega) hk hs hb hn2 (fun re' nx' hre' => ⟨dc_T g + 2, dc_y_a47 hW hr h0 h1 hi hen hd hre' (fun b d' => h b d' re' nx') _ i 0 d (by omega) (by omega) (dc_pg_r hd) ?_⟩))
  intro j' hj' hl
  have := dc_pl_in hi hl
  omega
/-- what stands ahead of (a, i) in applyAlt is done -/
def dc_vt (g : dc_G) (d0 d : Nat → Int32) (r k a i : Nat) : Prop := ∀ a' i' j, a' < 16 → i' ≤ dc_T g → (a' < a ∨ (a' = a ∧ i' < i)) → dc_pl g (dc_SY d0) r (a' % 4) (a' / 4) i' k j → dc_SY d (dc_hn g r) (dc_vl (dc_ha g r) (a' % 4) (a' / 4)) i' j
theorem dc_y_aa16 (hW : dc_W g) {post : Int32 → SY → Prop} {J : Int32 → Int32 → Int32 → Int32 → Int32 → Int32 → Int32 → Int32 → (Nat → Int32) → (Nat → Int32) → (Nat → Int32) → (Nat → Int32) → (Nat → Int32) → (Nat → Int32) → (Nat → Int32) → (Nat → Int32) → (Nat → Int32) → (Nat → Int32) → (Nat → Int32) → (Nat → Int32) → (Nat → Int32) → Prop} {d0 : Nat → Int32} {r k s a : Nat} (hr : r < dc_R g) (hk : k ≤ 6) (hs : s ≤ k) (hb : dc_be g r s) (hn2 : ∀ q, s ≤ q → q < k → dc_kd g (r * 6 + q) ≠ 2) (hen : dc_en g r k) (ha : a < 16) (hJ : ∀ b d re nx, dc_pg g d0 d b → dc_vt g d0 d r k a (dc_T g + 1) → J b (nI (a + 1)) rc tc (nI (dc_R g)) (nI (dc_T g)) op cm (dc_HN g) (dc_HA g) (dc_BL g) (dc_KD g) (dc_SM g) (dc_AG g) (dc_TK g) d re nx nu ed se) : ∀ n i b d re nx, i ≤ dc_T g + 1 → dc_T g + 1 - i < n → dc_pg g d0 d b → dc_vt g d0 d r k a i → wY_applyAlt_16 post J (nI r) (nI (r * 6 + s)) (nI (r * 6 + k)) (nI a) n b (nI i) rc tc (nI (dc_R g)) (nI (dc_T g)) op cm (dc_HN g) (dc_HA g) (dc_BL g) (dc_KD g) (dc_SM g) (dc_AG g) (dc_TK g) d re nx nu ed se := by
  have hT := dc_W_T hW
  intro n
  induction n with
  | zero => intro i b d re nx h1 h2; omega
  | succ n ih =>
    intro i b d re nx hi hn hp hv
    refine pk_lt (dc_T g) i (fun h2 => ?_) (fun h2 => ?_)
    · have e : i = dc_T g + 1 := by omega
      subst e
      exact nm_r (nI_1 a) (hJ b d re nx hp hv)
    · refine dc_y_af hW hr h2 hk hs hb hn2 hen hp.2.1 ha (fun b' d' re' nx' hp' hl => ?_)
      have hv' : dc_vt g d0 d' r k a (i + 1) := by
        intro a' i' j ha' hi' hc hz
        by_cases e : a' = a ∧ i' = i
        · obtain ⟨rfl, rfl⟩ := e
          exact hl j (dc_pl_mono (dc_pg_su hp) hz)
        · exact dc_pg_su hp' _ _ _ _ (hv a' i' j ha' hi' (by omega) hz)
      refine br_c (fun e => ?_) (fun e => ?_)
      · exact nm_r (nI_1 i) (ih (i + 1) b d' re' nx' (by omega) (by omega) (dc_pg_f hp hp' e) hv')
      · exact nm_r (nI_1 i) (ih (i + 1) 1 d' re' nx' (by omega) (by omega) (dc_pg_t hp hp' e) hv')
theorem dc_y_aa6 (hW : dc_W g) {post : Int32 → SY → Prop} {d0 : Nat → Int32} {r k s : Nat} (hr : r < dc_R g) (hk : k ≤ 6) (hs : s ≤ k) (hb : dc_be g r s) (hn2 : ∀ q, s ≤ q → q < k → dc_kd g (r * 6 + q) ≠ 2) (hen : dc_en g r k) (h : ∀ b d re nx, dc_pg g d0 d b → dc_vt g d0 d r k 16 0 → post b (dc_y g rc tc op cm d re nx nu ed se)) : ∀ n a b d re nx, a ≤ 16 → 16 - a < n → dc_pg g d0 d b → dc_vt g d0 d r k a 0 → wY_applyAlt_6 post (nI r) (nI (r * 6 + s)) (nI (r * 6 + k)) n b (nI a) rc tc (nI (dc_R g)) (nI (dc_T g)) op cm (dc_HN g) (dc_HA g) (dc_BL g) (dc_KD g) (dc_SM g) (dc_AG g) (dc_TK g) d re nx nu ed se := by
  intro n
  induction n with
  | zero => intro i b d re nx h1 h2; omega
  | succ n ih =>
    intro a b d re nx ha hn hp hv
    refine pk_le 16 a (fun h2 => ?_) (fun h2 => ?_)
    · have e : a = 16 := by omega
      subst e
      exact ⟨dc_nar01 (dc_pg_01 hp), h b d re nx hp hv⟩
    · refine ⟨dc_T g + 2, dc_y_aa16 hW hr hk hs hb hn2 hen h2 (fun b' d' re' nx' hp' hv' => ih (a + 1) b' d' re' nx' (by omega) (by omega) hp' ?_) _ 0 b d re nx (by omega) (by omega) hp hv⟩
      intro a' i' j ha' hi' hc hz
      exact hv' a' i' j ha' hi' (by omega) hz
theorem dc_y_aa (hW : dc_W g) {post : Int32 → SY → Prop} {r k s : Nat} (hr : r < dc_R g) (hk : k ≤ 6) (hs : s ≤ k) (hb : dc_be g r s) (hn2 : ∀ q, s ≤ q → q < k → dc_kd g (r * 6 + q) ≠ 2) (hen : dc_en g r k) (hd : dc_su (dc_SY d) (dc_D g)) (h : ∀ b d' re' nx', dc_pg g d d' b → (∀ x0 x1 i j, x0 < 4 → x1 < 4 → i ≤ dc_T g → dc_pl g (dc_SY d) r x0 x1 i k j → dc_SY d' (dc_hn g r) (dc_vl (dc_ha g r) x0 x1) i j) → post b (dc_y g rc tc op cm d' re' nx' nu ed se)) : wpY_applyAlt post (dc_y g rc tc op cm d re nx nu ed se) (nI r) (nI (r * 6 + s)) (nI (r * 6 + k)) := by
  refine ⟨17, dc_y_aa6 hW hr hk hs hb hn2 hen (fun b d' re' nx' hp hv => h b d' re' nx' hp ?_) 17 0 0 d re nx (by omega) (by omega) (dc_pg_r hd) (fun a' i' j _ _ hc => by omega)⟩
  intro x0 x1 i j h0 h1 hi hz
  have e1 : (x1 * 4 + x0) % 4 = x0 := by omega
  have e2 : (x1 * 4 + x0) / 4 = x1 := by omega
  have := hv (x1 * 4 + x0) i j (by omega) hi (by omega)
  rw [e1, e2] at this
  exact this hz
/-- the alternatives of r that end before k are done -/
def dc_vr (g : dc_G) (d0 d : Nat → Int32) (r k : Nat) : Prop := ∀ k' x0 x1 i j, k' < k → dc_en g r k' → x0 < 4 → x1 < 4 → i ≤ dc_T g → dc_pl g (dc_SY d0) r x0 x1 i k' j → dc_SY d (dc_hn g r) (dc_vl (dc_ha g r) x0 x1) i j
theorem dc_y_ar45 (hW : dc_W g) {post : Int32 → SY → Prop} {J : Int32 → Int32 → Int32 → Int32 → Int32 → Int32 → Int32 → Int32 → Int32 → (Nat → Int32) → (Nat → Int32) → (Nat → Int32) → (Nat → Int32) → (Nat → Int32) → (Nat → Int32) → (Nat → Int32) → (Nat → Int32) → (Nat → Int32) → (Nat → Int32) → (Nat → Int32) → (Nat → Int32) → (Nat → Int32) → Prop} {d0 : Nat → Int32} {b x4 : Int32} {r k s : Nat} (hr : r < dc_R g) (hs : s ≤ k) (hb : dc_be g r s) (hn2 : ∀ q, s ≤ q → q < k → dc_kd g (r * 6 + q) ≠ 2) (hen : dc_en g r k) (hp : dc_pg g d0 d b) (hv : dc_vr g d0 d r k) (hJ : ∀ b d re nx, dc_pg g d0 d b → dc_vr g d0 d r (k + 1) → J b (nI (k + 1)) (nI (k + 1)) rc tc (nI (dc_R g)) (nI (dc_T g)) op cm (dc_HN g) (dc_HA g) (dc_BL g) (dc_KD g) (dc_SM g) (dc_AG g) (dc_TK g) d re nx nu ed se) : wY_applyRule_45 post J (nI r) b (nI s) x4 (nI k) rc tc (nI (dc_R g)) (nI (dc_T g)) op cm (dc_HN g) (dc_HA g) (dc_BL g) (dc_KD g) (dc_SM g) (dc_AG g) (dc_TK g) d re nx nu ed se := by
  have hB := dc_W_bl hW r
  have hk : k ≤ 6 := Nat.le_trans hen.1 hB
  unfold wY_applyRule_45
  rw [dc_i6, dc_i6]
  refine dc_y_aa hW hr hk hs hb hn2 hen hp.2.1 (fun b' d' re' nx' hp' hl => ?_)
  have hv' : dc_vr g d0 d' r (k + 1) := by
    intro k' x0 x1 i j hk' he h0 h1 hi hz
    by_cases e : k' = k
    · subst e
      exact hl x0 x1 i j h0 h1 hi (dc_pl_mono (dc_pg_su hp) hz)
    · exact dc_pg_su hp' _ _ _ _ (hv k' x0 x1 i j (by omega) he h0 h1 hi hz)
  refine br_c (fun e => ?_) (fun e => ?_)
  · exact nm_r (nI_1 k) (nm_r (nI_1 k) (hJ b d' re' nx' (dc_pg_f hp hp' e) hv'))
  · exact nm_r (nI_1 k) (nm_r (nI_1 k) (hJ 1 d' re' nx' (dc_pg_t hp hp' e) hv'))
theorem dc_y_ar15 (hW : dc_W g) {post : Int32 → SY → Prop} {d0 : Nat → Int32} {r : Nat} (hr : r < dc_R g) (h : ∀ b d re nx, dc_pg g d0 d b → dc_vr g d0 d r (dc_bl g r + 1) → post b (dc_y g rc tc op cm d re nx nu ed se)) : ∀ n k s b d re nx, k ≤ dc_bl g r + 1 → dc_bl g r + 1 - k < n → (k ≤ dc_bl g r → s ≤ k ∧ dc_be g r s ∧ ∀ q, s ≤ q → q < k → dc_kd g (r * 6 + q) ≠ 2) → dc_pg g d0 d b → dc_vr g d0 d r k → wY_applyRule_15 post (nI r) (nI (dc_bl g r)) n b (nI s) (nI k) rc tc (nI (dc_R g)) (nI (dc_T g)) op cm (dc_HN g) (dc_HA g) (dc_BL g) (dc_KD g) (dc_SM g) (dc_AG g) (dc_TK g) d re nx nu ed se := by
  have hB := dc_W_bl hW r
  have hR := dc_W_R hW
  intro n
  induction n with
  | zero => intro k s b d re nx h1 h2; omega
  | succ n ih =>
    intro k s b d re nx hk hn hs hp hv
    refine pk_lt (dc_bl g r) k (fun h2 => ?_) (fun h2 => ?_)
    · have e : k = dc_bl g r + 1 := by omega
      subst e
      exact ⟨dc_nar01 (dc_pg_01 hp), h b d re nx hp hv⟩
    · obtain ⟨hs1, hs2, hs3⟩ := hs h2
      have go : dc_en g r k → (k < dc_bl g r → dc_kd g (r * 6 + k) = 2) → wY_applyRule_45 post (wY_applyRule_15 post (nI r) (nI (dc_bl g r)) n) (nI r) b (nI s) (nI (dc_bl g r)) (nI k) rc tc (nI (dc_R g)) (nI (dc_T g)) op cm (dc_HN g) (dc_HA g) (dc_BL g) (dc_KD g) (dc_SM g) (dc_AG g) (dc_TK g) d re nx nu ed se := by
        intro he hk2
        refine dc_y_ar45 hW hr hs1 hs2 hs3 he hp hv (fun b' d' re' nx' hp' hv' => ih (k + 1) (k + 1) b' d' re' nx' (by omega) (by omega) ?_ hp' hv')
        intro hk1
        exact ⟨Nat.le_refl _, Or.inr ⟨k, rfl, hk2 (by omega)⟩, fun q h3 h4 => by omega⟩
      refine pk_eq k (dc_bl g r) (fun h3 => ?_) (fun h3 => ?_)
      · exact go ⟨h2, Or.inl h3⟩ (fun z => by omega)
      · have hq : r * 6 + k < 72 := by omega
        have hkd := dc_W_kd hW (r * 6 + k)
        rw [dc_i6]
        refine ⟨vp_in_nI hq (by omega), pk_eq (dc_kd g (r * 6 + k)) 2 (fun h4 => ?_) (fun h4 => ?_) (dc_at (dc_KD g) (by omega))⟩
        · exact go ⟨h2, Or.inr h4⟩ (fun _ => h4)
        · refine nm_r (nI_1 k) (ih (k + 1) s b d re nx (by omega) (by omega) ?_ hp ?_)
          · intro _
            refine ⟨by omega, hs2, fun q h5 h6 => ?_⟩
            by_cases e : q = k
            · rw [e]; exact h4
            · exact hs3 q h5 (by omega)
          · intro k' x0 x1 i j hk' he
            by_cases e : k' = k
            · subst e
              exact absurd he.2 (fun z => z.elim h3 h4)
            · exact hv k' x0 x1 i j (by omega) he
theorem dc_y_ar (hW : dc_W g) {post : Int32 → SY → Prop} {r : Nat} (hr : r < dc_R g) (hd : dc_su (dc_SY d) (dc_D g)) (h : ∀ b d' re' nx', dc_pg g d d' b → (∀ v i j, i ≤ dc_T g → dc_rd g (dc_SY d) r v i j → dc_SY d' (dc_hn g r) v i j) → post b (dc_y g rc tc op cm d' re' nx' nu ed se)) : wpY_applyRule post (dc_y g rc tc op cm d re nx nu ed se) (nI r) := by
  have hR := dc_W_R hW
  refine ⟨vp_in_nI (by omega) (by omega), nm_r (dc_at (dc_BL g) (by omega)) ⟨dc_bl g r + 2, dc_y_ar15 hW hr (fun b d' re' nx' hp hv => h b d' re' nx' hp ?_) _ 0 0 0 d re nx (by omega) (by omega) (fun _ => ⟨Nat.le_refl 0, Or.inl rfl, fun q h3 h4 => by omega⟩) (dc_pg_r hd) (fun k' x0 x1 i j hk' => by omega)⟩⟩
  intro v i j hi ⟨x0, x1, h0, h1, h2, k, h3, h4⟩
  subst h2
  exact hv k x0 x1 i j (Nat.lt_succ_of_le h3.1) h3 h0 h1 hi h4
theorem dc_y_cp4 (hW : dc_W g) {post : Int32 → SY → Prop} {d0 : Nat → Int32} (h : ∀ b d re nx, dc_pg g d0 d b → dc_ph g (dc_SY d0) (dc_SY d) → post b (dc_y g rc tc op cm d re nx nu ed se)) : ∀ n r b d re nx, r ≤ dc_R g → dc_R g - r < n → dc_pg g d0 d b → (∀ r' v i j, r' < r → i ≤ dc_T g → dc_rd g (dc_SY d0) r' v i j → dc_SY d (dc_hn g r') v i j) → wY_chartPass_4 post n b (nI r) rc tc (nI (dc_R g)) (nI (dc_T g)) op cm (dc_HN g) (dc_HA g) (dc_BL g) (dc_KD g) (dc_SM g) (dc_AG g) (dc_TK g) d re nx nu ed se := by
  have hR := dc_W_R hW
  intro n
  induction n with
  | zero => intro r b d re nx h1 h2; omega
  | succ n ih =>
    intro r b d re nx hr hn hp hv
    refine pk_le (dc_R g) r (fun h2 => ?_) (fun h2 => ?_)
    · have e : r = dc_R g := by omega
      subst e
      exact ⟨dc_nar01 (dc_pg_01 hp), h b d re nx hp hv⟩
    · refine dc_y_ar hW h2 hp.2.1 (fun b' d' re' nx' hp' hl => ?_)
      have hv' : ∀ r' v i j, r' < r + 1 → i ≤ dc_T g → dc_rd g (dc_SY d0) r' v i j → dc_SY d' (dc_hn g r') v i j := by
        intro r' v i j hr' hi hz
        by_cases e : r' = r
        · subst e
          exact hl v i j hi (dc_rd_mono (dc_pg_su hp) hz)
        · exact dc_pg_su hp' _ _ _ _ (hv r' v i j (by omega) hi hz)
      refine br_c (fun e => ?_) (fun e => ?_)
      · exact nm_r (nI_1 r) (ih (r + 1) b d' re' nx' (by omega) (by omega) (dc_pg_f hp hp' e) hv')
      · exact nm_r (nI_1 r) (ih (r + 1) 1 d' re' nx' (by omega) (by omega) (dc_pg_t hp hp' e) hv')
theorem dc_y_cp (hW : dc_W g) {post : Int32 → SY → Prop} (hd : dc_su (dc_SY d) (dc_D g)) (h : ∀ b d' re' nx', dc_pg g d d' b → dc_ph g (dc_SY d) (dc_SY d') → post b (dc_y g rc tc op cm d' re' nx' nu ed se)) : wpY_chartPass post (dc_y g rc tc op cm d re nx nu ed se) :=
  ⟨dc_R g + 1, dc_y_cp4 hW h _ 0 0 d re nx (by omega) (by omega) (dc_pg_r hd) (fun r' v i j hr' => by omega)⟩
theorem dc_y_bc24 (hW : dc_W g) {post : SY → Prop} (h : ∀ d' re' nx', dc_FY g d' → post (dc_y g rc tc op cm d' re' nx' nu ed se)) : ∀ n t d re nx, t ≤ 1945 → 1945 - t < n → dc_su (dc_SY d) (dc_D g) → t ≤ dc_ct (dc_CY d) 1944 → wY_buildChart_24 post n (nI t) rc tc (nI (dc_R g)) (nI (dc_T g)) op cm (dc_HN g) (dc_HA g) (dc_BL g) (dc_KD g) (dc_SM g) (dc_AG g) (dc_TK g) d re nx nu ed se := by
  intro n
  induction n with
  | zero => intro t d re nx h1 h2; omega
  | succ n ih =>
    intro t d re nx ht hn hd hc
    have hle := dc_ct_le (dc_CY d) 1944
    refine pk_lt 1944 t (fun h2 => absurd h2 (by omega)) (fun h2 => ?_)
    refine dc_y_cp hW hd (fun b' d' re' nx' hp hf => ?_)
    rcases hp.2.2 with ⟨e1, e2⟩ | ⟨e1, e2⟩
    · subst e2
      exact br_t e1 (h d' re' nx' (dc_FY_of (dc_ph_cl hf (dc_su_r _)) hd))
    · subst e1
      exact br_f (by decide) (nm_r (nI_1 t) (ih (t + 1) d' re' nx' (by omega) (by omega) hp.2.1 (by omega)))
theorem dc_y_bc2 (hW : dc_W g) {post : SY → Prop} (h : ∀ d' re' nx', dc_FY g d' → post (dc_y g rc tc op cm d' re' nx' nu ed se)) : ∀ n c d, c ≤ 1944 → 1944 - c < n → (∀ q, q < c → d q = 0) → wY_buildChart_2 post rc tc (nI (dc_R g)) (nI (dc_T g)) op cm n (nI c) (dc_HN g) (dc_HA g) (dc_BL g) (dc_KD g) (dc_SM g) (dc_AG g) (dc_TK g) d re nx nu ed se := by
  intro n
  induction n with
  | zero => intro c d h1 h2; omega
  | succ n ih =>
    intro c d hc hn hz
    refine pk_le 1944 c (fun h1 => ?_) (fun h1 => ?_)
    · refine ⟨1946, dc_y_bc24 hW h 1946 0 d re nx (by omega) (by omega) ?_ (by omega)⟩
      intro m v i j ⟨⟨h2, h3, h4, h5⟩, h6⟩
      exact absurd (hz _ (by omega)) h6
    · exact ⟨vp_in_nI h1 (by omega), nm_r (e' := upd d c 0) (by rw [nI_clamp (by omega), dc_nb0]) (nm_r (nI_1 c) (ih (c + 1) _ (by omega) (by omega) (dc_z_s hz)))⟩
theorem dc_y_bc (hW : dc_W g) {post : SY → Prop} (h : ∀ d' re' nx', dc_FY g d' → post (dc_y g rc tc op cm d' re' nx' nu ed se)) : wpY_buildChart post (dc_y g rc tc op cm d re nx nu ed se) :=
  ⟨1945, dc_y_bc2 hW h 1945 0 d (by omega) (by omega) (fun q hq => by omega)⟩
end
end
section
section
variable {g : dc_G} {rc tc op cm : Int32} {d re nx nu ed se : Nat → Int32}
/-- the alternative of r that ends at k gives v from i to j -/
def dc_ad (g : dc_G) (S : dc_Q) (r v i j k : Nat) : Prop := ∃ x0 x1, x0 < 4 ∧ x1 < 4 ∧ dc_vl (dc_ha g r) x0 x1 = v ∧ dc_pl g S r x0 x1 i k j
theorem dc_ad_rd (g : dc_G) (S : dc_Q) (r v i j : Nat) : dc_rd g S r v i j ↔ ∃ k, dc_en g r k ∧ dc_ad g S r v i j k := by
  constructor
  · intro ⟨x0, x1, h0, h1, h2, k, h3, h4⟩
    exact ⟨k, h3, x0, x1, h0, h1, h2, h4⟩
  · intro ⟨k, h3, x0, x1, h0, h1, h2, h4⟩
    exact ⟨x0, x1, h0, h1, h2, k, h3, h4⟩
theorem dc_y_ad3 (hW : dc_W g) {post : Int32 → SY → Prop} {r v i j k s : Nat} (hr : r < 12) (hv : v < 4) (hi : i < 9) (hj : j < 9) (hk : k ≤ 6) (hs : s ≤ k) (hb : dc_be g r s) (hn2 : ∀ q, s ≤ q → q < k → dc_kd g (r * 6 + q) ≠ 2) (h : ∀ b re nx, dc_bo (dc_ad g (dc_SY d) r v i j k) b → post b (dc_y g rc tc op cm d re nx nu ed se)) : ∀ n a re nx, a ≤ 16 → 16 - a < n → (∀ a', a' < a → ¬ (dc_vl (dc_ha g r) (a' % 4) (a' / 4) = v ∧ dc_pl g (dc_SY d) r (a' % 4) (a' / 4) i k j)) → wY_altDerives_3 post (nI (r * 6 + s)) (nI (r * 6 + k)) (nI (dc_ha g r)) (nI v) (nI i) (nI j) n (nI a) rc tc (nI (dc_R g)) (nI (dc_T g)) op cm (dc_HN g) (dc_HA g) (dc_BL g) (dc_KD g) (dc_SM g) (dc_AG g) (dc_TK g) d re nx nu ed se := by
  intro n
  induction n with
  | zero => intro a re nx h1 h2; omega
  | succ n ih =>
    intro a re nx ha hn hno
    refine pk_le 16 a (fun h2 => ?_) (fun h2 => ?_)
    · refine h 0 re nx (dc_bo_f ?_)
      intro ⟨x0, x1, h0, h1, h3, h4⟩
      have e1 : (x1 * 4 + x0) % 4 = x0 := by omega
      have e2 : (x1 * 4 + x0) / 4 = x1 := by omega
      refine hno (x1 * 4 + x0) (by omega) ?_
      rw [e1, e2]
      exact ⟨h3, h4⟩
    · have h0 : a % 4 < 4 := by omega
      have h1 : a / 4 < 4 := by omega
      have hv4 := dc_vl4 (c := dc_ha g r) h0 h1
      have hno' : ¬ (dc_vl (dc_ha g r) (a % 4) (a / 4) = v ∧ dc_pl g (dc_SY d) r (a % 4) (a / 4) i k j) → ∀ a', a' < a + 1 → ¬ (dc_vl (dc_ha g r) (a' % 4) (a' / 4) = v ∧ dc_pl g (dc_SY d) r (a' % 4) (a' / 4) i k j) := by
        intro hz a' ha'
        by_cases e : a' = a
        · rw [e]; exact hz
        · exact hno a' (by omega)
      refine nm_r (dc_asg a h2).1 (nm_r (dc_asg a h2).2 (dc_y_vl (dc_W_ha hW r) (pk_eq (dc_vl (dc_ha g r) (a % 4) (a / 4)) v (fun h3 => ?_) (fun h3 => ?_))))
      · refine dc_y_sr hW hr h0 h1 hi hk hs hb hn2 (fun re' nx' hre' => ⟨vp_in_nI hj (by omega), ?_⟩)
        rw [nI_clamp (show j < 2 ^ 31 by omega)]
        refine dc_if (dc_bo_0 (hre' j hj)) (fun h4 => ?_) (fun h4 => ?_)
        · exact nm_r (nI_1 a) (ih (a + 1) re' nx' (by omega) (by omega) (hno' (fun z => h4 z.2)))
        · exact h 1 re' nx' (dc_bo_t ⟨a % 4, a / 4, h0, h1, h3, Classical.not_not.mp h4⟩)
      · exact nm_r (nI_1 a) (ih (a + 1) re nx (by omega) (by omega) (hno' (fun z => h3 z.1)))
theorem dc_y_ad (hW : dc_W g) {post : Int32 → SY → Prop} {r v i j k s : Nat} (hr : r < 12) (hv : v < 4) (hi : i < 9) (hj : j < 9) (hk : k ≤ 6) (hs : s ≤ k) (hb : dc_be g r s) (hn2 : ∀ q, s ≤ q → q < k → dc_kd g (r * 6 + q) ≠ 2) (h : ∀ b re nx, dc_bo (dc_ad g (dc_SY d) r v i j k) b → post b (dc_y g rc tc op cm d re nx nu ed se)) : wpY_altDerives post (dc_y g rc tc op cm d re nx nu ed se) (nI (r * 6 + s)) (nI (r * 6 + k)) (nI (dc_ha g r)) (nI v) (nI i) (nI j) :=
  ⟨17, dc_y_ad3 hW hr hv hi hj hk hs hb hn2 h 17 0 re nx (by omega) (by omega) (fun a' ha' => by omega)⟩
theorem dc_y_rd44 (hW : dc_W g) {post : Int32 → SY → Prop} {J : Int32 → Int32 → Int32 → Int32 → Int32 → Int32 → Int32 → Int32 → (Nat → Int32) → (Nat → Int32) → (Nat → Int32) → (Nat → Int32) → (Nat → Int32) → (Nat → Int32) → (Nat → Int32) → (Nat → Int32) → (Nat → Int32) → (Nat → Int32) → (Nat → Int32) → (Nat → Int32) → (Nat → Int32) → Prop} {x6 : Int32} {r v i j k s : Nat} (hr : r < 12) (hv : v < 4) (hi : i < 9) (hj : j < 9) (hs : s ≤ k) (hb : dc_be g r s) (hn2 : ∀ q, s ≤ q → q < k → dc_kd g (r * 6 + q) ≠ 2) (hen : dc_en g r k) (h1 : ∀ re nx, dc_ad g (dc_SY d) r v i j k → post 1 (dc_y g rc tc op cm d re nx nu ed se)) (hJ : ∀ re nx, ¬ dc_ad g (dc_SY d) r v i j k → J (nI (k + 1)) (nI (k + 1)) rc tc (nI (dc_R g)) (nI (dc_T g)) op cm (dc_HN g) (dc_HA g) (dc_BL g) (dc_KD g) (dc_SM g) (dc_AG g) (dc_TK g) d re nx nu ed se) : wY_ruleDerives_44 post J (nI r) (nI v) (nI i) (nI j) (nI s) x6 (nI k) rc tc (nI (dc_R g)) (nI (dc_T g)) op cm (dc_HN g) (dc_HA g) (dc_BL g) (dc_KD g) (dc_SM g) (dc_AG g) (dc_TK g) d re nx nu ed se := by
  have hB := dc_W_bl hW r
  have hk : k ≤ 6 := Nat.le_trans hen.1 hB
  refine ⟨vp_in_nI hr (by omega), ?_⟩
  rw [dc_i6, dc_i6, dc_at (dc_HA g) (show r < 2 ^ 31 by omega)]
  refine dc_y_ad hW hr hv hi hj hk hs hb hn2 (fun b re' nx' hbo => dc_if (dc_bo_0 hbo) (fun h2 => ?_) (fun h2 => ?_))
  · exact nm_r (nI_1 k) (nm_r (nI_1 k) (hJ re' nx' h2))
  · exact h1 re' nx' (Classical.not_not.mp h2)
theorem dc_y_rd14 (hW : dc_W g) {post : Int32 → SY → Prop} {r v i j : Nat} (hr : r < 12) (hv : v < 4) (hi : i < 9) (hj : j < 9) (h : ∀ b re nx, dc_bo (dc_rd g (dc_SY d) r v i j) b → post b (dc_y g rc tc op cm d re nx nu ed se)) : ∀ n k s re nx, k ≤ dc_bl g r + 1 → dc_bl g r + 1 - k < n → (k ≤ dc_bl g r → s ≤ k ∧ dc_be g r s ∧ ∀ q, s ≤ q → q < k → dc_kd g (r * 6 + q) ≠ 2) → (∀ k', k' < k → dc_en g r k' → ¬ dc_ad g (dc_SY d) r v i j k') → wY_ruleDerives_14 post (nI r) (nI v) (nI i) (nI j) (nI (dc_bl g r)) n (nI s) (nI k) rc tc (nI (dc_R g)) (nI (dc_T g)) op cm (dc_HN g) (dc_HA g) (dc_BL g) (dc_KD g) (dc_SM g) (dc_AG g) (dc_TK g) d re nx nu ed se := by
  have hB := dc_W_bl hW r
  intro n
  induction n with
  | zero => intro k s re nx h1 h2; omega
  | succ n ih =>
    intro k s re nx hk hn hs hno
    refine pk_lt (dc_bl g r) k (fun h2 => ?_) (fun h2 => ?_)
    · refine h 0 re nx (dc_bo_f ?_)
      rw [dc_ad_rd]
      intro ⟨k', he, hz⟩
      exact hno k' (Nat.lt_of_le_of_lt he.1 h2) he hz
    · obtain ⟨hs1, hs2, hs3⟩ := hs h2
      have go : dc_en g r k → (k < dc_bl g r → dc_kd g (r * 6 + k) = 2) → wY_ruleDerives_44 post (wY_ruleDerives_14 post (nI r) (nI v) (nI i) (nI j) (nI (dc_bl g r)) n) (nI r) (nI v) (nI i) (nI j) (nI s) (nI (dc_bl g r)) (nI k) rc tc (nI (dc_R g)) (nI (dc_T g)) op cm (dc_HN g) (dc_HA g) (dc_BL g) (dc_KD g) (dc_SM g) (dc_AG g) (dc_TK g) d re nx nu ed se := by
        intro he hk2
        refine dc_y_rd44 hW hr hv hi hj hs1 hs2 hs3 he (fun re' nx' hz => h 1 re' nx' (dc_bo_t ((dc_ad_rd _ _ _ _ _ _).mpr ⟨k, he, hz⟩))) (fun re' nx' hz => ih (k + 1) (k + 1) re' nx' (by omega) (by omega) ?_ ?_)
        · intro hk1
          exact ⟨Nat.le_refl _, Or.inr ⟨k, rfl, hk2 (by omega)⟩, fun q h3 h4 => by omega⟩
        · intro k' hk' he'
          by_cases e : k' = k
          · rw [e]; exact hz
          · exact hno k' (by omega) he'
      refine pk_eq k (dc_bl g r) (fun h3 => ?_) (fun h3 => ?_)
      · exact go ⟨h2, Or.inl h3⟩ (fun z => by omega)
      · have hq : r * 6 + k < 72 := by omega
        have hkd := dc_W_kd hW (r * 6 + k)
        rw [dc_i6]
        refine ⟨vp_in_nI hq (by omega), pk_eq (dc_kd g (r * 6 + k)) 2 (fun h4 => ?_) (fun h4 => ?_) (dc_at (dc_KD g) (by omega))⟩
        · exact go ⟨h2, Or.inr h4⟩ (fun _ => h4)
        · refine nm_r (nI_1 k) (ih (k + 1) s re nx (by omega) (by omega) ?_ ?_)
          · intro _
            refine ⟨by omega, hs2, fun q h5 h6 => ?_⟩
            by_cases e : q = k
            · rw [e]; exact h4
            · exact hs3 q h5 (by omega)
          · intro k' hk' he
            by_cases e : k' = k
            · subst e
              exact absurd he.2 (fun z => z.elim h3 h4)
            · exact hno k' (by omega) he
theorem dc_y_rd (hW : dc_W g) {post : Int32 → SY → Prop} {r v i j : Nat} (hr : r < 12) (hv : v < 4) (hi : i < 9) (hj : j < 9) (h : ∀ b re nx, dc_bo (dc_rd g (dc_SY d) r v i j) b → post b (dc_y g rc tc op cm d re nx nu ed se)) : wpY_ruleDerives post (dc_y g rc tc op cm d re nx nu ed se) (nI r) (nI v) (nI i) (nI j) :=
  ⟨vp_in_nI hr (by omega), nm_r (dc_at (dc_BL g) (by omega)) ⟨dc_bl g r + 2, dc_y_rd14 hW hr hv hi hj h _ 0 0 re nx (by omega) (by omega) (fun _ => ⟨Nat.le_refl 0, Or.inl rfl, fun q h3 h4 => by omega⟩) (fun k' hk' => by omega)⟩⟩
end
end
section
/-- the set that a boolean array of six holds -/
def dc_U (a : Nat → Int32) (m : Nat) : Prop := m < 6 ∧ a m ≠ 0
theorem dc_U_u {a : Nat → Int32} {k m : Nat} (hk : k < 6) : dc_U (upd a k 1) m ↔ (dc_U a m ∨ m = k) := by
  unfold dc_U
  by_cases e : m = k
  · rw [e, pk_us]
    exact ⟨fun _ => Or.inr rfl, fun _ => ⟨hk, by decide⟩⟩
  · rw [pk_un e]
    exact ⟨Or.inl, fun z => z.resolve_right e⟩
def dc_pn (g : dc_G) (a a' : Nat → Int32) (b : Int32) : Prop := (∀ m, dc_U a m → dc_U a' m) ∧ (∀ m, dc_U a' m → dc_N g m) ∧ ((b = 0 ∧ a' = a) ∨ (b = 1 ∧ dc_ct (dc_U a) 6 < dc_ct (dc_U a') 6))
theorem dc_pn_r {g : dc_G} {a : Nat → Int32} (h : ∀ m, dc_U a m → dc_N g m) : dc_pn g a a 0 := ⟨fun _ z => z, h, Or.inl ⟨rfl, rfl⟩⟩
theorem dc_pn_01 {g : dc_G} {a a' : Nat → Int32} {b : Int32} (h : dc_pn g a a' b) : b = 0 ∨ b = 1 := by
  rcases h.2.2 with ⟨h, _⟩ | ⟨h, _⟩
  · exact Or.inl h
  · exact Or.inr h
theorem dc_pn_le {g : dc_G} {a a' : Nat → Int32} {b : Int32} (h : dc_pn g a a' b) : dc_ct (dc_U a) 6 ≤ dc_ct (dc_U a') 6 := dc_ct_mono (fun k _ z => h.1 k z)
theorem dc_pn_t {g : dc_G} {a a' a'' : Nat → Int32} {b b' : Int32} (h : dc_pn g a a' b) (h' : dc_pn g a' a'' b') (hb : ¬ b' = 0) : dc_pn g a a'' 1 := by
  refine ⟨fun c z => h'.1 c (h.1 c z), h'.2.1, Or.inr ⟨rfl, ?_⟩⟩
  have h1 := dc_pn_le h
  rcases h'.2.2 with ⟨h2, _⟩ | ⟨_, h2⟩
  · exact absurd h2 hb
  · omega
theorem dc_pn_f {g : dc_G} {a a' a'' : Nat → Int32} {b b' : Int32} (h : dc_pn g a a' b) (h' : dc_pn g a' a'' b') (hb : b' = 0) : dc_pn g a a'' b := by
  rcases h'.2.2 with ⟨_, rfl⟩ | ⟨h2, _⟩
  · exact h
  · rw [hb] at h2; exact absurd h2 (by decide)
theorem dc_pn_1 {g : dc_G} {a : Nat → Int32} {k : Nat} (hs : ∀ m, dc_U a m → dc_N g m) (hk : k < 6) (h0 : a k = 0) (hN : dc_N g k) : dc_pn g a (upd a k 1) 1 := by
  refine ⟨fun m z => (dc_U_u hk).mpr (Or.inl z), fun m z => ?_, Or.inr ⟨rfl, ?_⟩⟩
  · rcases (dc_U_u hk).mp z with z | z
    · exact hs m z
    · rw [z]; exact hN
  · exact dc_ct_lt (fun m _ z => (dc_U_u hk).mpr (Or.inl z)) hk ((dc_U_u hk).mpr (Or.inr rfl)) (fun z => z.2 h0)
section
variable {g : dc_G} {rc tc op cm : Int32} {d re nx nu ed se : Nat → Int32}
/-- the alternatives of r that end before k are seen -/
def dc_vn (g : dc_G) (a0 a : Nat → Int32) (r k : Nat) : Prop := ∀ k', k' < k → dc_en g r k' → dc_ok g (dc_U a0) r k' → dc_U a (dc_hn g r)
theorem dc_y_nr45 (hW : dc_W g) {post : Int32 → SY → Prop} {J : Int32 → Int32 → Int32 → (Nat → Int32) → (Nat → Int32) → (Nat → Int32) → (Nat → Int32) → (Nat → Int32) → (Nat → Int32) → (Nat → Int32) → (Nat → Int32) → (Nat → Int32) → (Nat → Int32) → (Nat → Int32) → (Nat → Int32) → (Nat → Int32) → Prop} {a0 : Nat → Int32} {x b x4 : Int32} {r k : Nat} (hr : r < dc_R g) (hen : dc_en g r k) (hx : dc_bo (dc_ok g (dc_U nu) r k) x) (hp : dc_pn g a0 nu b) (hv : dc_vn g a0 nu r k) (hJ : ∀ b nu, dc_pn g a0 nu b → dc_vn g a0 nu r (k + 1) → J 1 b (nI (k + 1)) (dc_HN g) (dc_HA g) (dc_BL g) (dc_KD g) (dc_SM g) (dc_AG g) (dc_TK g) d re nx nu ed se) : wY_nullRule_45 post J (nI r) x b x4 (nI k) rc tc (nI (dc_R g)) (nI (dc_T g)) op cm (dc_HN g) (dc_HA g) (dc_BL g) (dc_KD g) (dc_SM g) (dc_AG g) (dc_TK g) d re nx nu ed se := by
  have hR := dc_W_R hW
  have h6 := dc_W_hn hW r
  have hs : ∀ (nu' : Nat → Int32), (∀ m, dc_U nu m → dc_U nu' m) → (dc_ok g (dc_U a0) r k → dc_U nu' (dc_hn g r)) → dc_vn g a0 nu' r (k + 1) := by
    intro nu' h1 h2 k' hk' he ho
    by_cases e : k' = k
    · rw [e] at ho; exact h2 ho
    · exact h1 _ (hv k' (by omega) he ho)
  refine dc_if (dc_bo_0 hx) (fun h1 => ?_) (fun h1 => ?_)
  · exact nm_r (nI_1 k) (hJ b nu hp (hs nu (fun _ z => z) (fun z => absurd (dc_ok_mono hp.1 z) h1)))
  · have hok := Classical.not_not.mp h1
    have hN : dc_N g (dc_hn g r) := dc_N_cl g r hr ⟨k, hen, dc_ok_mono hp.2.1 hok⟩
    have e1 : dc_HN g (nI r).toNatClampNeg = nI (dc_hn g r) := dc_at (dc_HN g) (by omega)
    have hi1 : vp_in (dc_HN g (nI r).toNatClampNeg) 6 := by rw [e1]; exact vp_in_nI h6 (by omega)
    have e2 : (dc_HN g (nI r).toNatClampNeg).toNatClampNeg = dc_hn g r := by rw [e1]; exact nI_clamp (by omega)
    refine ⟨vp_in_nI (by omega) (by omega), hi1, ?_⟩
    rw [e2]
    refine br_c (fun h2 => ?_) (fun h2 => ?_)
    · have hp1 := dc_pn_1 hp.2.1 h6 h2 hN
      refine ⟨vp_in_nI (by omega) (by omega), hi1, nm_r (e' := upd nu (dc_hn g r) 1) (by rw [dc_nb1]) (nm_r (nI_1 k) (hJ 1 _ (dc_pn_t hp hp1 (by decide)) (hs _ hp1.1 (fun _ => (dc_U_u h6).mpr (Or.inr rfl)))))⟩
    · exact nm_r (nI_1 k) (hJ b nu hp (hs nu (fun _ z => z) (fun _ => ⟨h6, h2⟩)))
theorem dc_y_nr15 (hW : dc_W g) {post : Int32 → SY → Prop} {a0 : Nat → Int32} {r : Nat} (hr : r < dc_R g) (h : ∀ b nu, dc_pn g a0 nu b → dc_vn g a0 nu r (dc_bl g r + 1) → post b (dc_y g rc tc op cm d re nx nu ed se)) : ∀ n k x b nu, k ≤ dc_bl g r + 1 → dc_bl g r + 1 - k < n → (k ≤ dc_bl g r → dc_bo (dc_ok g (dc_U nu) r k) x) → dc_pn g a0 nu b → dc_vn g a0 nu r k → wY_nullRule_15 post (nI r) (nI (dc_bl g r)) rc tc (nI (dc_R g)) (nI (dc_T g)) op cm n x b (nI k) (dc_HN g) (dc_HA g) (dc_BL g) (dc_KD g) (dc_SM g) (dc_AG g) (dc_TK g) d re nx nu ed se := by
  have hB := dc_W_bl hW r
  have hR := dc_W_R hW
  intro n
  induction n with
  | zero => intro k x b nu h1 h2; omega
  | succ n ih =>
    intro k x b nu hk hn hx hp hv
    refine pk_lt (dc_bl g r) k (fun h2 => ?_) (fun h2 => ?_)
    · have e : k = dc_bl g r + 1 := by omega
      subst e
      exact ⟨dc_nar01 (dc_pn_01 hp), h b nu hp hv⟩
    · have hx' := hx h2
      have go : dc_en g r k → (k < dc_bl g r → dc_kd g (r * 6 + k) = 2) → wY_nullRule_45 post (wY_nullRule_15 post (nI r) (nI (dc_bl g r)) rc tc (nI (dc_R g)) (nI (dc_T g)) op cm n) (nI r) x b (nI (dc_bl g r)) (nI k) rc tc (nI (dc_R g)) (nI (dc_T g)) op cm (dc_HN g) (dc_HA g) (dc_BL g) (dc_KD g) (dc_SM g) (dc_AG g) (dc_TK g) d re nx nu ed se := by
        intro he hk2
        refine dc_y_nr45 hW hr he hx' hp hv (fun b' nu' hp' hv' => ih (k + 1) 1 b' nu' (by omega) (by omega) ?_ hp' hv')
        intro hk1
        exact dc_bo_t (dc_ok_bar (hk2 (by omega)))
      refine pk_eq k (dc_bl g r) (fun h3 => ?_) (fun h3 => ?_)
      · exact go ⟨h2, Or.inl h3⟩ (fun z => by omega)
      · have hq : r * 6 + k < 72 := by omega
        have hkd := dc_W_kd hW (r * 6 + k)
        rw [dc_i6]
        refine ⟨vp_in_nI hq (by omega), pk_eq (dc_kd g (r * 6 + k)) 2 (fun h4 => ?_) (fun h4 => ?_) (dc_at (dc_KD g) (by omega))⟩
        · exact go ⟨h2, Or.inr h4⟩ (fun _ => h4)
        · have hv' : dc_vn g a0 nu r (k + 1) := by
            intro k' hk' he
            by_cases e : k' = k
            · subst e
              exact absurd he.2 (fun z => z.elim h3 h4)
            · exact hv k' (by omega) he
          refine ⟨vp_in_nI hq (by omega), pk_eq (dc_kd g (r * 6 + k)) 0 (fun h5 => ?_) (fun h5 => ?_) (dc_at (dc_KD g) (by omega))⟩
          · refine nm_r (nI_1 k) (ih (k + 1) 0 b nu (by omega) (by omega) (fun _ => dc_bo_f ?_) hp hv')
            rw [dc_ok_s h4]
            intro z
            omega
          · have h1 : dc_kd g (r * 6 + k) = 1 := by omega
            have h6 := dc_W_s1 hW h1
            have e1 : dc_SM g (nI (r * 6 + k)).toNatClampNeg = nI (dc_sy g (r * 6 + k)) := dc_at (dc_SM g) (by omega)
            refine ⟨vp_in_nI hq (by omega), ?_⟩
            rw [e1]
            refine ⟨vp_in_nI h6 (by omega), ?_⟩
            rw [nI_clamp (show dc_sy g (r * 6 + k) < 2 ^ 31 by omega)]
            refine br_c (fun h7 => ?_) (fun h7 => ?_)
            · refine nm_r (nI_1 k) (ih (k + 1) 0 b nu (by omega) (by omega) (fun _ => dc_bo_f ?_) hp hv')
              rw [dc_ok_s h4]
              intro z
              exact z.2.2.2 h7
            · refine nm_r (nI_1 k) (ih (k + 1) x b nu (by omega) (by omega) (fun _ => dc_bo_c ?_ hx') hp hv')
              rw [dc_ok_s h4]
              exact ⟨fun z => ⟨z, h1, h6, h7⟩, fun z => z.1⟩
theorem dc_y_nr (hW : dc_W g) {post : Int32 → SY → Prop} {r : Nat} (hr : r < dc_R g) (hs : ∀ m, dc_U nu m → dc_N g m) (h : ∀ b nu', dc_pn g nu nu' b → (dc_nr g (dc_U nu) r → dc_U nu' (dc_hn g r)) → post b (dc_y g rc tc op cm d re nx nu' ed se)) : wpY_nullRule post (dc_y g rc tc op cm d re nx nu ed se) (nI r) := by
  have hR := dc_W_R hW
  refine ⟨vp_in_nI (by omega) (by omega), nm_r (dc_at (dc_BL g) (by omega)) ⟨dc_bl g r + 2, dc_y_nr15 hW hr (fun b nu' hp hv => h b nu' hp ?_) _ 0 1 0 nu (by omega) (by omega) (fun _ => dc_bo_t dc_ok_0) (dc_pn_r hs) (fun k' hk' => by omega)⟩⟩
  intro ⟨k, he, ho⟩
  exact hv k (Nat.lt_succ_of_le he.1) he ho
theorem dc_y_np4 (hW : dc_W g) {post : Int32 → SY → Prop} {a0 : Nat → Int32} (h : ∀ b nu, dc_pn g a0 nu b → (∀ r, r < dc_R g → dc_nr g (dc_U a0) r → dc_U nu (dc_hn g r)) → post b (dc_y g rc tc op cm d re nx nu ed se)) : ∀ n r b nu, r ≤ dc_R g → dc_R g - r < n → dc_pn g a0 nu b → (∀ r', r' < r → dc_nr g (dc_U a0) r' → dc_U nu (dc_hn g r')) → wY_nullPass_4 post n b (nI r) rc tc (nI (dc_R g)) (nI (dc_T g)) op cm (dc_HN g) (dc_HA g) (dc_BL g) (dc_KD g) (dc_SM g) (dc_AG g) (dc_TK g) d re nx nu ed se := by
  have hR := dc_W_R hW
  intro n
  induction n with
  | zero => intro r b nu h1 h2; omega
  | succ n ih =>
    intro r b nu hr hn hp hv
    refine pk_le (dc_R g) r (fun h2 => ?_) (fun h2 => ?_)
    · have e : r = dc_R g := by omega
      subst e
      exact ⟨dc_nar01 (dc_pn_01 hp), h b nu hp hv⟩
    · refine dc_y_nr hW h2 hp.2.1 (fun b' nu' hp' hl => ?_)
      have hv' : ∀ r', r' < r + 1 → dc_nr g (dc_U a0) r' → dc_U nu' (dc_hn g r') := by
        intro r' hr' hz
        by_cases e : r' = r
        · subst e
          exact hl (dc_nr_mono hp.1 hz)
        · exact hp'.1 _ (hv r' (by omega) hz)
      refine br_c (fun e => ?_) (fun e => ?_)
      · exact nm_r (nI_1 r) (ih (r + 1) b nu' (by omega) (by omega) (dc_pn_f hp hp' e) hv')
      · exact nm_r (nI_1 r) (ih (r + 1) 1 nu' (by omega) (by omega) (dc_pn_t hp hp' e) hv')
theorem dc_y_np (hW : dc_W g) {post : Int32 → SY → Prop} (hs : ∀ m, dc_U nu m → dc_N g m) (h : ∀ b nu', dc_pn g nu nu' b → (∀ r, r < dc_R g → dc_nr g (dc_U nu) r → dc_U nu' (dc_hn g r)) → post b (dc_y g rc tc op cm d re nx nu' ed se)) : wpY_nullPass post (dc_y g rc tc op cm d re nx nu ed se) :=
  ⟨dc_R g + 1, dc_y_np4 hW h _ 0 0 nu (by omega) (by omega) (dc_pn_r hs) (fun r' hr' => by omega)⟩
theorem dc_y_cn23 (hW : dc_W g) {post : SY → Prop} (h : ∀ nu', (∀ m, dc_U nu' m ↔ dc_N g m) → post (dc_y g rc tc op cm d re nx nu' ed se)) : ∀ n t nu, t ≤ 7 → 7 - t < n → (∀ m, dc_U nu m → dc_N g m) → t ≤ dc_ct (dc_U nu) 6 → wY_computeNullable_23 post n (nI t) rc tc (nI (dc_R g)) (nI (dc_T g)) op cm (dc_HN g) (dc_HA g) (dc_BL g) (dc_KD g) (dc_SM g) (dc_AG g) (dc_TK g) d re nx nu ed se := by
  intro n
  induction n with
  | zero => intro t nu h1 h2; omega
  | succ n ih =>
    intro t nu ht hn hd hc
    have hle := dc_ct_le (dc_U nu) 6
    refine pk_le 7 t (fun h2 => absurd h2 (by omega)) (fun h2 => ?_)
    refine dc_y_np hW hd (fun b' nu' hp hf => ?_)
    rcases hp.2.2 with ⟨e1, e2⟩ | ⟨e1, e2⟩
    · subst e2
      exact br_t e1 (h nu' (dc_Nend hW hd (Or.inl hf)))
    · subst e1
      exact br_f (by decide) (nm_r (nI_1 t) (ih (t + 1) nu' (by omega) (by omega) hp.2.1 (by omega)))
theorem dc_y_cn2 (hW : dc_W g) {post : SY → Prop} (h : ∀ nu', (∀ m, dc_U nu' m ↔ dc_N g m) → post (dc_y g rc tc op cm d re nx nu' ed se)) : ∀ n c nu, c ≤ 6 → 6 - c < n → (∀ q, q < c → nu q = 0) → wY_computeNullable_2 post rc tc (nI (dc_R g)) (nI (dc_T g)) op cm n (nI c) (dc_HN g) (dc_HA g) (dc_BL g) (dc_KD g) (dc_SM g) (dc_AG g) (dc_TK g) d re nx nu ed se := by
  intro n
  induction n with
  | zero => intro c nu h1 h2; omega
  | succ n ih =>
    intro c nu hc hn hz
    refine pk_le 6 c (fun h1 => ?_) (fun h1 => ?_)
    · exact ⟨8, dc_y_cn23 hW h 8 0 nu (by omega) (by omega) (fun m z => absurd (hz m (by have := z.1; omega)) z.2) (by omega)⟩
    · exact ⟨vp_in_nI h1 (by omega), nm_r (e' := upd nu c 0) (by rw [nI_clamp (by omega), dc_nb0]) (nm_r (nI_1 c) (ih (c + 1) _ (by omega) (by omega) (dc_z_s hz)))⟩
theorem dc_y_cn (hW : dc_W g) {post : SY → Prop} (h : ∀ nu', (∀ m, dc_U nu' m ↔ dc_N g m) → post (dc_y g rc tc op cm d re nx nu' ed se)) : wpY_computeNullable post (dc_y g rc tc op cm d re nx nu ed se) :=
  ⟨7, dc_y_cn2 hW h 7 0 nu (by omega) (by omega) (fun q hq => by omega)⟩
end
end
section
/-- the edges that the rules before r and the first k items of r show, as cells -/
def dc_es (g : dc_G) (r k c : Nat) : Prop := ∃ r' k', (r' < r ∨ (r' = r ∧ k' < k)) ∧ k' < dc_bl g r' ∧ dc_kd g (r' * 6 + k') = 1 ∧ dc_ok g (dc_N g) r' k' ∧ c = dc_hn g r' * 6 + dc_sy g (r' * 6 + k')
theorem dc_es_n {g : dc_G} {r k c : Nat} (h : ¬ (dc_kd g (r * 6 + k) = 1 ∧ dc_ok g (dc_N g) r k)) : dc_es g r k c ↔ dc_es g r (k + 1) c := by
  constructor
  · intro ⟨r', k', h1, h2⟩
    exact ⟨r', k', by omega, h2⟩
  · intro ⟨r', k', h1, h2, h3, h4, h5⟩
    by_cases e : r' = r ∧ k' = k
    · obtain ⟨rfl, rfl⟩ := e
      exact absurd ⟨h3, h4⟩ h
    · exact ⟨r', k', by omega, h2, h3, h4, h5⟩
theorem dc_es_y {g : dc_G} {r k c : Nat} (hk : k < dc_bl g r) (h1 : dc_kd g (r * 6 + k) = 1) (h2 : dc_ok g (dc_N g) r k) : (dc_es g r k c ∨ c = dc_hn g r * 6 + dc_sy g (r * 6 + k)) ↔ dc_es g r (k + 1) c := by
  constructor
  · intro z
    rcases z with ⟨r', k', h3, h4⟩ | z
    · exact ⟨r', k', by omega, h4⟩
    · exact ⟨r, k, by omega, hk, h1, h2, z⟩
  · intro ⟨r', k', h3, h4, h5, h6, h7⟩
    by_cases e : r' = r ∧ k' = k
    · obtain ⟨rfl, rfl⟩ := e
      exact Or.inr h7
    · exact Or.inl ⟨r', k', by omega, h4, h5, h6, h7⟩
theorem dc_es_r {g : dc_G} {r c : Nat} : dc_es g r (dc_bl g r) c ↔ dc_es g (r + 1) 0 c := by
  constructor
  · intro ⟨r', k', h1, h2⟩
    exact ⟨r', k', by omega, h2⟩
  · intro ⟨r', k', h1, h2, h3⟩
    by_cases e : r' = r
    · subst e
      exact ⟨r', k', by omega, h2, h3⟩
    · exact ⟨r', k', by omega, h2, h3⟩
theorem dc_es_E {g : dc_G} (hW : dc_W g) {a b : Nat} (hb : b < 6) : dc_es g (dc_R g) 0 (a * 6 + b) ↔ dc_E g a b := by
  constructor
  · intro ⟨r, k, h1, h2, h3, h4, h5⟩
    have h6 := dc_W_s1 hW h3
    exact ⟨r, k, by omega, by omega, h2, h3, h4, by omega⟩
  · intro ⟨r, k, h1, h2, h3, h4, h5, h6⟩
    exact ⟨r, k, by omega, h3, h4, h5, by rw [h2, h6]⟩
section
variable {g : dc_G} {rc tc op cm : Int32} {d re nx nu ed se : Nat → Int32}
theorem dc_y_er80 (hW : dc_W g) (hnu : ∀ m, dc_U nu m ↔ dc_N g m) {post : SY → Prop} {J : Int32 → Int32 → (Nat → Int32) → (Nat → Int32) → (Nat → Int32) → (Nat → Int32) → (Nat → Int32) → (Nat → Int32) → (Nat → Int32) → (Nat → Int32) → (Nat → Int32) → (Nat → Int32) → (Nat → Int32) → (Nat → Int32) → (Nat → Int32) → Prop} {x : Int32} {r k : Nat} (hq : r * 6 + k < 72) (h1 : dc_kd g (r * 6 + k) = 1) (hx : dc_bo (dc_ok g (dc_N g) r k) x) (hJ : ∀ x', dc_bo (dc_ok g (dc_N g) r (k + 1)) x' → J x' (nI (k + 1)) (dc_HN g) (dc_HA g) (dc_BL g) (dc_KD g) (dc_SM g) (dc_AG g) (dc_TK g) d re nx nu ed se) : wY_edgeRule_80 post J (nI r) x (nI k) (nI (r * 6 + k)) rc tc (nI (dc_R g)) (nI (dc_T g)) op cm (dc_HN g) (dc_HA g) (dc_BL g) (dc_KD g) (dc_SM g) (dc_AG g) (dc_TK g) d re nx nu ed se := by
  have h6 := dc_W_s1 hW h1
  have h2 : dc_kd g (r * 6 + k) ≠ 2 := by omega
  have e1 : dc_SM g (nI (r * 6 + k)).toNatClampNeg = nI (dc_sy g (r * 6 + k)) := dc_at (dc_SM g) (by omega)
  refine ⟨vp_in_nI hq (by omega), ?_⟩
  rw [e1]
  refine ⟨vp_in_nI h6 (by omega), ?_⟩
  rw [nI_clamp (show dc_sy g (r * 6 + k) < 2 ^ 31 by omega)]
  refine br_c (fun h7 => ?_) (fun h7 => ?_)
  · refine nm_r (nI_1 k) (hJ 0 (dc_bo_f ?_))
    rw [dc_ok_s h2]
    intro z
    exact ((hnu _).mpr z.2.2).2 h7
  · refine nm_r (nI_1 k) (hJ x (dc_bo_c ?_ hx))
    rw [dc_ok_s h2]
    exact ⟨fun z => ⟨z, h1, (hnu _).mp ⟨h6, h7⟩⟩, fun z => z.1⟩
theorem dc_y_er4 (hW : dc_W g) (hnu : ∀ m, dc_U nu m ↔ dc_N g m) {post : SY → Prop} {r : Nat} (hr : r < 12) (h : ∀ ed, dc_is ed 36 (dc_es g (r + 1) 0) → post (dc_y g rc tc op cm d re nx nu ed se)) : ∀ n k x ed, k ≤ dc_bl g r → dc_bl g r - k < n → dc_bo (dc_ok g (dc_N g) r k) x → dc_is ed 36 (dc_es g r k) → wY_edgeRule_4 post (nI r) rc tc (nI (dc_R g)) (nI (dc_T g)) op cm n x (nI k) (dc_HN g) (dc_HA g) (dc_BL g) (dc_KD g) (dc_SM g) (dc_AG g) (dc_TK g) d re nx nu ed se := by
  have hB := dc_W_bl hW r
  have hn6 := dc_W_hn hW r
  intro n
  induction n with
  | zero => intro k x ed h1 h2; omega
  | succ n ih =>
    intro k x ed hk hn hx hed
    refine ⟨vp_in_nI (by omega) (by omega), pk_le (dc_bl g r) k (fun h1 => ?_) (fun h1 => ?_) (dc_at (dc_BL g) (by omega))⟩
    · have e : k = dc_bl g r := by omega
      subst e
      exact h ed (dc_is_c hed (fun c _ => dc_es_r))
    · have hq : r * 6 + k < 72 := by omega
      have hkd := dc_W_kd hW (r * 6 + k)
      refine nm_r (dc_i6 r k) ⟨vp_in_nI hq (by omega), pk_eq (dc_kd g (r * 6 + k)) 2 (fun h2 => ?_) (fun h2 => ?_) (dc_at (dc_KD g) (by omega))⟩
      · exact nm_r (nI_1 k) (ih (k + 1) 1 ed (by omega) (by omega) (dc_bo_t (dc_ok_bar h2)) (dc_is_c hed (fun c _ => dc_es_n (fun z => by omega))))
      · refine ⟨vp_in_nI hq (by omega), pk_eq (dc_kd g (r * 6 + k)) 0 (fun h3 => ?_) (fun h3 => ?_) (dc_at (dc_KD g) (by omega))⟩
        · refine nm_r (nI_1 k) (ih (k + 1) 0 ed (by omega) (by omega) (dc_bo_f ?_) (dc_is_c hed (fun c _ => dc_es_n (fun z => by omega))))
          rw [dc_ok_s h2]
          intro z
          omega
        · have h4 : dc_kd g (r * 6 + k) = 1 := by omega
          have h6 := dc_W_s1 hW h4
          refine dc_if (dc_bo_0 hx) (fun h5 => ?_) (fun h5 => ?_)
          · exact dc_y_er80 hW hnu hq h4 hx (fun x' hx' => ih (k + 1) x' ed (by omega) (by omega) hx' (dc_is_c hed (fun c _ => dc_es_n (fun z => h5 z.2))))
          · have ec : dc_HN g (nI r).toNatClampNeg * 6 + dc_SM g (nI (r * 6 + k)).toNatClampNeg = nI (dc_hn g r * 6 + dc_sy g (r * 6 + k)) := by
              rw [dc_at (dc_HN g) (show r < 2 ^ 31 by omega), dc_at (dc_SM g) (show r * 6 + k < 2 ^ 31 by omega)]
              exact dc_i6 _ _
            refine ⟨vp_in_nI (by omega) (by omega), vp_in_nI hq (by omega), ?_⟩
            rw [ec]
            refine ⟨vp_in_nI (by omega) (by omega), nm_r (e' := upd ed (dc_hn g r * 6 + dc_sy g (r * 6 + k)) 1) (by rw [nI_clamp (by omega), dc_nb1]) ?_⟩
            exact dc_y_er80 hW hnu hq h4 hx (fun x' hx' => ih (k + 1) x' _ (by omega) (by omega) hx' (dc_is_c (dc_is_u hed) (fun c _ => dc_es_y h1 h4 (Classical.not_not.mp h5))))
theorem dc_y_er (hW : dc_W g) (hnu : ∀ m, dc_U nu m ↔ dc_N g m) {post : SY → Prop} {r : Nat} (hr : r < 12) (hed : dc_is ed 36 (dc_es g r 0)) (h : ∀ ed, dc_is ed 36 (dc_es g (r + 1) 0) → post (dc_y g rc tc op cm d re nx nu ed se)) : wpY_edgeRule post (dc_y g rc tc op cm d re nx nu ed se) (nI r) :=
  ⟨dc_bl g r + 1, dc_y_er4 hW hnu hr h _ 0 1 ed (by omega) (by omega) (dc_bo_t dc_ok_0) hed⟩
theorem dc_y_ce23 (hW : dc_W g) (hnu : ∀ m, dc_U nu m ↔ dc_N g m) {post : SY → Prop} (h : ∀ ed, dc_is ed 36 (dc_es g (dc_R g) 0) → post (dc_y g rc tc op cm d re nx nu ed se)) : ∀ n r ed, r ≤ dc_R g → dc_R g - r < n → dc_is ed 36 (dc_es g r 0) → wY_computeEdges_23 post n (nI r) rc tc (nI (dc_R g)) (nI (dc_T g)) op cm (dc_HN g) (dc_HA g) (dc_BL g) (dc_KD g) (dc_SM g) (dc_AG g) (dc_TK g) d re nx nu ed se := by
  have hR := dc_W_R hW
  intro n
  induction n with
  | zero => intro r ed h1 h2; omega
  | succ n ih =>
    intro r ed hr hn hed
    refine pk_le (dc_R g) r (fun h2 => ?_) (fun h2 => ?_)
    · have e : r = dc_R g := by omega
      subst e
      exact h ed hed
    · exact dc_y_er hW hnu (by omega) hed (fun ed' hed' => nm_r (nI_1 r) (ih (r + 1) ed' (by omega) (by omega) hed'))
theorem dc_y_ce2 (hW : dc_W g) (hnu : ∀ m, dc_U nu m ↔ dc_N g m) {post : SY → Prop} (h : ∀ ed, dc_is ed 36 (dc_es g (dc_R g) 0) → post (dc_y g rc tc op cm d re nx nu ed se)) : ∀ n c ed, c ≤ 36 → 36 - c < n → (∀ q, q < c → ed q = 0) → wY_computeEdges_2 post rc tc (nI (dc_R g)) (nI (dc_T g)) op cm n (nI c) (dc_HN g) (dc_HA g) (dc_BL g) (dc_KD g) (dc_SM g) (dc_AG g) (dc_TK g) d re nx nu ed se := by
  intro n
  induction n with
  | zero => intro c ed h1 h2; omega
  | succ n ih =>
    intro c ed hc hn hz
    refine pk_le 36 c (fun h1 => ?_) (fun h1 => ?_)
    · have e : c = 36 := by omega
      subst e
      exact ⟨dc_R g + 1, dc_y_ce23 hW hnu h _ 0 ed (by omega) (by omega) (dc_is_0 hz (fun q _ ⟨r', k', h2, _⟩ => by omega))⟩
    · exact ⟨vp_in_nI h1 (by omega), nm_r (e' := upd ed c 0) (by rw [nI_clamp (by omega), dc_nb0]) (nm_r (nI_1 c) (ih (c + 1) _ (by omega) (by omega) (dc_z_s hz)))⟩
theorem dc_y_ce (hW : dc_W g) (hnu : ∀ m, dc_U nu m ↔ dc_N g m) {post : SY → Prop} (h : ∀ ed, dc_is ed 36 (dc_es g (dc_R g) 0) → post (dc_y g rc tc op cm d re nx nu ed se)) : wpY_computeEdges post (dc_y g rc tc op cm d re nx nu ed se) :=
  ⟨37, dc_y_ce2 hW hnu h 37 0 ed (by omega) (by omega) (fun q hq => by omega)⟩
/-- one round of spreading from s0 to s, ahead of (a, b) -/
def dc_sp (g : dc_G) (m : Nat) (s0 s : Nat → Int32) (a b : Nat) : Prop := (∀ q, q < 6 → s q = 0 ∨ s q = 1) ∧ (∀ q, dc_U s0 q → dc_U s q) ∧ (∀ q, dc_U s q → dc_L g m q) ∧ (∀ a' b', (a' < a ∨ (a' = a ∧ b' < b)) → dc_U s0 a' → dc_E g a' b' → dc_U s b')
theorem dc_y_sp10 (hW : dc_W g) (hed : dc_is ed 36 (dc_es g (dc_R g) 0)) {m : Nat} {post : SY → Prop} {J : Int32 → (Nat → Int32) → (Nat → Int32) → (Nat → Int32) → (Nat → Int32) → (Nat → Int32) → (Nat → Int32) → (Nat → Int32) → (Nat → Int32) → (Nat → Int32) → (Nat → Int32) → (Nat → Int32) → (Nat → Int32) → (Nat → Int32) → Prop} {s0 : Nat → Int32} {a : Nat} (ha : a < 6) (hJ : ∀ se, dc_sp g m s0 se a 6 → J (nI (a + 1)) (dc_HN g) (dc_HA g) (dc_BL g) (dc_KD g) (dc_SM g) (dc_AG g) (dc_TK g) d re nx nu ed se) : ∀ n b se, b ≤ 6 → 6 - b < n → dc_sp g m s0 se a b → wY_spreadOnce_10 post J (nI a) rc tc (nI (dc_R g)) (nI (dc_T g)) op cm n (nI b) (dc_HN g) (dc_HA g) (dc_BL g) (dc_KD g) (dc_SM g) (dc_AG g) (dc_TK g) d re nx nu ed se := by
  intro n
  induction n with
  | zero => intro b se h1 h2; omega
  | succ n ih =>
    intro b se hb hn hs
    refine pk_le 6 b (fun h1 => ?_) (fun h1 => ?_)
    · have e : b = 6 := by omega
      subst e
      exact nm_r (nI_1 a) (hJ se hs)
    · have hsk : ¬ (dc_U s0 a ∧ dc_E g a b) → dc_sp g m s0 se a (b + 1) := by
        intro hz
        refine ⟨hs.1, hs.2.1, hs.2.2.1, ?_⟩
        intro a' b' hc hu he
        by_cases e : a' = a ∧ b' = b
        · obtain ⟨rfl, rfl⟩ := e
          exact absurd ⟨hu, he⟩ hz
        · exact hs.2.2.2 a' b' (by omega) hu he
      refine ⟨vp_in_nI ha (by omega), ?_⟩
      rw [nI_clamp (show a < 2 ^ 31 by omega)]
      refine br_c (fun h2 => ?_) (fun h2 => ?_)
      · exact nm_r (nI_1 b) (ih (b + 1) se (by omega) (by omega) (hsk (fun z => (hs.2.1 a z.1).2 h2)))
      · rw [dc_i6]
        have hc : a * 6 + b < 36 := by omega
        refine ⟨vp_in_nI hc (by omega), ?_⟩
        rw [nI_clamp (show a * 6 + b < 2 ^ 31 by omega)]
        refine dc_if (dc_bo_0 (dc_bo_c (dc_es_E hW h1) (hed _ hc))) (fun h3 => ?_) (fun h3 => ?_)
        · exact nm_r (nI_1 b) (ih (b + 1) se (by omega) (by omega) (hsk (fun z => h3 z.2)))
        · have hE := Classical.not_not.mp h3
          refine ⟨vp_in_nI h1 (by omega), nm_r (e' := upd se b 1) (by rw [nI_clamp (by omega), dc_nb1]) (nm_r (nI_1 b) (ih (b + 1) _ (by omega) (by omega) ⟨?_, ?_, ?_, ?_⟩))⟩
          · intro q hq
            by_cases e : q = b
            · rw [e, pk_us]; exact Or.inr rfl
            · rw [pk_un e]; exact hs.1 q hq
          · intro q hq; exact (dc_U_u h1).mpr (Or.inl (hs.2.1 q hq))
          · intro q hq
            rcases (dc_U_u h1).mp hq with z | z
            · exact hs.2.2.1 q z
            · rw [z]; exact dc_L_s (hs.2.2.1 a ⟨ha, h2⟩) hE
          · intro a' b' hc' hu he
            by_cases e : b' = b
            · exact (dc_U_u h1).mpr (Or.inr e)
            · exact (dc_U_u h1).mpr (Or.inl (hs.2.2.2 a' b' (by omega) hu he))
theorem dc_y_sp2 (hW : dc_W g) (hed : dc_is ed 36 (dc_es g (dc_R g) 0)) {m : Nat} {post : SY → Prop} {s0 : Nat → Int32} (h : ∀ se, dc_sp g m s0 se 6 0 → post (dc_y g rc tc op cm d re nx nu ed se)) : ∀ n a se, a ≤ 6 → 6 - a < n → dc_sp g m s0 se a 0 → wY_spreadOnce_2 post rc tc (nI (dc_R g)) (nI (dc_T g)) op cm n (nI a) (dc_HN g) (dc_HA g) (dc_BL g) (dc_KD g) (dc_SM g) (dc_AG g) (dc_TK g) d re nx nu ed se := by
  intro n
  induction n with
  | zero => intro a se h1 h2; omega
  | succ n ih =>
    intro a se ha hn hs
    refine pk_le 6 a (fun h1 => ?_) (fun h1 => ?_)
    · have e : a = 6 := by omega
      subst e
      exact h se hs
    · refine ⟨7, dc_y_sp10 hW hed h1 (fun se' hs' => ih (a + 1) se' (by omega) (by omega) ⟨hs'.1, hs'.2.1, hs'.2.2.1, ?_⟩) 7 0 se (by omega) (by omega) hs⟩
      intro a' b' hc hu he
      have := (dc_E_in hW he).2
      exact hs'.2.2.2 a' b' (by omega) hu he
theorem dc_y_sp (hW : dc_W g) (hed : dc_is ed 36 (dc_es g (dc_R g) 0)) {m : Nat} {post : SY → Prop} (h0 : ∀ q, q < 6 → se q = 0 ∨ se q = 1) (h1 : ∀ q, dc_U se q → dc_L g m q) (h : ∀ se', dc_sp g m se se' 6 0 → post (dc_y g rc tc op cm d re nx nu ed se')) : wpY_spreadOnce post (dc_y g rc tc op cm d re nx nu ed se) :=
  ⟨7, dc_y_sp2 hW hed h 7 0 se (by omega) (by omega) ⟨h0, fun _ z => z, h1, fun a' b' hc => by omega⟩⟩
theorem dc_y_cf33 (hW : dc_W g) (hed : dc_is ed 36 (dc_es g (dc_R g) 0)) {m : Nat} (hm : m < 6) {post : Int32 → SY → Prop} (h : ∀ b se', dc_bo (dc_L g m m) b → post b (dc_y g rc tc op cm d re nx nu ed se')) : ∀ n t se, t ≤ 6 → 6 - t < n → (∀ q, q < 6 → se q = 0 ∨ se q = 1) → (∀ b, dc_E g m b → dc_U se b) → (∀ b, dc_U se b → dc_L g m b) → (dc_LC g m (dc_U se) ∨ t ≤ dc_ct (dc_U se) 6) → wY_cycleFrom_33 post (nI m) n (nI t) rc tc (nI (dc_R g)) (nI (dc_T g)) op cm (dc_HN g) (dc_HA g) (dc_BL g) (dc_KD g) (dc_SM g) (dc_AG g) (dc_TK g) d re nx nu ed se := by
  intro n
  induction n with
  | zero => intro t se h1 h2; omega
  | succ n ih =>
    intro t se ht hn h0 h1 h2 h3
    refine pk_le 6 t (fun h4 => ?_) (fun h4 => ?_)
    · have e : t = 6 := by omega
      subst e
      have hl := dc_Lend hW h2 h3 m
      refine ⟨vp_in_nI hm (by omega), ?_⟩
      rw [nI_clamp (show m < 2 ^ 31 by omega)]
      refine ⟨dc_nar01 (h0 m hm), h _ se ?_⟩
      rcases h0 m hm with z | z
      · rw [z]; exact dc_bo_f (fun y => (hl.mpr y).2 z)
      · rw [z]; exact dc_bo_t (hl.mp ⟨hm, by rw [z]; decide⟩)
    · refine dc_y_sp hW hed h0 h2 (fun se' hs => nm_r (nI_1 t) (ih (t + 1) se' (by omega) (by omega) hs.1 ?_ hs.2.2.1 ?_))
      · intro b hb; exact hs.2.1 b (h1 b hb)
      · exact dc_Lstep hW hs.2.1 hs.2.2.1 h1 (fun a b ha he => hs.2.2.2 a b (Or.inl (dc_E_in hW he).1) ha he) h3
theorem dc_y_cf2 (hW : dc_W g) (hed : dc_is ed 36 (dc_es g (dc_R g) 0)) {m : Nat} (hm : m < 6) {post : Int32 → SY → Prop} (h : ∀ b se', dc_bo (dc_L g m m) b → post b (dc_y g rc tc op cm d re nx nu ed se')) : ∀ n c se, c ≤ 6 → 6 - c < n → (∀ q, q < c → dc_bo (dc_E g m q) (se q)) → wY_cycleFrom_2 post (nI m) rc tc (nI (dc_R g)) (nI (dc_T g)) op cm n (nI c) (dc_HN g) (dc_HA g) (dc_BL g) (dc_KD g) (dc_SM g) (dc_AG g) (dc_TK g) d re nx nu ed se := by
  intro n
  induction n with
  | zero => intro c se h1 h2; omega
  | succ n ih =>
    intro c se hc hn hz
    refine pk_le 6 c (fun h1 => ?_) (fun h1 => ?_)
    · have e : c = 6 := by omega
      subst e
      refine ⟨7, dc_y_cf33 hW hed hm h 7 0 se (by omega) (by omega) (fun q hq => dc_bo_01 (hz q hq)) ?_ ?_ (Or.inr (by omega))⟩
      · intro b hb
        have h6 := (dc_E_in hW hb).2
        exact ⟨h6, fun z => ((dc_bo_0 (hz b h6)).mp z) hb⟩
      · intro b hb
        exact dc_L_E (Classical.byContradiction fun z => hb.2 ((dc_bo_0 (hz b hb.1)).mpr z))
    · have hc6 : m * 6 + c < 36 := by omega
      have hbo := dc_bo_c (dc_es_E hW h1) (hed _ hc6)
      rw [dc_i6]
      refine ⟨vp_in_nI hc6 (by omega), vp_in_nI h1 (by omega), nm_r (e' := upd se c (ed (m * 6 + c))) (by rw [nI_clamp (show c < 2 ^ 31 by omega), nI_clamp (show m * 6 + c < 2 ^ 31 by omega), dc_nbo hbo]) (nm_r (nI_1 c) (ih (c + 1) _ (by omega) (by omega) ?_))⟩
      intro q hq
      by_cases e : q = c
      · rw [e, pk_us]; exact hbo
      · rw [pk_un e]; exact hz q (by omega)
theorem dc_y_cf (hW : dc_W g) (hed : dc_is ed 36 (dc_es g (dc_R g) 0)) {m : Nat} (hm : m < 6) {post : Int32 → SY → Prop} (h : ∀ b se', dc_bo (dc_L g m m) b → post b (dc_y g rc tc op cm d re nx nu ed se')) : wpY_cycleFrom post (dc_y g rc tc op cm d re nx nu ed se) (nI m) :=
  ⟨7, dc_y_cf2 hW hed hm h 7 0 se (by omega) (by omega) (fun q hq => by omega)⟩
end
end
section
/-- both states are pictures of one grammar and string; compiled: X's cells are the least relation -/
def dc_RR (g : dc_G) (a c : Nat) (op cm : Int32) (sy ag f : Nat → Int32) : Prop := dc_W g ∧ dc_HS g sy ag ∧ (a ≤ 12 ∧ c ≤ 8 ∧ dc_R g ≤ a ∧ dc_T g ≤ c) ∧ (¬ op = 0 → 1 ≤ dc_R g ∧ cm = 0) ∧ (¬ cm = 0 → dc_FX g f)
def i_Rel (_ : Nat) (u : SX) (v : SY) : Prop := ∃ (g : dc_G) (a c : Nat) (op cm : Int32) (sy ag f d re nx nu ed se : Nat → Int32), u = dc_x g (nI a) (nI c) op cm sy ag f ∧ v = dc_y g (nI a) (nI c) op cm d re nx nu ed se ∧ dc_RR g a c op cm sy ag f
theorem i_up {k : Nat} {u : SX} {v : SY} (h : i_Rel k u v) : i_Rel (k + 5) u v := h
theorem dc_rel {k : Nat} {g : dc_G} {a c : Nat} {op cm : Int32} {sy ag f : Nat → Int32} (d re nx nu ed se : Nat → Int32) (h : dc_RR g a c op cm sy ag f) : i_Rel k (dc_x g (nI a) (nI c) op cm sy ag f) (dc_y g (nI a) (nI c) op cm d re nx nu ed se) := ⟨g, a, c, op, cm, sy, ag, f, d, re, nx, nu, ed, se, rfl, rfl, h⟩
theorem dc_cl (x : Int32) (n : Nat) (h1 : 1 ≤ n) (hn : n < 2 ^ 31) : ∃ a, a ≤ n ∧ ∀ A : Int32 → Prop, A (nI a) → ((1 ≤ x → ((x ≤ nI n → A x) ∧ (¬ x ≤ nI n → A (nI n)))) ∧ (¬ 1 ≤ x → A 1)) := by
  by_cases hx : 1 ≤ x
  · by_cases hy : x ≤ nI n
    · have h0 : ¬ x < 0 := by
        rw [Int32.lt_iff_toInt_lt]
        rw [Int32.le_iff_toInt_le] at hx
        have e1 : (1 : Int32).toInt = 1 := by decide
        have e0 : (0 : Int32).toInt = 0 := by decide
        omega
      obtain ⟨j, hj, rfl⟩ := nI_of h0
      rw [nI_leI hj hn] at hy
      exact ⟨j, hy, fun A h => br_t hx (br_t (nI_le hy hn) h)⟩
    · exact ⟨n, Nat.le_refl n, fun A h => br_t hx (br_f hy h)⟩
  · exact ⟨1, h1, fun A h => br_f hx h⟩
def dc_g0 : dc_G := ((0, 0), (fun _ => 0), (fun _ => 0), (fun _ => 0), (fun _ => 0), (fun _ => 0), (fun _ => 0), (fun _ => 0))
theorem i_vc0 (k0 : Int32) (k1 : Int32) : wpX_init (fun u => wpY_init (fun v => i_Rel 2 u v) k0 k1) k0 k1 := by
  obtain ⟨a, ha, hA⟩ := dc_cl k0 12 (by omega) (by omega)
  obtain ⟨c, hc, hC⟩ := dc_cl k1 8 (by omega) (by omega)
  have hX : ∀ post : Int32 → Prop, post (nI a) → wpX_clamped post k0 12 := fun post h => hA post h
  have hX2 : ∀ post : Int32 → Prop, post (nI c) → wpX_clamped post k1 8 := fun post h => hC post h
  unfold wpX_init
  refine hX _ (hX2 _ ?_)
  refine hA (fun z => wY_init_131 _ k1 z _ _ _ _ _ _ _ _ _ _ _ _ _ _ _ _ _ _ _) ?_
  refine hC (fun z => i_Rel 2 _ (nI a, z, _)) ?_
  refine ⟨dc_g0, a, c, 0, 0, (fun _ => 0), (fun _ => 0), (fun _ => 0), (fun _ => 0), (fun _ => 0), (fun _ => 0), (fun _ => 0), (fun _ => 0), (fun _ => 0), rfl, rfl, ?_⟩
  exact ⟨⟨⟨Nat.zero_le _, Nat.zero_le _⟩, fun _ => (by decide : (0 : Nat) < 6), fun _ => (by decide : (0 : Nat) < 6), fun _ => (by decide : (0 : Nat) ≤ 6), fun _ => (by decide : (0 : Nat) < 3), fun _ => (by decide : (0 : Nat) < 16), fun _ _ => (by decide : (0 : Nat) < 6), fun _ => (by decide : (0 : Nat) < 6), fun _ => (by decide : (0 : Nat) < 16)⟩, ⟨fun _ _ => rfl, fun _ _ => rfl⟩, ⟨ha, hc, Nat.zero_le _, Nat.zero_le _⟩, fun z => absurd rfl z, fun z => absurd rfl z⟩
theorem dc_x_wc {post : Int32 → Prop} {x : Int32} {n : Nat} (hn : n < 2 ^ 31) (h1 : ∀ j, j < n → x = nI j → post 1) (h0 : x < 0 ∨ nI n ≤ x → post 0) : wpX_within post x (nI n) := by
  rcases pk_ix x hn with h | h | ⟨j, hj, rfl⟩
  · exact dc_x_wi hn (Or.inr ⟨Or.inl h, h0 (Or.inl h)⟩)
  · exact dc_x_wi hn (Or.inr ⟨Or.inr h, h0 (Or.inr h)⟩)
  · exact dc_x_wi hn (Or.inl ⟨j, hj, rfl, h1 j hj rfl⟩)
theorem dc_gt {x : Int32} {n : Nat} (hn : n + 1 < 2 ^ 31) (h : nI (n + 1) ≤ x) : nI n < x ∧ ¬ x ≤ nI n := by
  rw [Int32.le_iff_toInt_le] at h ⊢
  rw [Int32.lt_iff_toInt_lt]
  rw [nI_toInt hn] at h
  rw [nI_toInt (by omega)]
  omega
theorem dc_lo1 {x : Int32} {n : Nat} {A B : Prop} (hn : n + 1 < 2 ^ 31) (h : x < 0 ∨ nI (n + 1) ≤ x) (a : A) : (x < 0 → A) ∧ (¬ x < 0 → ((nI n < x → A) ∧ (¬ nI n < x → B))) :=
  br_c (fun _ => a) (fun z => br_t (dc_gt hn (h.resolve_left z)).1 a)
theorem dc_lo2 {x : Int32} {n : Nat} {A B : Prop} (hn : n + 1 < 2 ^ 31) (h : x < 0 ∨ nI (n + 1) ≤ x) (a : A) : (x < 0 → A) ∧ (¬ x < 0 → ((x ≤ nI n → B) ∧ (¬ x ≤ nI n → A))) :=
  br_c (fun _ => a) (fun z => br_f (dc_gt hn (h.resolve_left z)).2 a)
theorem dc_in1 {j n : Nat} {A B : Prop} (hn : n + 1 < 2 ^ 31) (h : j < n + 1) (b : B) : (nI j < 0 → A) ∧ (¬ nI j < 0 → ((nI n < nI j → A) ∧ (¬ nI n < nI j → B))) :=
  br_f (nI_pos (by omega)) (br_f (nI_nlt (by omega) (by omega)) b)
theorem dc_in2 {j n : Nat} {A B : Prop} (hn : n + 1 < 2 ^ 31) (h : j < n + 1) (b : B) : (nI j < 0 → A) ∧ (¬ nI j < 0 → ((nI j ≤ nI n → B) ∧ (¬ nI j ≤ nI n → A))) :=
  br_f (nI_pos (by omega)) (br_t (nI_le (by omega) (by omega)) b)
/-! ===== beginRule ===== -/
def dc_gB (g : dc_G) (m h : Nat) : dc_G := ((dc_R g + 1, dc_T g), dc_un (dc_hn g) (dc_R g) m, dc_un (dc_ha g) (dc_R g) h, dc_un (dc_bl g) (dc_R g) 0, dc_kd g, dc_sy g, dc_ag g, dc_tk g)
theorem dc_gB_W {g : dc_G} (hW : dc_W g) {m h : Nat} (hR : dc_R g < 12) (hm : m < 6) (hh : h < 6) : dc_W (dc_gB g m h) := by
  refine ⟨⟨hR, hW.1.2⟩, dc_un_lt hW.2.1 hm, dc_un_lt hW.2.2.1 hh, ?_, hW.2.2.2.2⟩
  intro r
  show dc_un (dc_bl g) (dc_R g) 0 r ≤ 6
  have := dc_un_lt (f := dc_bl g) (k := dc_R g) (x := 0) (n := 7) (fun r => by have := dc_W_bl hW r; omega) (by omega) r
  omega
theorem i_vc_beginRule {k : Nat} {u : SX} {v : SY} (I : i_Rel k u v) (hk : k + 5 ≤ 2562) (v1 : Int32) (v2 : Int32) : wpX_beginRule (fun r u' => wpY_beginRule (fun r' v' => r' = r ∧ i_Rel (k + 5) u' v') v v1 v2) u v1 v2 := by
  obtain ⟨g, a, c, op, cm, sy, ag, f, d, re, nx, nu, ed, se, rfl, rfl, hr⟩ := I
  have J : i_Rel (k + 5) (dc_x g (nI a) (nI c) op cm sy ag f) (dc_y g (nI a) (nI c) op cm d re nx nu ed se) := dc_rel d re nx nu ed se hr
  obtain ⟨hW, hS, ⟨ha, hc, hRa, hTc⟩, ho, hf⟩ := hr
  by_cases h0 : op = 0
  · by_cases hR : dc_R g = a
    · have hn : ¬ nI (dc_R g) < nI a := nI_nlt (by omega) (by omega)
      have he : nI (dc_R g) = nI a := by rw [hR]
      exact br_t h0 (br_f hn (br_t h0 (br_t he ⟨rfl, J⟩)))
    · have hn : nI (dc_R g) < nI a := nI_lt (by omega) (by omega)
      have he : ¬ nI (dc_R g) = nI a := fun z => hR ((nI_eq (by omega) (by omega)).mp z)
      refine br_t h0 (br_t hn (dc_x_wc (n := 6) (by omega) (fun m hm em => ?_) (fun hb => ?_)))
      · subst em
        refine br_f (by decide) (dc_x_wc (n := 6) (by omega) (fun h hh eh => ?_) (fun hb => ?_))
        · subst eh
          have hi : vp_in (nI (dc_R g)) 12 := vp_in_nI (by omega) (by omega)
          have e1 : upd (dc_HN g) (nI (dc_R g)).toNatClampNeg (nI m) = dc_HN (dc_gB g m h) := by rw [nI_clamp (by omega)]; exact dc_un_u _ _ _
          have e2 : upd (dc_HA g) (nI (dc_R g)).toNatClampNeg (nI h) = dc_HA (dc_gB g m h) := by rw [nI_clamp (by omega)]; exact dc_un_u _ _ _
          have e3 : upd (dc_BL g) (nI (dc_R g)).toNatClampNeg 0 = dc_BL (dc_gB g m h) := by rw [nI_clamp (by omega)]; exact dc_un_u _ _ 0
          refine br_f (by decide) ⟨hi, nm_r e1 ⟨hi, nm_r e2 ⟨hi, nm_r e3 (nm_r (nI_1 _) ?_)⟩⟩⟩
          refine br_t h0 (br_f he (dc_in1 (n := 5) (by omega) hm (dc_in2 (n := 5) (by omega) hh ?_)))
          refine ⟨hi, nm_r e1 ⟨hi, nm_r e2 ⟨hi, nm_r e3 (nm_r (nI_1 _) ⟨rfl, ?_⟩)⟩⟩⟩
          refine dc_rel (g := dc_gB g m h) d re nx nu ed se ⟨dc_gB_W hW (by omega) hm hh, hS, ⟨ha, hc, ?_, hTc⟩, fun _ => ⟨?_, rfl⟩, fun z => absurd rfl z⟩
          · show dc_R g + 1 ≤ a
            omega
          · show 1 ≤ dc_R g + 1
            omega
        · exact br_t rfl (br_t h0 (br_f he (dc_in1 (n := 5) (by omega) hm (dc_lo2 (n := 5) (by omega) hb ⟨rfl, J⟩))))
      · exact br_t rfl (br_t h0 (br_f he (dc_lo1 (n := 5) (by omega) hb ⟨rfl, J⟩)))
  · exact br_f h0 (br_f h0 ⟨rfl, J⟩)
/-! ===== endRule, removeLastRule ===== -/
theorem i_vc_endRule {k : Nat} {u : SX} {v : SY} (I : i_Rel k u v) (hk : k + 5 ≤ 2562) : wpX_endRule (fun r u' => wpY_endRule (fun r' v' => r' = r ∧ i_Rel (k + 5) u' v') v) u := by
  obtain ⟨g, a, c, op, cm, sy, ag, f, d, re, nx, nu, ed, se, rfl, rfl, hr⟩ := I
  have J : i_Rel (k + 5) (dc_x g (nI a) (nI c) op cm sy ag f) (dc_y g (nI a) (nI c) op cm d re nx nu ed se) := dc_rel d re nx nu ed se hr
  by_cases h0 : op = 0
  · exact br_t h0 (br_t h0 ⟨rfl, J⟩)
  · refine br_f h0 (br_f h0 ⟨rfl, dc_rel (op := 0) d re nx nu ed se ?_⟩)
    exact ⟨hr.1, hr.2.1, hr.2.2.1, fun z => absurd rfl z, hr.2.2.2.2⟩
def dc_gR (g : dc_G) (r : Nat) : dc_G := ((r, dc_T g), dc_hn g, dc_ha g, dc_bl g, dc_kd g, dc_sy g, dc_ag g, dc_tk g)
theorem i_vc_removeLastRule {k : Nat} {u : SX} {v : SY} (I : i_Rel k u v) (hk : k + 5 ≤ 2562) : wpX_removeLastRule (fun r u' => wpY_removeLastRule (fun r' v' => r' = r ∧ i_Rel (k + 5) u' v') v) u := by
  obtain ⟨g, a, c, op, cm, sy, ag, f, d, re, nx, nu, ed, se, rfl, rfl, hr⟩ := I
  have J : i_Rel (k + 5) (dc_x g (nI a) (nI c) op cm sy ag f) (dc_y g (nI a) (nI c) op cm d re nx nu ed se) := dc_rel d re nx nu ed se hr
  obtain ⟨hW, hS, ⟨ha, hc, hRa, hTc⟩, ho, hf⟩ := hr
  by_cases h0 : dc_R g = 0
  · have e : nI (dc_R g) = 0 := by rw [h0]; exact nI_0
    exact br_t e (br_t e ⟨rfl, J⟩)
  · have e : ¬ nI (dc_R g) = 0 := nI_ne0 (by omega) (by omega)
    have e1 : nI (dc_R g) - 1 = nI (dc_R g - 1) := by
      obtain ⟨q, hq⟩ : ∃ q, dc_R g = q + 1 := ⟨dc_R g - 1, by omega⟩
      rw [hq, nI_pred]; rfl
    refine br_f e (nm_r e1 (br_f e (nm_r e1 ⟨rfl, ?_⟩)))
    refine dc_rel (g := dc_gR g (dc_R g - 1)) (op := 0) (cm := 0) d re nx nu ed se ⟨⟨⟨?_, hW.1.2⟩, hW.2⟩, hS, ⟨ha, hc, ?_, hTc⟩, fun z => absurd rfl z, fun z => absurd rfl z⟩
    · show dc_R g - 1 ≤ 12
      omega
    · show dc_R g - 1 ≤ a
      omega
/-! ===== what only reads ===== -/
theorem i_vc_tokenCount {k : Nat} {u : SX} {v : SY} (I : i_Rel k u v) (hk : k + 5 ≤ 2562) : wpX_tokenCount (fun r => wpY_tokenCount (fun r' => r' = r ∧ i_Rel (k + 5) u v) v) u := by
  have J : i_Rel (k + 5) u v := I
  obtain ⟨g, a, c, op, cm, sy, ag, f, d, re, nx, nu, ed, se, rfl, rfl, hr⟩ := I
  exact ⟨rfl, J⟩
theorem dc_lo3 {x : Int32} {n : Nat} {A B : Prop} (hn : n < 2 ^ 31) (h : x < 0 ∨ nI n ≤ x) (a : A) : (x < 0 → A) ∧ (¬ x < 0 → ((x < nI n → B) ∧ (¬ x < nI n → A))) :=
  br_c (fun _ => a) (fun z => br_f (Int32.not_lt.mpr (h.resolve_left z)) a)
theorem dc_in3 {j n : Nat} {A B : Prop} (hn : n < 2 ^ 31) (h : j < n) (b : B) : (nI j < 0 → A) ∧ (¬ nI j < 0 → ((nI j < nI n → B) ∧ (¬ nI j < nI n → A))) :=
  br_f (nI_pos (by omega)) (br_t (nI_lt h hn) b)
theorem i_vc_token {k : Nat} {u : SX} {v : SY} (I : i_Rel k u v) (hk : k + 5 ≤ 2562) (v1 : Int32) : wpX_token (fun r => wpY_token (fun r' => r' = r ∧ i_Rel (k + 5) u v) v v1) u v1 := by
  have J : i_Rel (k + 5) u v := I
  obtain ⟨g, a, c, op, cm, sy, ag, f, d, re, nx, nu, ed, se, rfl, rfl, hr⟩ := I
  have hT := dc_W_T hr.1
  unfold wpX_token
  dsimp only
  refine dc_x_wc (n := dc_T g) (by omega) (fun i hi ei => ?_) (fun hb => ?_)
  · subst ei
    have hin : vp_in (nI i) 8 := vp_in_nI (by omega) (by omega)
    exact br_f (by decide) ⟨hin, dc_in3 (by omega) hi ⟨hin, rfl, J⟩⟩
  · exact br_t rfl (dc_lo3 (by omega) hb ⟨rfl, J⟩)
theorem i_vc_ruleHead {k : Nat} {u : SX} {v : SY} (I : i_Rel k u v) (hk : k + 5 ≤ 2562) (v1 : Int32) : wpX_ruleHead (fun r => wpY_ruleHead (fun r' => r' = r ∧ i_Rel (k + 5) u v) v v1) u v1 := by
  have J : i_Rel (k + 5) u v := I
  obtain ⟨g, a, c, op, cm, sy, ag, f, d, re, nx, nu, ed, se, rfl, rfl, hr⟩ := I
  have hR := dc_W_R hr.1
  unfold wpX_ruleHead
  dsimp only
  refine dc_x_wc (n := dc_R g) (by omega) (fun i hi ei => ?_) (fun hb => ?_)
  · subst ei
    have hin : vp_in (nI i) 12 := vp_in_nI (by omega) (by omega)
    refine br_f (by decide) ⟨hin, hin, nm_e (br_c (fun h0 => ?_) (fun h0 => br_c (fun h1 => ?_) (fun h1 => ?_)))⟩
    · exact dc_in3 (by omega) hi ⟨hin, hin, nm_e (br_t h0 ⟨rfl, J⟩)⟩
    · exact dc_in3 (by omega) hi ⟨hin, hin, nm_e (br_f h0 (br_t h1 (nm_e ⟨rfl, J⟩)))⟩
    · exact dc_in3 (by omega) hi ⟨hin, hin, nm_e (br_f h0 (br_f h1 ⟨rfl, J⟩))⟩
  · exact br_t rfl (dc_lo3 (by omega) hb ⟨rfl, J⟩)
theorem i_vc_item {k : Nat} {u : SX} {v : SY} (I : i_Rel k u v) (hk : k + 5 ≤ 2562) (v1 : Int32) (v2 : Int32) : wpX_item (fun r => wpY_item (fun r' => r' = r ∧ i_Rel (k + 5) u v) v v1 v2) u v1 v2 := by
  have J : i_Rel (k + 5) u v := I
  obtain ⟨g, a, c, op, cm, sy, ag, f, d, re, nx, nu, ed, se, rfl, rfl, hr⟩ := I
  obtain ⟨hW, hS, _⟩ := hr
  have hR := dc_W_R hW
  unfold wpX_item
  dsimp only
  refine dc_x_wc (n := dc_R g) (by omega) (fun r hr er => ?_) (fun hb => ?_)
  · subst er
    have hB := dc_W_bl hW r
    have hin : vp_in (nI r) 12 := vp_in_nI (by omega) (by omega)
    have hge : ¬ nI (dc_R g) ≤ nI r := nI_ge hr (by omega)
    have eb : dc_BL g (nI r).toNatClampNeg = nI (dc_bl g r) := dc_at (dc_BL g) (by omega)
    refine br_f (by decide) ⟨hin, ?_⟩
    rw [eb]
    refine dc_x_wc (n := dc_bl g r) (by omega) (fun i hi ei => ?_) (fun hb => ?_)
    · subst ei
      have hq : r * 6 + i < 72 := by omega
      have hin2 : vp_in (nI (r * 6 + i)) 72 := vp_in_nI hq (by omega)
      have hlt : nI i < dc_BL g (nI r).toNatClampNeg := by rw [eb]; exact nI_lt hi (by omega)
      have ek : dc_KD g (nI (r * 6 + i)).toNatClampNeg = nI (dc_kd g (r * 6 + i)) := dc_at (dc_KD g) (by omega)
      have es : dc_SM g (nI (r * 6 + i)).toNatClampNeg = nI (dc_sy g (r * 6 + i)) := dc_at (dc_SM g) (by omega)
      have ea : dc_AG g (nI (r * 6 + i)).toNatClampNeg = nI (dc_ag g (r * 6 + i)) := dc_at (dc_AG g) (by omega)
      have es2 : dc_kd g (r * 6 + i) ≠ 2 → sy (nI (r * 6 + i)).toNatClampNeg = nI (dc_sy g (r * 6 + i)) := fun z => by rw [nI_clamp (by omega)]; exact hS.1 _ z
      have ea2 : dc_kd g (r * 6 + i) = 1 → ag (nI (r * 6 + i)).toNatClampNeg = nI (dc_ag g (r * 6 + i)) := fun z => by rw [nI_clamp (by omega)]; exact hS.2 _ z
      have hkd := dc_W_kd hW (r * 6 + i)
      have hY : ∀ post : Int32 → Prop, ((dc_KD g (nI (r * 6 + i)).toNatClampNeg = 0 → post (dc_SM g (nI (r * 6 + i)).toNatClampNeg)) ∧ (¬ dc_KD g (nI (r * 6 + i)).toNatClampNeg = 0 → ((dc_KD g (nI (r * 6 + i)).toNatClampNeg = 1 → post ((256 + dc_SM g (nI (r * 6 + i)).toNatClampNeg * 8) + dc_AG g (nI (r * 6 + i)).toNatClampNeg)) ∧ (¬ dc_KD g (nI (r * 6 + i)).toNatClampNeg = 1 → post 512)))) → wpY_item post (dc_y g (nI a) (nI c) op cm d re nx nu ed se) (nI r) (nI i) := by
        intro post hp
        refine br_f (nI_pos (by omega)) (br_f hge (br_f (nI_pos (by omega)) ⟨hin, br_t hlt (nm_r (dc_i6 r i) ⟨hin2, br_c (fun z => ⟨hin2, hp.1 z⟩) (fun z => ⟨hin2, br_c (fun z1 => ⟨hin2, hin2, (hp.2 z).1 z1⟩) (fun z1 => (hp.2 z).2 z1)⟩)⟩)⟩))
      refine br_f (by decide) (nm_r (dc_i6 r i) ⟨hin2, nm_r ek ?_⟩)
      refine pk_eq (dc_kd g (r * 6 + i)) 0 (fun h0 => ?_) (fun h0 => pk_eq (dc_kd g (r * 6 + i)) 1 (fun h1 => ?_) (fun h1 => ?_))
      · have z0 : dc_KD g (nI (r * 6 + i)).toNatClampNeg = 0 := by rw [ek, h0]; exact nI_0
        exact ⟨hin2, hY _ (br_t z0 ⟨by rw [es, es2 (by omega)], J⟩)⟩
      · have z0 : ¬ dc_KD g (nI (r * 6 + i)).toNatClampNeg = 0 := by rw [ek, h1]; decide
        have z1 : dc_KD g (nI (r * 6 + i)).toNatClampNeg = 1 := by rw [ek, h1]; rfl
        exact ⟨hin2, hin2, hY _ (br_f z0 (br_t z1 ⟨by rw [es, es2 (by omega), ea, ea2 h1], J⟩))⟩
      · have h2 : dc_kd g (r * 6 + i) = 2 := by omega
        have z0 : ¬ dc_KD g (nI (r * 6 + i)).toNatClampNeg = 0 := by rw [ek, h2]; decide
        have z1 : ¬ dc_KD g (nI (r * 6 + i)).toNatClampNeg = 1 := by rw [ek, h2]; decide
        exact hY _ (br_f z0 (br_f z1 ⟨rfl, J⟩))
    · refine br_t rfl (br_f (nI_pos (by omega)) (br_f hge (br_c (fun _ => ⟨rfl, J⟩) (fun z => ⟨hin, br_f ?_ ⟨rfl, J⟩⟩))))
      rw [eb]
      exact Int32.not_lt.mpr (hb.resolve_left z)
  · refine br_t rfl (br_c (fun _ => ⟨rfl, J⟩) (fun z => br_t (hb.resolve_left z) ⟨rfl, J⟩))
end
section
/-! ===== addItem ===== -/
/-- the item (kind, a, b) is one, and in the grammar it is (kk, s, b) -/
def dc_gi (p0 p1 p2 : Int32) (kk s b : Nat) : Prop := p0 = nI kk ∧ ((kk = 0 ∧ s < 16 ∧ p1 = nI s ∧ b = 0) ∨ (kk = 1 ∧ s < 6 ∧ b < 6 ∧ p1 = nI s ∧ p2 = nI b) ∨ (kk = 2 ∧ s = 0 ∧ b = 0))
def dc_bi (p0 p1 p2 : Int32) : Prop := (p0 = 0 ∧ (p1 < 0 ∨ nI 16 ≤ p1)) ∨ (p0 = 1 ∧ (p1 < 0 ∨ nI 6 ≤ p1)) ∨ (p0 = 1 ∧ (∃ m, m < 6 ∧ p1 = nI m) ∧ (p2 < 0 ∨ nI 6 ≤ p2)) ∨ (p0 < 0 ∨ nI 3 ≤ p0)
theorem dc_gbi (p0 p1 p2 : Int32) : (∃ kk s b, dc_gi p0 p1 p2 kk s b) ∨ dc_bi p0 p1 p2 := by
  rcases pk_ix p0 (n := 3) (by omega) with h | h | ⟨kk, hk, rfl⟩
  · exact Or.inr (Or.inr (Or.inr (Or.inr (Or.inl h))))
  · exact Or.inr (Or.inr (Or.inr (Or.inr (Or.inr h))))
  · have hc : kk = 0 ∨ kk = 1 ∨ kk = 2 := by omega
    rcases hc with rfl | rfl | rfl
    · rcases pk_ix p1 (n := 16) (by omega) with h | h | ⟨s, hs, rfl⟩
      · exact Or.inr (Or.inl ⟨rfl, Or.inl h⟩)
      · exact Or.inr (Or.inl ⟨rfl, Or.inr h⟩)
      · exact Or.inl ⟨0, s, 0, rfl, Or.inl ⟨rfl, hs, rfl, rfl⟩⟩
    · rcases pk_ix p1 (n := 6) (by omega) with h | h | ⟨s, hs, rfl⟩
      · exact Or.inr (Or.inr (Or.inl ⟨rfl, Or.inl h⟩))
      · exact Or.inr (Or.inr (Or.inl ⟨rfl, Or.inr h⟩))
      · rcases pk_ix p2 (n := 6) (by omega) with h | h | ⟨b, hb, rfl⟩
        · exact Or.inr (Or.inr (Or.inr (Or.inl ⟨rfl, ⟨s, hs, rfl⟩, Or.inl h⟩)))
        · exact Or.inr (Or.inr (Or.inr (Or.inl ⟨rfl, ⟨s, hs, rfl⟩, Or.inr h⟩)))
        · exact Or.inl ⟨1, s, b, rfl, Or.inr (Or.inl ⟨rfl, hs, hb, rfl, rfl⟩)⟩
    · exact Or.inl ⟨2, 0, 0, rfl, Or.inr (Or.inr ⟨rfl, rfl, rfl⟩)⟩
theorem dc_ii1 {post : Int32 → Prop} {p0 p1 p2 : Int32} {kk s b : Nat} (h : dc_gi p0 p1 p2 kk s b) (hp : post 1) : wpX_isItem post p0 p1 p2 := by
  obtain ⟨rfl, ⟨rfl, hs, rfl, _⟩ | ⟨rfl, hs, hb, rfl, rfl⟩ | ⟨rfl, _, _⟩⟩ := h
  · exact br_t nI_0 (dc_x_wi (n := 16) (by omega) (Or.inl ⟨s, hs, rfl, rfl, hp⟩))
  · exact br_f (by decide) (br_t rfl (dc_x_wi (n := 6) (by omega) (Or.inl ⟨s, hs, rfl, br_f (by decide) (dc_x_wi (n := 6) (by omega) (Or.inl ⟨b, hb, rfl, br_f (by decide) hp⟩))⟩)))
  · exact br_f (by decide) (br_f (by decide) (br_t rfl hp))
theorem dc_b012 {p0 : Int32} (h : p0 < 0 ∨ nI 3 ≤ p0) : ¬ p0 = 0 ∧ ¬ p0 = 1 ∧ ¬ p0 = 2 := by
  refine ⟨?_, ?_, ?_⟩ <;> (intro e; subst e; revert h; decide)
theorem dc_ii0 {post : Int32 → Prop} {p0 p1 p2 : Int32} (h : dc_bi p0 p1 p2) (hp : post 0) : wpX_isItem post p0 p1 p2 := by
  rcases h with ⟨rfl, h⟩ | ⟨rfl, h⟩ | ⟨rfl, ⟨m, hm, rfl⟩, h⟩ | h
  · exact br_t rfl (dc_x_wi (n := 16) (by omega) (Or.inr ⟨h, rfl, hp⟩))
  · exact br_f (by decide) (br_t rfl (dc_x_wi (n := 6) (by omega) (Or.inr ⟨h, br_t rfl hp⟩)))
  · exact br_f (by decide) (br_t rfl (dc_x_wi (n := 6) (by omega) (Or.inl ⟨m, hm, rfl, br_f (by decide) (dc_x_wi (n := 6) (by omega) (Or.inr ⟨h, br_t rfl hp⟩))⟩)))
  · obtain ⟨h0, h1, h2⟩ := dc_b012 h
    exact br_f h0 (br_f h1 (br_f h2 hp))
def dc_gA (g : dc_G) (r kk s b : Nat) : dc_G := ((dc_R g, dc_T g), dc_hn g, dc_ha g, dc_un (dc_bl g) r (dc_bl g r + 1), dc_un (dc_kd g) (r * 6 + dc_bl g r) kk, dc_un (dc_sy g) (r * 6 + dc_bl g r) s, dc_un (dc_ag g) (r * 6 + dc_bl g r) b, dc_tk g)
theorem dc_gA_W {g : dc_G} (hW : dc_W g) {r kk s b : Nat} {p0 p1 p2 : Int32} (h : dc_gi p0 p1 p2 kk s b) (hb : dc_bl g r < 6) : dc_W (dc_gA g r kk s b) := by
  have h3 : kk < 3 ∧ s < 16 ∧ b < 6 ∧ (kk = 1 → s < 6) := by
    obtain ⟨_, ⟨h1, h2, _, h4⟩ | ⟨h1, h2, h4, _⟩ | ⟨h1, h2, h4⟩⟩ := h <;> omega
  refine ⟨hW.1, hW.2.1, hW.2.2.1, ?_, dc_un_lt (dc_W_kd hW) h3.1, dc_un_lt (dc_W_sy hW) h3.2.1, ?_, dc_un_lt (dc_W_ag hW) h3.2.2.1, hW.2.2.2.2.2.2.2.2⟩
  · intro q
    show dc_un (dc_bl g) r (dc_bl g r + 1) q ≤ 6
    have := dc_un_lt (f := dc_bl g) (k := r) (x := dc_bl g r + 1) (n := 7) (fun r => by have := dc_W_bl hW r; omega) (by omega) q
    omega
  · intro q
    show dc_un (dc_kd g) (r * 6 + dc_bl g r) kk q = 1 → dc_un (dc_sy g) (r * 6 + dc_bl g r) s q < 6
    by_cases e : q = r * 6 + dc_bl g r
    · subst e; rw [dc_un_s, dc_un_s]; exact h3.2.2.2
    · rw [dc_un_n e, dc_un_n e]; exact dc_W_s1 hW
theorem dc_gA_S {g : dc_G} {sy ag : Nat → Int32} (hS : dc_HS g sy ag) {r kk s b : Nat} {p0 p1 p2 : Int32} (h : dc_gi p0 p1 p2 kk s b) : dc_HS (dc_gA g r kk s b) (upd sy (r * 6 + dc_bl g r) p1) (upd ag (r * 6 + dc_bl g r) p2) := by
  constructor
  · intro q
    show dc_un (dc_kd g) (r * 6 + dc_bl g r) kk q ≠ 2 → _ = nI (dc_un (dc_sy g) (r * 6 + dc_bl g r) s q)
    by_cases e : q = r * 6 + dc_bl g r
    · subst e
      rw [dc_un_s, dc_un_s, pk_us]
      intro hk
      obtain ⟨_, ⟨h1, h2, h3, h4⟩ | ⟨h1, h2, h4, h3, _⟩ | ⟨h1, h2, h4⟩⟩ := h
      · exact h3
      · exact h3
      · exact absurd h1 hk
    · rw [dc_un_n e, dc_un_n e, pk_un e]; exact hS.1 q
  · intro q
    show dc_un (dc_kd g) (r * 6 + dc_bl g r) kk q = 1 → _ = nI (dc_un (dc_ag g) (r * 6 + dc_bl g r) b q)
    by_cases e : q = r * 6 + dc_bl g r
    · subst e
      rw [dc_un_s, dc_un_s, pk_us]
      intro hk
      obtain ⟨_, ⟨h1, h2, h3, h4⟩ | ⟨h1, h2, h4, h3, h5⟩ | ⟨h1, h2, h4⟩⟩ := h
      · omega
      · exact h5
      · omega
    · rw [dc_un_n e, dc_un_n e, pk_un e]; exact hS.2 q
section
variable {g : dc_G} {rc tc op cm : Int32} {sy ag f d re nx nu ed se : Nat → Int32}
theorem dc_y_ai139 (hW : dc_W g) {post : Int32 → SY → Prop} {r q : Nat} {z : Int32} {kd it ib : Nat → Int32} (hr : r < 12) (hq : q < 72) (h : post 1 (rc, tc, nI (dc_R g), nI (dc_T g), op, cm, dc_HN g, dc_HA g, (fun r' => nI (dc_un (dc_bl g) r (dc_bl g r + 1) r')), kd, it, upd ib q z, dc_TK g, d, re, nx, nu, ed, se)) : wY_addItem_139 post (nI r) z (nI q) rc tc (nI (dc_R g)) (nI (dc_T g)) op cm (dc_HN g) (dc_HA g) (dc_BL g) kd it ib (dc_TK g) d re nx nu ed se := by
  have hB := dc_W_bl hW r
  have hin : vp_in (nI r) 12 := vp_in_nI hr (by omega)
  refine ⟨vp_in_nI hq (by omega), nm_r (e' := upd ib q z) (by rw [nI_clamp (by omega)]) ⟨hin, hin, nm_r (e' := fun r' => nI (dc_un (dc_bl g) r (dc_bl g r + 1) r')) ?_ h⟩⟩
  rw [nI_clamp (show r < 2 ^ 31 by omega)]
  show upd (dc_BL g) r (nI (dc_bl g r) + 1) = _
  rw [nI_1]
  exact dc_un_u _ _ _
theorem dc_y_ai83 (hW : dc_W g) {post : Int32 → SY → Prop} {r kk s b : Nat} {p0 p1 p2 : Int32} (hg : dc_gi p0 p1 p2 kk s b) (hr : r < 12) (hb : dc_bl g r < 6) (h : post 1 (dc_y (dc_gA g r kk s b) rc tc op cm d re nx nu ed se)) : wY_addItem_83 post p0 p1 p2 (nI r) rc tc (nI (dc_R g)) (nI (dc_T g)) op cm (dc_HN g) (dc_HA g) (dc_BL g) (dc_KD g) (dc_SM g) (dc_AG g) (dc_TK g) d re nx nu ed se := by
  have hq : r * 6 + dc_bl g r < 72 := by omega
  have hin : vp_in (nI r) 12 := vp_in_nI hr (by omega)
  have hin2 : vp_in (nI (r * 6 + dc_bl g r)) 72 := vp_in_nI hq (by omega)
  have e5 : nI r * 6 + dc_BL g (nI r).toNatClampNeg = nI (r * 6 + dc_bl g r) := by
    rw [dc_at (dc_BL g) (show r < 2 ^ 31 by omega)]; exact dc_i6 _ _
  have hcl : (nI (r * 6 + dc_bl g r)).toNatClampNeg = r * 6 + dc_bl g r := nI_clamp (by omega)
  have ek : upd (dc_KD g) (nI (r * 6 + dc_bl g r)).toNatClampNeg p0 = dc_KD (dc_gA g r kk s b) := by rw [hcl, hg.1]; exact dc_un_u _ _ _
  refine ⟨hin, nm_r e5 ⟨hin2, nm_r ek ?_⟩⟩
  have h' : ∀ (z1 z2 : Int32), z1 = nI s → z2 = nI b → ((p0 = 1 → z2 = p2) ∧ (¬ p0 = 1 → z2 = 0)) → wY_addItem_122 post p0 p2 (nI r) (nI (r * 6 + dc_bl g r)) z1 (nI (r * 6 + dc_bl g r)) rc tc (nI (dc_R g)) (nI (dc_T g)) op cm (dc_HN g) (dc_HA g) (dc_BL g) (dc_KD (dc_gA g r kk s b)) (dc_SM g) (dc_AG g) (dc_TK g) d re nx nu ed se := by
    intro z1 z2 e1 e2 hz
    subst e1
    have es : upd (dc_SM g) (nI (r * 6 + dc_bl g r)).toNatClampNeg (nI s) = dc_SM (dc_gA g r kk s b) := by rw [hcl]; exact dc_un_u _ _ _
    have eg : upd (dc_AG g) (r * 6 + dc_bl g r) z2 = dc_AG (dc_gA g r kk s b) := by rw [e2]; exact dc_un_u _ _ _
    have go : ∀ z, z = z2 → wY_addItem_139 post (nI r) z (nI (r * 6 + dc_bl g r)) rc tc (nI (dc_R g)) (nI (dc_T g)) op cm (dc_HN g) (dc_HA g) (dc_BL g) (dc_KD (dc_gA g r kk s b)) (dc_SM (dc_gA g r kk s b)) (dc_AG g) (dc_TK g) d re nx nu ed se := by
      intro z ez
      subst ez
      refine dc_y_ai139 hW hr hq ?_
      rw [eg]
      exact h
    exact ⟨hin2, nm_r es (br_c (fun y => go p2 (hz.1 y).symm) (fun y => go 0 (hz.2 y).symm))⟩
  obtain ⟨rfl, ⟨rfl, hs, rfl, rfl⟩ | ⟨rfl, hs, hb2, rfl, rfl⟩ | ⟨rfl, rfl, rfl⟩⟩ := hg
  · exact br_f (by decide) (h' _ 0 rfl rfl ⟨fun y => absurd y (by decide), fun _ => rfl⟩)
  · exact br_f (by decide) (h' _ (nI b) rfl rfl ⟨fun _ => rfl, fun y => absurd rfl y⟩)
  · exact br_t rfl (h' 0 0 rfl rfl ⟨fun y => absurd y (by decide), fun _ => rfl⟩)
theorem dc_y_ai1 (hW : dc_W g) {post : Int32 → SY → Prop} {r kk s b : Nat} {p0 p1 p2 : Int32} (hg : dc_gi p0 p1 p2 kk s b) (hr : r < 12) (hR : dc_R g = r + 1) (ho : ¬ op = 0) (hb : dc_bl g r < 6) (h : post 1 (dc_y (dc_gA g r kk s b) rc tc op cm d re nx nu ed se)) : wpY_addItem post (dc_y g rc tc op cm d re nx nu ed se) p0 p1 p2 := by
  have e1 : nI (dc_R g) - 1 = nI r := by rw [hR]; exact nI_pred r
  have h83 := dc_y_ai83 (rc := rc) (tc := tc) (op := op) (cm := cm) hW hg hr hb h
  refine br_f ho (nm_r e1 ⟨vp_in_nI hr (by omega), pk_lt (dc_bl g r) 6 (fun _ => ?_) (fun z => absurd hb (by omega)) (dc_at (dc_BL g) (by omega))⟩)
  obtain ⟨rfl, ⟨rfl, hs, rfl, rfl⟩ | ⟨rfl, hs, hb2, rfl, rfl⟩ | ⟨rfl, rfl, rfl⟩⟩ := hg
  · exact dc_in2 (n := 2) (by omega) (by omega) (br_t rfl (dc_in2 (n := 15) (by omega) hs (br_f (by decide) h83)))
  · exact dc_in2 (n := 2) (by omega) (by omega) (br_f (by decide) (br_t rfl (dc_in1 (n := 5) (by omega) hs (dc_in2 (n := 5) (by omega) hb2 h83))))
  · exact dc_in2 (n := 2) (by omega) (by omega) (br_f (by decide) (br_f (by decide) h83))
theorem dc_y_ai0 {post : Int32 → SY → Prop} {r : Nat} {p0 p1 p2 : Int32} (hr : r < 12) (hR : dc_R g = r + 1) (ho : ¬ op = 0) (hW : dc_W g) (hb : 6 ≤ dc_bl g r ∨ dc_bi p0 p1 p2) (h : post 0 (dc_y g rc tc op cm d re nx nu ed se)) : wpY_addItem post (dc_y g rc tc op cm d re nx nu ed se) p0 p1 p2 := by
  have e1 : nI (dc_R g) - 1 = nI r := by rw [hR]; exact nI_pred r
  have hB := dc_W_bl hW r
  refine br_f ho (nm_r e1 ⟨vp_in_nI hr (by omega), pk_lt (dc_bl g r) 6 (fun z => ?_) (fun z => h) (dc_at (dc_BL g) (by omega))⟩)
  rcases hb with hb | hb
  · omega
  · rcases hb with ⟨rfl, hb⟩ | ⟨rfl, hb⟩ | ⟨rfl, ⟨m, hm, rfl⟩, hb⟩ | hb
    · exact dc_in2 (j := 0) (n := 2) (by omega) (by omega) (br_t rfl (dc_lo2 (n := 15) (by omega) hb h))
    · exact dc_in2 (j := 1) (n := 2) (by omega) (by omega) (br_f (by decide) (br_t rfl (dc_lo1 (n := 5) (by omega) hb h)))
    · exact dc_in2 (j := 1) (n := 2) (by omega) (by omega) (br_f (by decide) (br_t rfl (dc_in1 (n := 5) (by omega) hm (dc_lo2 (n := 5) (by omega) hb h))))
    · exact dc_lo2 (n := 2) (by omega) hb h
end
theorem i_vc_addItem {k : Nat} {u : SX} {v : SY} (I : i_Rel k u v) (hk : k + 5 ≤ 2562) (v1 : Int32) (v2 : Int32) (v3 : Int32) : wpX_addItem (fun r u' => wpY_addItem (fun r' v' => r' = r ∧ i_Rel (k + 5) u' v') v v1 v2 v3) u v1 v2 v3 := by
  obtain ⟨g, a, c, op, cm, sy, ag, f, d, re, nx, nu, ed, se, rfl, rfl, hr⟩ := I
  have J : i_Rel (k + 5) (dc_x g (nI a) (nI c) op cm sy ag f) (dc_y g (nI a) (nI c) op cm d re nx nu ed se) := dc_rel d re nx nu ed se hr
  obtain ⟨hW, hS, hac, ho, hf⟩ := hr
  by_cases h0 : op = 0
  · exact br_t h0 (br_t h0 ⟨rfl, J⟩)
  · obtain ⟨hR1, hcm⟩ := ho h0
    have hR12 := dc_W_R hW
    obtain ⟨r, hR⟩ : ∃ r, dc_R g = r + 1 := ⟨dc_R g - 1, by omega⟩
    have hr12 : r < 12 := by omega
    have hB := dc_W_bl hW r
    have e1 : nI (dc_R g) - 1 = nI r := by rw [hR]; exact nI_pred r
    have hin : vp_in (nI r) 12 := vp_in_nI hr12 (by omega)
    unfold wpX_addItem
    dsimp only
    rw [e1]
    refine br_f h0 ⟨hin, pk_lt (dc_bl g r) 6 (fun hb => ?_) (fun hb => ?_) (dc_at (dc_BL g) (by omega))⟩
    · rcases dc_gbi v1 v2 v3 with ⟨kk, s, b, hg⟩ | hbi
      · have hq : r * 6 + dc_bl g r < 72 := by omega
        have hin2 : vp_in (nI (r * 6 + dc_bl g r)) 72 := vp_in_nI hq (by omega)
        have e5 : nI r * 6 + dc_BL g (nI r).toNatClampNeg = nI (r * 6 + dc_bl g r) := by
          rw [dc_at (dc_BL g) (show r < 2 ^ 31 by omega)]; exact dc_i6 _ _
        have hcl : (nI (r * 6 + dc_bl g r)).toNatClampNeg = r * 6 + dc_bl g r := nI_clamp (by omega)
        have ek : upd (dc_KD g) (nI (r * 6 + dc_bl g r)).toNatClampNeg v1 = dc_KD (dc_gA g r kk s b) := by rw [hcl, hg.1]; exact dc_un_u _ _ _
        have es : upd sy (nI (r * 6 + dc_bl g r)).toNatClampNeg v2 = upd sy (r * 6 + dc_bl g r) v2 := by rw [hcl]
        have ea : upd ag (nI (r * 6 + dc_bl g r)).toNatClampNeg v3 = upd ag (r * 6 + dc_bl g r) v3 := by rw [hcl]
        have eb : upd (dc_BL g) (nI r).toNatClampNeg (dc_BL g (nI r).toNatClampNeg + 1) = dc_BL (dc_gA g r kk s b) := by
          rw [nI_clamp (show r < 2 ^ 31 by omega)]
          show upd (dc_BL g) r (nI (dc_bl g r) + 1) = _
          rw [nI_1]
          exact dc_un_u _ _ _
        refine dc_ii1 hg (br_f (by decide) (nm_e ⟨hin, nm_r e5 ⟨hin2, nm_r ek ⟨hin2, nm_r es ⟨hin2, nm_r ea ⟨hin, hin, nm_r eb ?_⟩⟩⟩⟩⟩))
        refine dc_y_ai1 hW hg hr12 hR h0 hb ⟨rfl, ?_⟩
        exact dc_rel (g := dc_gA g r kk s b) d re nx nu ed se ⟨dc_gA_W hW hg hb, dc_gA_S hS hg, hac, fun _ => ⟨hR1, hcm⟩, fun z => absurd hcm z⟩
      · exact dc_ii0 hbi (br_t rfl (dc_y_ai0 hr12 hR h0 hW (Or.inr hbi) ⟨rfl, J⟩))
    · exact dc_y_ai0 hr12 hR h0 hW (Or.inl hb) ⟨rfl, J⟩
end
section
section
variable {g : dc_G} {rc tc op cm : Int32} {sy ag f d re nx nu ed se : Nat → Int32}
/-! ===== compile ===== -/
theorem dc_x_co20 (hW : dc_W g) (hS : dc_HS g sy ag) {post : Int32 → SX → Prop} (h3 : (∃ m, m < 6 ∧ dc_L g m m) → post 3 (dc_x g rc tc op cm sy ag f)) (h0 : (∀ m, m < 6 → ¬ dc_L g m m) → ∀ f', dc_FX g f' → post 0 (dc_x g rc tc op 1 sy ag f')) : ∀ n m, m ≤ 6 → 6 - m < n → (∀ m', m' < m → ¬ dc_L g m' m') → wX_compile_20 post rc tc (nI (dc_R g)) op cm (nI (dc_T g)) (dc_HN g) (dc_HA g) (dc_BL g) (dc_KD g) sy ag (dc_TK g) f n (nI m) := by
  intro n
  induction n with
  | zero => intro m h1 h2; omega
  | succ n ih =>
    intro m hm hn hno
    refine pk_le 6 m (fun h1 => ?_) (fun h1 => ?_)
    · have e : m = 6 := by omega
      subst e
      exact dc_x_ds (cm := 1) hW hS (fun f' hf' => h0 hno f' (hf' (by decide)))
    · refine dc_x_lc hW hS h1 (fun b hb => dc_if (dc_bo_0 hb) (fun h2 => ?_) (fun h2 => ?_))
      · refine nm_r (nI_1 m) (ih (m + 1) (by omega) (by omega) ?_)
        intro m' hm'
        by_cases e : m' = m
        · rw [e]; exact h2
        · exact hno m' (by omega)
      · exact h3 ⟨m, h1, Classical.not_not.mp h2⟩
theorem dc_y_co28 (hW : dc_W g) (hed : dc_is ed 36 (dc_es g (dc_R g) 0)) {post : Int32 → SY → Prop} (h3 : (∃ m, m < 6 ∧ dc_L g m m) → ∀ se, post 3 (dc_y g rc tc op cm d re nx nu ed se)) (h0 : (∀ m, m < 6 → ¬ dc_L g m m) → ∀ se, post 0 (dc_y g rc tc op 1 d re nx nu ed se)) : ∀ n m se, m ≤ 6 → 6 - m < n → (∀ m', m' < m → ¬ dc_L g m' m') → wY_compile_28 post n (nI m) rc tc (nI (dc_R g)) (nI (dc_T g)) op cm (dc_HN g) (dc_HA g) (dc_BL g) (dc_KD g) (dc_SM g) (dc_AG g) (dc_TK g) d re nx nu ed se := by
  intro n
  induction n with
  | zero => intro m se h1 h2; omega
  | succ n ih =>
    intro m se hm hn hno
    refine pk_le 6 m (fun h1 => ?_) (fun h1 => ?_)
    · have e : m = 6 := by omega
      subst e
      exact h0 hno se
    · refine dc_y_cf hW hed h1 (fun b se' hb => dc_if (dc_bo_0 hb) (fun h2 => ?_) (fun h2 => ?_))
      · refine nm_r (nI_1 m) (ih (m + 1) se' (by omega) (by omega) ?_)
        intro m' hm'
        by_cases e : m' = m
        · rw [e]; exact h2
        · exact hno m' (by omega)
      · exact h3 ⟨m, h1, Classical.not_not.mp h2⟩ se'
end
theorem i_vc_compile {k : Nat} {u : SX} {v : SY} (I : i_Rel k u v) (hk : k + 5 ≤ 2562) : wpX_compile (fun r u' => wpY_compile (fun r' v' => r' = r ∧ i_Rel (k + 5) u' v') v) u := by
  obtain ⟨g, a, c, op, cm, sy, ag, f, d, re, nx, nu, ed, se, rfl, rfl, hr⟩ := I
  have J : ∀ d re nx nu ed se, i_Rel (k + 5) (dc_x g (nI a) (nI c) op cm sy ag f) (dc_y g (nI a) (nI c) op cm d re nx nu ed se) := fun d re nx nu ed se => dc_rel d re nx nu ed se hr
  obtain ⟨hW, hS, hac, ho, hf⟩ := hr
  have hR12 := dc_W_R hW
  by_cases h0 : op = 0
  · by_cases hR : dc_R g = 0
    · have e : nI (dc_R g) = 0 := by rw [hR]; exact nI_0
      exact br_t h0 (br_t e (br_t h0 (br_t e ⟨rfl, J _ _ _ _ _ _⟩)))
    · have e : ¬ nI (dc_R g) = 0 := nI_ne0 (by omega) (by omega)
      have hY : ∀ post : Int32 → SY → Prop, ((∃ m, m < 6 ∧ dc_L g m m) → ∀ nu ed se, post 3 (dc_y g (nI a) (nI c) op cm d re nx nu ed se)) → ((∀ m, m < 6 → ¬ dc_L g m m) → ∀ nu ed se, post 0 (dc_y g (nI a) (nI c) op 1 d re nx nu ed se)) → wpY_compile post (dc_y g (nI a) (nI c) op cm d re nx nu ed se) := by
        intro post h3 h4
        refine br_t h0 (br_f e (dc_y_cn hW (fun nu' hnu => dc_y_ce hW hnu (fun ed' hed => ⟨7, ?_⟩))))
        exact dc_y_co28 hW hed (fun hz se' => h3 hz nu' ed' se') (fun hz se' => h4 hz nu' ed' se') 7 0 se (by omega) (by omega) (fun m' hm' => by omega)
      refine br_t h0 (br_f e ⟨7, dc_x_co20 hW hS (fun hz => ?_) (fun hz f' hf' => ?_) 7 0 (by omega) (by omega) (fun m' hm' => by omega)⟩)
      · exact hY _ (fun _ nu ed se => ⟨rfl, J _ _ _ _ _ _⟩) (fun y => by obtain ⟨m, h1, h2⟩ := hz; exact absurd h2 (y m h1))
      · refine hY _ (fun ⟨m, h1, h2⟩ => absurd h2 (hz m h1)) (fun _ nu ed se => ⟨rfl, ?_⟩)
        exact dc_rel d re nx nu ed se ⟨hW, hS, hac, fun z => absurd h0 z, fun _ => hf'⟩
  · exact br_f h0 (br_f h0 ⟨rfl, J _ _ _ _ _ _⟩)
/-! ===== addToken, clearTokens ===== -/
def dc_gT (g : dc_G) (t : Nat) : dc_G := ((dc_R g, dc_T g + 1), dc_hn g, dc_ha g, dc_bl g, dc_kd g, dc_sy g, dc_ag g, dc_un (dc_tk g) (dc_T g) t)
theorem i_vc_addToken {k : Nat} {u : SX} {v : SY} (I : i_Rel k u v) (hk : k + 5 ≤ 2562) (v1 : Int32) : wpX_addToken (fun r u' => wpY_addToken (fun r' v' => r' = r ∧ i_Rel (k + 5) u' v') v v1) u v1 := by
  obtain ⟨g, a, c, op, cm, sy, ag, f, d, re, nx, nu, ed, se, rfl, rfl, hr⟩ := I
  have J : i_Rel (k + 5) (dc_x g (nI a) (nI c) op cm sy ag f) (dc_y g (nI a) (nI c) op cm d re nx nu ed se) := dc_rel d re nx nu ed se hr
  obtain ⟨hW, hS, ⟨ha, hc, hRa, hTc⟩, ho, hf⟩ := hr
  unfold wpX_addToken
  dsimp only
  refine dc_x_wc (n := 16) (by omega) (fun t ht et => ?_) (fun hb => ?_)
  · subst et
    refine br_f (by decide) ?_
    by_cases hT : dc_T g = c
    · have hn : ¬ nI (dc_T g) < nI c := nI_nlt (by omega) (by omega)
      have he : nI (dc_T g) = nI c := by rw [hT]
      exact br_f hn (dc_in2 (n := 15) (by omega) ht (br_t he ⟨rfl, J⟩))
    · have hn : nI (dc_T g) < nI c := nI_lt (by omega) (by omega)
      have he : ¬ nI (dc_T g) = nI c := fun z => hT ((nI_eq (by omega) (by omega)).mp z)
      have hi : vp_in (nI (dc_T g)) 8 := vp_in_nI (by omega) (by omega)
      have e1 : upd (dc_TK g) (nI (dc_T g)).toNatClampNeg (nI t) = dc_TK (dc_gT g t) := by rw [nI_clamp (by omega)]; exact dc_un_u _ _ _
      have hW' : dc_W (dc_gT g t) := by
        refine ⟨⟨hW.1.1, ?_⟩, hW.2.1, hW.2.2.1, hW.2.2.2.1, hW.2.2.2.2.1, hW.2.2.2.2.2.1, hW.2.2.2.2.2.2.1, hW.2.2.2.2.2.2.2.1, dc_un_lt (dc_W_tk hW) ht⟩
        show dc_T g + 1 ≤ 8
        omega
      have hS' : dc_HS (dc_gT g t) sy ag := hS
      refine br_t hn ⟨hi, nm_r e1 (nm_r (nI_1 _) ?_)⟩
      refine dc_x_ds (g := dc_gT g t) hW' hS' (fun f' hf' => ?_)
      refine dc_in2 (n := 15) (by omega) ht (br_f he ⟨hi, nm_r e1 (nm_r (nI_1 _) ⟨rfl, ?_⟩)⟩)
      refine dc_rel (g := dc_gT g t) d re nx nu ed se ⟨hW', hS', ⟨ha, hc, hRa, ?_⟩, ho, hf'⟩
      show dc_T g + 1 ≤ c
      omega
  · exact br_t rfl (dc_lo2 (n := 15) (by omega) hb ⟨rfl, J⟩)
def dc_gC (g : dc_G) : dc_G := ((dc_R g, 0), dc_hn g, dc_ha g, dc_bl g, dc_kd g, dc_sy g, dc_ag g, dc_tk g)
theorem i_vc_clearTokens {k : Nat} {u : SX} {v : SY} (I : i_Rel k u v) (hk : k + 5 ≤ 2562) : wpX_clearTokens (fun u' => wpY_clearTokens (fun v' => i_Rel (k + 5) u' v') v) u := by
  obtain ⟨g, a, c, op, cm, sy, ag, f, d, re, nx, nu, ed, se, rfl, rfl, hr⟩ := I
  obtain ⟨hW, hS, ⟨ha, hc, hRa, hTc⟩, ho, hf⟩ := hr
  have hW' : dc_W (dc_gC g) := ⟨⟨hW.1.1, Nat.zero_le 8⟩, hW.2⟩
  have hS' : dc_HS (dc_gC g) sy ag := hS
  unfold wpX_clearTokens
  dsimp only
  refine dc_x_ds (g := dc_gC g) hW' hS' (fun f' hf' => ?_)
  exact dc_rel (k := k + 5) (g := dc_gC g) (op := op) (cm := cm) (sy := sy) (ag := ag) (f := f') d re nx nu ed se ⟨hW', hS', ⟨ha, hc, hRa, Nat.zero_le c⟩, ho, hf'⟩
/-! ===== onLeftCycle ===== -/
theorem i_vc_onLeftCycle {k : Nat} {u : SX} {v : SY} (I : i_Rel k u v) (hk : k + 5 ≤ 2562) (v1 : Int32) : wpX_onLeftCycle (fun r => wpY_onLeftCycle (fun r' v' => r' = r ∧ i_Rel (k + 5) u v') v v1) u v1 := by
  obtain ⟨g, a, c, op, cm, sy, ag, f, d, re, nx, nu, ed, se, rfl, rfl, hr⟩ := I
  have J : ∀ d re nx nu ed se, i_Rel (k + 5) (dc_x g (nI a) (nI c) op cm sy ag f) (dc_y g (nI a) (nI c) op cm d re nx nu ed se) := fun d re nx nu ed se => dc_rel d re nx nu ed se hr
  obtain ⟨hW, hS, hac, ho, hf⟩ := hr
  rcases pk_ix v1 (n := 6) (by omega) with h | h | ⟨m, hm, rfl⟩
  · unfold wpX_onLeftCycle
    dsimp only
    exact dc_x_wi (n := 6) (by omega) (Or.inr ⟨Or.inl h, br_t rfl (dc_lo2 (n := 5) (by omega) (Or.inl h) ⟨rfl, J _ _ _ _ _ _⟩)⟩)
  · unfold wpX_onLeftCycle
    dsimp only
    exact dc_x_wi (n := 6) (by omega) (Or.inr ⟨Or.inr h, br_t rfl (dc_lo2 (n := 5) (by omega) (Or.inr h) ⟨rfl, J _ _ _ _ _ _⟩)⟩)
  · refine dc_x_lc hW hS hm (fun b hb => dc_in2 (n := 5) (by omega) hm (dc_y_cn hW (fun nu' hnu => dc_y_ce hW hnu (fun ed' hed => dc_y_cf hW hed hm (fun b' se' hb' => ⟨dc_nar01 (dc_bo_01 hb'), dc_bo_u hb' hb, J _ _ _ _ _ _⟩)))))
end
section
/-- a span that is not refused -/
def dc_go (g : dc_G) (cm p0 p1 p2 p3 : Int32) : Prop := ¬ cm = 0 ∧ ∃ m v i j, m < 6 ∧ v < 4 ∧ i ≤ j ∧ j ≤ dc_T g ∧ p0 = nI m ∧ p1 = nI v ∧ p2 = nI i ∧ p3 = nI j
theorem dc_up {x : Int32} {n : Nat} (hn : n < 2 ^ 31) (h0 : ¬ x < 0) (h1 : x ≤ nI n) : ∃ j, j ≤ n ∧ x = nI j := by
  obtain ⟨j, hj, rfl⟩ := nI_of h0
  exact ⟨j, (nI_leI hj hn).mp h1, rfl⟩
theorem dc_ij {g : dc_G} (hW : dc_W g) {p2 p3 : Int32} (h2 : ¬ p2 < 0) (h3 : ¬ p3 < p2) (h4 : p3 ≤ nI (dc_T g)) : ∃ i j, i ≤ j ∧ j ≤ dc_T g ∧ p2 = nI i ∧ p3 = nI j := by
  have hT := dc_W_T hW
  have h5 : p2 ≤ p3 := Int32.not_lt.mp h3
  have h6 : ¬ p3 < 0 := by
    rw [Int32.lt_iff_toInt_lt] at h2 ⊢
    rw [Int32.le_iff_toInt_le] at h5
    omega
  obtain ⟨j, hj, rfl⟩ := dc_up (by omega) h6 h4
  obtain ⟨i, hi, rfl⟩ := dc_up (by omega) h2 h5
  exact ⟨i, j, hi, hj, rfl, rfl⟩
theorem dc_go_x {g : dc_G} {cm p0 p1 p2 p3 : Int32} (h : p0 < 0 ∨ nI 6 ≤ p0) : ¬ dc_go g cm p0 p1 p2 p3 := by
  intro ⟨_, m, v, i, j, hm, hv, hij, hjT, e0, e1, e2, e3⟩
  subst e0
  exact h.elim (nI_pos (by omega)) (nI_ge hm (by omega))
theorem dc_go_v {g : dc_G} {cm p0 p1 p2 p3 : Int32} (h : p1 < 0 ∨ nI 4 ≤ p1) : ¬ dc_go g cm p0 p1 p2 p3 := by
  intro ⟨_, m, v, i, j, hm, hv, hij, hjT, e0, e1, e2, e3⟩
  subst e1
  exact h.elim (nI_pos (by omega)) (nI_ge hv (by omega))
theorem dc_go_ij {g : dc_G} (hW : dc_W g) {cm p0 p1 p2 p3 : Int32} (h : p2 < 0 ∨ p3 < p2 ∨ ¬ p3 ≤ nI (dc_T g)) : ¬ dc_go g cm p0 p1 p2 p3 := by
  have hT := dc_W_T hW
  intro ⟨_, m, v, i, j, hm, hv, hij, hjT, e0, e1, e2, e3⟩
  subst e2 e3
  rcases h with h | h | h
  · exact nI_pos (by omega) h
  · rw [nI_ltI (by omega) (by omega)] at h; omega
  · rw [nI_leI (by omega) (by omega)] at h; omega
section
variable {g : dc_G} {rc tc op cm : Int32} {sy ag f d re nx nu ed se : Nat → Int32}
theorem dc_x_rf (hW : dc_W g) {post : Int32 → Prop} {p0 p1 p2 p3 : Int32} (h1 : ¬ dc_go g cm p0 p1 p2 p3 → post 1) (h0 : ∀ m v i j, ¬ cm = 0 → m < 6 → v < 4 → i ≤ j → j ≤ dc_T g → p0 = nI m → p1 = nI v → p2 = nI i → p3 = nI j → post 0) : wpX_isRefused post (dc_x g rc tc op cm sy ag f) p0 p1 p2 p3 := by
  refine br_c (fun z => h1 (fun y => y.1 z)) (fun hcm => ?_)
  refine dc_x_wc (n := 6) (by omega) (fun m hm em => br_f (by decide) ?_) (fun hb => br_t rfl (h1 (dc_go_x hb)))
  refine dc_x_wc (n := 4) (by omega) (fun v hv ev => br_f (by decide) ?_) (fun hb => br_t rfl (h1 (dc_go_v hb)))
  refine br_c (fun z => h1 (dc_go_ij hW (Or.inl z))) (fun i0 => br_c (fun z => h1 (dc_go_ij hW (Or.inr (Or.inl z)))) (fun ij => br_c (fun jT => ?_) (fun z => h1 (dc_go_ij hW (Or.inr (Or.inr z))))))
  obtain ⟨i, j, hij, hj, ei, ej⟩ := dc_ij hW i0 ij jT
  exact h0 m v i j hcm hm hv hij hj em ev ei ej
theorem dc_y_so0 (hW : dc_W g) {post : Int32 → Prop} {p0 p1 p2 p3 : Int32} (hn : ¬ dc_go g cm p0 p1 p2 p3) (h : post 0) : wpY_spanOk post (dc_y g rc tc op cm d re nx nu ed se) p0 p1 p2 p3 := by
  refine br_c (fun _ => h) (fun hcm => br_c (fun _ => h) (fun x0 => br_c (fun _ => h) (fun x5 => br_c (fun _ => h) (fun v0 => br_c (fun v3 => br_c (fun _ => h) (fun i0 => br_c (fun _ => h) (fun ij => br_c (fun _ => h) (fun jT => ?_)))) (fun _ => h)))))
  obtain ⟨i, j, hij, hj, ei, ej⟩ := dc_ij hW i0 ij (Int32.not_lt.mp jT)
  obtain ⟨m, hm, em⟩ := dc_up (n := 5) (by omega) x0 (Int32.not_lt.mp x5)
  obtain ⟨v, hv, ev⟩ := dc_up (n := 3) (by omega) v0 v3
  exact absurd ⟨hcm, m, v, i, j, by omega, by omega, hij, hj, em, ev, ei, ej⟩ hn
theorem dc_y_so1 (hW : dc_W g) {post : Int32 → Prop} {m v i j : Nat} (hcm : ¬ cm = 0) (hm : m < 6) (hv : v < 4) (hij : i ≤ j) (hj : j ≤ dc_T g) (h : post 1) : wpY_spanOk post (dc_y g rc tc op cm d re nx nu ed se) (nI m) (nI v) (nI i) (nI j) := by
  have hT := dc_W_T hW
  exact br_f hcm (dc_in1 (n := 5) (by omega) hm (dc_in2 (n := 3) (by omega) hv (br_f (nI_pos (by omega)) (br_f (nI_nlt hij (by omega)) (br_f (nI_nlt hj (by omega)) h)))))
end
theorem i_vc_prove {k : Nat} {u : SX} {v : SY} (I : i_Rel k u v) (hk : k + 5 ≤ 2562) (v1 : Int32) (v2 : Int32) (v3 : Int32) (v4 : Int32) : wpX_prove (fun r => wpY_prove (fun r' v' => r' = r ∧ i_Rel (k + 5) u v') v v1 v2 v3 v4) u v1 v2 v3 v4 := by
  obtain ⟨g, a, c, op, cm, sy, ag, f, d, re, nx, nu, ed, se, rfl, rfl, hr⟩ := I
  have J : ∀ d re nx nu ed se, i_Rel (k + 5) (dc_x g (nI a) (nI c) op cm sy ag f) (dc_y g (nI a) (nI c) op cm d re nx nu ed se) := fun d re nx nu ed se => dc_rel d re nx nu ed se hr
  obtain ⟨hW, hS, hac, ho, hf⟩ := hr
  have hT := dc_W_T hW
  unfold wpX_prove
  dsimp only
  refine dc_x_rf hW (fun hn => br_f (by decide) ?_) (fun m v i j hcm hm hv hij hj e1 e2 e3 e4 => br_t rfl ?_)
  · unfold wpY_prove
    dsimp only
    exact dc_y_so0 hW hn (br_t rfl ⟨rfl, J _ _ _ _ _ _⟩)
  · subst e1 e2 e3 e4
    have hF := hf hcm m v i j hm hv (by omega)
    have hY : ∀ post : Int32 → SY → Prop, (∀ d' re' nx', (dc_D g m v i j → post 1 (dc_y g (nI a) (nI c) op cm d' re' nx' nu ed se)) ∧ (¬ dc_D g m v i j → post 0 (dc_y g (nI a) (nI c) op cm d' re' nx' nu ed se))) → wpY_prove post (dc_y g (nI a) (nI c) op cm d re nx nu ed se) (nI m) (nI v) (nI i) (nI j) := by
      intro post hp
      unfold wpY_prove
      dsimp only
      refine dc_y_so1 hW hcm hm hv hij hj (br_f (by decide) (dc_y_bc hW (fun d' re' nx' hF' => dc_y_ix ⟨vp_in_nI (by omega) (by omega), ?_⟩)))
      rw [nI_clamp (show ((m * 4 + v) * 9 + i) * 9 + j < 2 ^ 31 by omega)]
      have hD := hF' m v i j hm hv (by omega) (by omega)
      exact br_c (fun z => (hp d' re' nx').2 (fun y => (hD.mpr y) z)) (fun z => (hp d' re' nx').1 (hD.mp z))
    have ec : (nI m * 4 + nI v) * 9 + nI i = nI ((m * 4 + v) * 9 + i) := dc_i9 _ _ _
    unfold wpX_spanCell
    rw [ec]
    refine ⟨vp_in_nI (by omega) (by omega), ?_⟩
    rw [nI_clamp (show (m * 4 + v) * 9 + i < 2 ^ 31 by omega)]
    refine dc_if ((dc_hbit (p := j) (by omega) _).trans hF) (fun h => ?_) (fun h => ?_)
    · exact hY _ (fun d' re' nx' => ⟨fun _ => ⟨rfl, J _ _ _ _ _ _⟩, fun z => absurd h z⟩)
    · exact hY _ (fun d' re' nx' => ⟨fun z => absurd z h, fun _ => ⟨rfl, J _ _ _ _ _ _⟩⟩)
/-! ===== answerMask ===== -/
section
variable {g : dc_G} {rc tc op cm : Int32} {sy ag f d re nx nu ed se : Nat → Int32}
def dc_am (g : dc_G) (m v j : Nat) : Prop := ∃ q, q < v ∧ (j = q ∧ dc_D g m q 0 (dc_T g))
theorem dc_x_am (hW : dc_W g) (hF : dc_FX g f) {post : Int32 → Prop} {m : Nat} (hm : m < 6) (h : ∀ w, (∀ j, dc_h w j ↔ dc_am g m 4 j) → post w) : ∀ n v w, v ≤ 4 → 4 - v < n → (∀ j, dc_h w j ↔ dc_am g m v j) → wX_answerMask_23 post (nI m) rc tc (nI (dc_R g)) op cm (nI (dc_T g)) (dc_HN g) (dc_HA g) (dc_BL g) (dc_KD g) sy ag (dc_TK g) f n w (nI v) := by
  have hT := dc_W_T hW
  intro n
  induction n with
  | zero => intro v w h1 h2; omega
  | succ n ih =>
    intro v w hv hn hw
    refine pk_le 4 v (fun h1 => ?_) (fun h1 => ?_)
    · have e : v = 4 := by omega
      subst e
      exact h w hw
    · have ec : (nI m * 4 + nI v) * 9 + 0 = nI ((m * 4 + v) * 9 + 0) := dc_i9 m v 0
      unfold wpX_spanCell
      rw [ec]
      refine ⟨vp_in_nI (by omega) (by omega), nm_e (nm_r (nI_1 v) (ih (v + 1) _ (by omega) (by omega) ?_))⟩
      intro j
      rw [dc_hor, dc_hbv (by omega) (by omega), hw, nI_clamp (show (m * 4 + v) * 9 + 0 < 2 ^ 31 by omega), hF m v 0 (dc_T g) hm h1 (by omega)]
      exact dc_exy Iff.rfl
theorem dc_y_am (hW : dc_W g) (hF : dc_FY g d) {post : Int32 → SY → Prop} {m : Nat} (hm : m < 6) (h : ∀ w, (∀ j, dc_h w j ↔ dc_am g m 4 j) → post w (dc_y g rc tc op cm d re nx nu ed se)) : ∀ n v w, v ≤ 4 → 4 - v < n → (∀ j, dc_h w j ↔ dc_am g m v j) → wY_answerMask_27 post (nI m) rc tc (nI (dc_R g)) (nI (dc_T g)) op cm (dc_HN g) (dc_HA g) (dc_BL g) (dc_KD g) (dc_SM g) (dc_AG g) (dc_TK g) d re nx nu ed se n w (nI v) := by
  have hT := dc_W_T hW
  intro n
  induction n with
  | zero => intro v w h1 h2; omega
  | succ n ih =>
    intro v w hv hn hw
    refine pk_le 4 v (fun h1 => ?_) (fun h1 => ?_)
    · have e : v = 4 := by omega
      subst e
      exact h w hw
    · refine dc_y_ix (i := 0) ⟨vp_in_nI (by omega) (by omega), ?_⟩
      rw [nI_clamp (show ((m * 4 + v) * 9 + 0) * 9 + dc_T g < 2 ^ 31 by omega)]
      have hD := hF m v 0 (dc_T g) hm h1 (by omega) (by omega)
      refine br_c (fun z => ?_) (fun z => ?_)
      · refine nm_r (nI_1 v) (ih (v + 1) w (by omega) (by omega) ?_)
        intro j
        rw [hw]
        exact dc_exn (fun y => (hD.mpr y.2) z)
      · refine nm_e (nm_r (nI_1 v) (ih (v + 1) _ (by omega) (by omega) ?_))
        have hd : ∀ j, dc_h w j → ¬ dc_h ((1 : Int32) <<< (nI v &&& 31)) j := by
          intro j hj
          rw [dc_hone (by omega)]
          obtain ⟨q, h2, h3, _⟩ := (hw j).mp hj
          omega
        intro j
        rw [dc_addor hd, dc_hor, dc_hone (by omega), hw]
        exact dc_exy ⟨fun y => y.1, fun y => ⟨y, hD.mp z⟩⟩
end
theorem i_vc_answerMask {k : Nat} {u : SX} {v : SY} (I : i_Rel k u v) (hk : k + 5 ≤ 2562) (v1 : Int32) : wpX_answerMask (fun r => wpY_answerMask (fun r' v' => r' = r ∧ i_Rel (k + 5) u v') v v1) u v1 := by
  obtain ⟨g, a, c, op, cm, sy, ag, f, d, re, nx, nu, ed, se, rfl, rfl, hr⟩ := I
  have J : ∀ d re nx nu ed se, i_Rel (k + 5) (dc_x g (nI a) (nI c) op cm sy ag f) (dc_y g (nI a) (nI c) op cm d re nx nu ed se) := fun d re nx nu ed se => dc_rel d re nx nu ed se hr
  obtain ⟨hW, hS, hac, ho, hf⟩ := hr
  refine br_c (fun hcm => br_t hcm ⟨rfl, J _ _ _ _ _ _⟩) (fun hcm => ?_)
  refine dc_x_wc (n := 6) (by omega) (fun m hm em => br_f (by decide) ?_) (fun hb => br_t rfl (br_f hcm (dc_lo2 (n := 5) (by omega) hb ⟨rfl, J _ _ _ _ _ _⟩)))
  subst em
  refine ⟨5, dc_x_am hW (hf hcm) hm (fun w hw => ?_) 5 0 0 (by omega) (by omega) (fun j => dc_h00 j)⟩
  refine br_f hcm (dc_in2 (n := 5) (by omega) hm (dc_y_bc hW (fun d' re' nx' hF' => ⟨5, dc_y_am hW hF' hm (fun w' hw' => ?_) 5 0 0 (by omega) (by omega) (fun j => dc_h00 j)⟩)))
  exact ⟨dc_hext (fun j => (hw' j).trans (hw j).symm), J _ _ _ _ _ _⟩
/-! ===== endMask ===== -/
section
variable {g : dc_G} {rc tc op cm : Int32} {sy ag f d re nx nu ed se : Nat → Int32}
theorem dc_y_em (hW : dc_W g) (hF : dc_FY g d) {post : Int32 → SY → Prop} {m v i : Nat} (hm : m < 6) (hv : v < 4) (hi : i ≤ dc_T g) (h : ∀ w, (∀ j, dc_h w j ↔ dc_D g m v i j) → post w (dc_y g rc tc op cm d re nx nu ed se)) : ∀ n j w, i ≤ j → j ≤ dc_T g + 1 → dc_T g + 1 - j < n → (∀ j', dc_h w j' ↔ ∃ q, q < j ∧ (j' = q ∧ dc_D g m v i q)) → wY_endMask_50 post (nI m) (nI v) (nI i) rc tc (nI (dc_R g)) (nI (dc_T g)) op cm (dc_HN g) (dc_HA g) (dc_BL g) (dc_KD g) (dc_SM g) (dc_AG g) (dc_TK g) d re nx nu ed se n w (nI j) := by
  have hT := dc_W_T hW
  intro n
  induction n with
  | zero => intro j w h0 h1 h2; omega
  | succ n ih =>
    intro j w hij hj hn hw
    refine pk_lt (dc_T g) j (fun h1 => ?_) (fun h1 => ?_)
    · refine h w (fun j' => ?_)
      rw [hw]
      constructor
      · intro ⟨q, h2, h3, h4⟩
        rw [h3]; exact h4
      · intro z
        have := dc_D_in hW z
        exact ⟨j', by omega, rfl, z⟩
    · refine dc_y_ix ⟨vp_in_nI (by omega) (by omega), ?_⟩
      rw [nI_clamp (show ((m * 4 + v) * 9 + i) * 9 + j < 2 ^ 31 by omega)]
      have hD := hF m v i j hm hv (by omega) (by omega)
      refine br_c (fun z => ?_) (fun z => ?_)
      · refine nm_r (nI_1 j) (ih (j + 1) w (by omega) (by omega) (by omega) ?_)
        intro j'
        rw [hw]
        exact dc_exn (fun y => (hD.mpr y.2) z)
      · refine nm_e (nm_r (nI_1 j) (ih (j + 1) _ (by omega) (by omega) (by omega) ?_))
        have hd : ∀ j', dc_h w j' → ¬ dc_h ((1 : Int32) <<< (nI j &&& 31)) j' := by
          intro j' hj'
          rw [dc_hone (by omega)]
          obtain ⟨q, h2, h3, _⟩ := (hw j').mp hj'
          omega
        intro j'
        rw [dc_addor hd, dc_hor, dc_hone (by omega), hw]
        exact dc_exy ⟨fun y => y.1, fun y => ⟨y, hD.mp z⟩⟩
theorem dc_y_em0 (hW : dc_W g) {post : Int32 → SY → Prop} {p0 p1 p2 : Int32} (hn : ¬ dc_go g cm p0 p1 p2 (nI (dc_T g))) (h : post (-2) (dc_y g rc tc op cm d re nx nu ed se)) : wpY_endMask post (dc_y g rc tc op cm d re nx nu ed se) p0 p1 p2 := by
  have hT := dc_W_T hW
  refine br_c (fun _ => h) (fun hcm => br_c (fun _ => h) (fun x0 => br_c (fun _ => h) (fun x5 => br_c (fun _ => h) (fun v0 => br_c (fun _ => h) (fun v3 => br_c (fun _ => h) (fun i0 => br_c (fun iT => ?_) (fun _ => h)))))))
  obtain ⟨i, hi, ei⟩ := dc_up (by omega) i0 iT
  obtain ⟨m, hm, em⟩ := dc_up (n := 5) (by omega) x0 (Int32.not_lt.mp x5)
  obtain ⟨v, hv, ev⟩ := dc_up (n := 3) (by omega) v0 (Int32.not_lt.mp v3)
  exact absurd ⟨hcm, m, v, i, dc_T g, by omega, by omega, hi, Nat.le_refl _, em, ev, ei, rfl⟩ hn
end
theorem i_vc_endMask {k : Nat} {u : SX} {v : SY} (I : i_Rel k u v) (hk : k + 5 ≤ 2562) (v1 : Int32) (v2 : Int32) (v3 : Int32) : wpX_endMask (fun r => wpY_endMask (fun r' v' => r' = r ∧ i_Rel (k + 5) u v') v v1 v2 v3) u v1 v2 v3 := by
  obtain ⟨g, a, c, op, cm, sy, ag, f, d, re, nx, nu, ed, se, rfl, rfl, hr⟩ := I
  have J : ∀ d re nx nu ed se, i_Rel (k + 5) (dc_x g (nI a) (nI c) op cm sy ag f) (dc_y g (nI a) (nI c) op cm d re nx nu ed se) := fun d re nx nu ed se => dc_rel d re nx nu ed se hr
  obtain ⟨hW, hS, hac, ho, hf⟩ := hr
  have hT := dc_W_T hW
  unfold wpX_endMask
  dsimp only
  refine dc_x_rf hW (fun hn => br_f (by decide) (dc_y_em0 hW hn ⟨rfl, J _ _ _ _ _ _⟩)) (fun m v i j hcm hm hv hij hj e1 e2 e3 e4 => br_t rfl ?_)
  subst e1 e2 e3
  have hi : i ≤ dc_T g := by omega
  have ec : (nI m * 4 + nI v) * 9 + nI i = nI ((m * 4 + v) * 9 + i) := dc_i9 _ _ _
  unfold wpX_spanCell
  rw [ec]
  refine ⟨vp_in_nI (by omega) (by omega), ?_⟩
  rw [nI_clamp (show (m * 4 + v) * 9 + i < 2 ^ 31 by omega)]
  refine br_f hcm (dc_in1 (n := 5) (by omega) hm (dc_in1 (n := 3) (by omega) hv (br_f (nI_pos (by omega)) (br_t (nI_le hi (by omega)) (dc_y_bc hW (fun d' re' nx' hF' => ⟨dc_T g + 2, dc_y_em hW hF' hm hv hi (fun w hw => ?_) _ i 0 (Nat.le_refl i) (by omega) (by omega) ?_⟩))))))
  · exact ⟨dc_hext (fun j' => (hw j').trans (hf hcm m v i j' hm hv (by omega)).symm), J _ _ _ _ _ _⟩
  · intro j'
    refine ⟨fun z => absurd z (dc_h0 j'), fun ⟨q, h1, h2, h3⟩ => ?_⟩
    have := dc_D_in hW h3
    omega
/-! ===== firstRule ===== -/
/-- rule r is one of m that gives v from i to j -/
def dc_rm (g : dc_G) (m v i j r : Nat) : Prop := dc_hn g r = m ∧ dc_rd g (dc_D g) r v i j
def dc_fr (g : dc_G) (m v i j : Nat) (x : Int32) : Prop := (∃ r, r < dc_R g ∧ x = nI r ∧ dc_rm g m v i j r ∧ ∀ r', r' < r → ¬ dc_rm g m v i j r') ∨ (x = -1 ∧ ∀ r, r < dc_R g → ¬ dc_rm g m v i j r)
theorem dc_fr_u {g : dc_G} {m v i j : Nat} {x y : Int32} (hx : dc_fr g m v i j x) (hy : dc_fr g m v i j y) : x = y := by
  rcases hx with ⟨r, h1, rfl, h2, h3⟩ | ⟨rfl, h1⟩ <;> rcases hy with ⟨s, k1, rfl, k2, k3⟩ | ⟨rfl, k1⟩
  · have e : r = s := by
      rcases Nat.lt_trichotomy r s with h | h | h
      · exact absurd h2 (k3 r h)
      · exact h
      · exact absurd k2 (h3 s h)
    rw [e]
  · exact absurd h2 (k1 r h1)
  · exact absurd k2 (h1 s k1)
  · rfl
section
variable {g : dc_G} {rc tc op cm : Int32} {sy ag f d re nx nu ed se : Nat → Int32}
theorem dc_x_fr (hW : dc_W g) (hS : dc_HS g sy ag) (hF : dc_FX g f) {post : Int32 → Prop} {m v i j : Nat} (hm : m < 6) (hv : v < 4) (hij : i ≤ j) (hj : j ≤ dc_T g) (h : ∀ x, dc_fr g m v i j x → post x) : ∀ n r, r ≤ dc_R g → dc_R g - r < n → (∀ r', r' < r → ¬ dc_rm g m v i j r') → wX_firstRule_18 post (nI m) (nI v) (nI i) (nI j) rc tc (nI (dc_R g)) op cm (nI (dc_T g)) (dc_HN g) (dc_HA g) (dc_BL g) (dc_KD g) sy ag (dc_TK g) f n (nI r) := by
  have hT := dc_W_T hW
  have hR := dc_W_R hW
  have hs := dc_FX_S hW hF
  intro n
  induction n with
  | zero => intro r h1 h2; omega
  | succ n ih =>
    intro r hr hn hno
    refine pk_le (dc_R g) r (fun h1 => ?_) (fun h1 => ?_)
    · have e : r = dc_R g := by omega
      subst e
      exact h _ (Or.inr ⟨rfl, hno⟩)
    · have h6 := dc_W_hn hW r
      have hsk : ¬ dc_rm g m v i j r → ∀ r', r' < r + 1 → ¬ dc_rm g m v i j r' := by
        intro hz r' hr'
        by_cases e : r' = r
        · rw [e]; exact hz
        · exact hno r' (by omega)
      refine ⟨vp_in_nI (by omega) (by omega), pk_eq (dc_hn g r) m (fun h2 => ?_) (fun h2 => ?_) (dc_at (dc_HN g) (by omega))⟩
      · refine dc_x_re hW hS (fun m v i j => (hs m v i j).mp) (by omega) hv (by omega) (fun w hw => dc_if (dc_hbit (p := j) (by omega) w) (fun h3 => ?_) (fun h3 => ?_))
        · exact h _ (Or.inl ⟨r, h1, rfl, ⟨h2, (dc_rd_c hs r v i j).mp ((hw j).mp h3)⟩, hno⟩)
        · exact nm_r (nI_1 r) (ih (r + 1) (by omega) (by omega) (hsk (fun z => h3 ((hw j).mpr ((dc_rd_c hs r v i j).mpr z.2)))))
      · exact nm_r (nI_1 r) (ih (r + 1) (by omega) (by omega) (hsk (fun z => h2 z.1)))
theorem dc_y_fr (hW : dc_W g) (hF : dc_FY g d) {post : Int32 → SY → Prop} {m v i j : Nat} (hm : m < 6) (hv : v < 4) (hij : i ≤ j) (hj : j ≤ dc_T g) (h : ∀ x re nx, dc_fr g m v i j x → post x (dc_y g rc tc op cm d re nx nu ed se)) : ∀ n r re nx, r ≤ dc_R g → dc_R g - r < n → (∀ r', r' < r → ¬ dc_rm g m v i j r') → wY_firstRule_22 post (nI m) (nI v) (nI i) (nI j) n (nI r) rc tc (nI (dc_R g)) (nI (dc_T g)) op cm (dc_HN g) (dc_HA g) (dc_BL g) (dc_KD g) (dc_SM g) (dc_AG g) (dc_TK g) d re nx nu ed se := by
  have hT := dc_W_T hW
  have hR := dc_W_R hW
  have hs := dc_FY_S hW hF
  intro n
  induction n with
  | zero => intro r re nx h1 h2; omega
  | succ n ih =>
    intro r re nx hr hn hno
    refine pk_le (dc_R g) r (fun h1 => ?_) (fun h1 => ?_)
    · have e : r = dc_R g := by omega
      subst e
      exact h _ re nx (Or.inr ⟨rfl, hno⟩)
    · have h6 := dc_W_hn hW r
      have hsk : ¬ dc_rm g m v i j r → ∀ r', r' < r + 1 → ¬ dc_rm g m v i j r' := by
        intro hz r' hr'
        by_cases e : r' = r
        · rw [e]; exact hz
        · exact hno r' (by omega)
      refine ⟨vp_in_nI (by omega) (by omega), pk_eq (dc_hn g r) m (fun h2 => ?_) (fun h2 => ?_) (dc_at (dc_HN g) (by omega))⟩
      · refine dc_y_rd hW (by omega) hv (by omega) (by omega) (fun b re' nx' hb => dc_if (dc_bo_0 hb) (fun h3 => ?_) (fun h3 => ?_))
        · exact nm_r (nI_1 r) (ih (r + 1) re' nx' (by omega) (by omega) (hsk (fun z => h3 ((dc_rd_c hs r v i j).mpr z.2))))
        · exact h _ re' nx' (Or.inl ⟨r, h1, rfl, ⟨h2, (dc_rd_c hs r v i j).mp (Classical.not_not.mp h3)⟩, hno⟩)
      · exact nm_r (nI_1 r) (ih (r + 1) re nx (by omega) (by omega) (hsk (fun z => h2 z.1)))
end
theorem i_vc_firstRule {k : Nat} {u : SX} {v : SY} (I : i_Rel k u v) (hk : k + 5 ≤ 2562) (v1 : Int32) (v2 : Int32) (v3 : Int32) (v4 : Int32) : wpX_firstRule (fun r => wpY_firstRule (fun r' v' => r' = r ∧ i_Rel (k + 5) u v') v v1 v2 v3 v4) u v1 v2 v3 v4 := by
  obtain ⟨g, a, c, op, cm, sy, ag, f, d, re, nx, nu, ed, se, rfl, rfl, hr⟩ := I
  have J : ∀ d re nx nu ed se, i_Rel (k + 5) (dc_x g (nI a) (nI c) op cm sy ag f) (dc_y g (nI a) (nI c) op cm d re nx nu ed se) := fun d re nx nu ed se => dc_rel d re nx nu ed se hr
  obtain ⟨hW, hS, hac, ho, hf⟩ := hr
  unfold wpX_firstRule
  dsimp only
  refine dc_x_rf hW (fun hn => br_f (by decide) ?_) (fun m v i j hcm hm hv hij hj e1 e2 e3 e4 => br_t rfl ?_)
  · unfold wpY_firstRule
    dsimp only
    exact dc_y_so0 hW hn (br_t rfl ⟨rfl, J _ _ _ _ _ _⟩)
  · subst e1 e2 e3 e4
    refine ⟨dc_R g + 1, dc_x_fr hW hS (hf hcm) hm hv hij hj (fun x hx => ?_) _ 0 (by omega) (by omega) (fun r' hr' => by omega)⟩
    unfold wpY_firstRule
    dsimp only
    exact dc_y_so1 hW hcm hm hv hij hj (br_f (by decide) (dc_y_bc hW (fun d' re' nx' hF' => ⟨dc_R g + 1, dc_y_fr hW hF' hm hv hij hj (fun y re2 nx2 hy => ⟨dc_fr_u hy hx, J _ _ _ _ _ _⟩) _ 0 re' nx' (by omega) (by omega) (fun r' hr' => by omega)⟩)))
end
