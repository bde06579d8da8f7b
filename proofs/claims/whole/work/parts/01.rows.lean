theorem pk_us {f : Nat → Int32} {k : Nat} {x : Int32} : upd f k x k = x := if_pos rfl
theorem pk_un {f : Nat → Int32} {k j : Nat} {x : Int32} (h : j ≠ k) : upd f k x j = f j := if_neg h
theorem pk_sub {a b : Nat} (h : b ≤ a) : nI a - nI b = nI (a - b) := by
  obtain ⟨c, rfl⟩ : ∃ c, a = c + b := ⟨a - b, by omega⟩
  rw [← nI_add, Int32.add_sub_cancel, Nat.add_sub_cancel]
theorem pk_m1 (n : Nat) : nI (n + 1) + (-1) = nI n := by
  rw [← nI_1, Int32.add_assoc, show (1 : Int32) + (-1) = 0 from rfl, Int32.add_zero]
theorem pk_mul (a b : Nat) : nI a * nI b = nI (a * b) := (Int32.ofNat_mul a b).symm
theorem pk_ix (x : Int32) {n : Nat} (hn : n < 2 ^ 31) : x < 0 ∨ nI n ≤ x ∨ ∃ j : Nat, j < n ∧ x = nI j := by
  by_cases h : x < 0
  · exact Or.inl h
  · obtain ⟨j, hj, rfl⟩ := nI_of h
    by_cases h2 : j < n
    · exact Or.inr (Or.inr ⟨j, h2, rfl⟩)
    · exact Or.inr (Or.inl (nI_le (by omega) hj))
theorem pk_le {x y : Int32} {A B : Prop} (a b : Nat) (f : a ≤ b → A) (g : b < a → B) (hx : x = nI a := by rfl) (hy : y = nI b := by rfl) (ha : a < 2 ^ 31 := by omega) (hb : b < 2 ^ 31 := by omega) : (x ≤ y → A) ∧ (¬ x ≤ y → B) := by
  subst hx hy
  rw [nI_leI ha hb]
  exact ⟨f, fun z => g (by omega)⟩
theorem pk_lt {x y : Int32} {A B : Prop} (a b : Nat) (f : a < b → A) (g : b ≤ a → B) (hx : x = nI a := by rfl) (hy : y = nI b := by rfl) (ha : a < 2 ^ 31 := by omega) (hb : b < 2 ^ 31 := by omega) : (x < y → A) ∧ (¬ x < y → B) := by
  subst hx hy
  rw [nI_ltI ha hb]
  exact ⟨f, fun z => g (by omega)⟩
theorem pk_eq {x y : Int32} {A B : Prop} (a b : Nat) (f : a = b → A) (g : a ≠ b → B) (hx : x = nI a := by rfl) (hy : y = nI b := by rfl) (ha : a < 2 ^ 31 := by omega) (hb : b < 2 ^ 31 := by omega) : (x = y → A) ∧ (¬ x = y → B) := by
  subst hx hy
  rw [nI_eq ha hb]
  exact ⟨f, g⟩
theorem pk_in {x : Int32} (n N : Nat) (h : n < N) (hx : x = nI n := by rfl) (hN : N < 2 ^ 31 := by omega) : vp_in x N := by
  subst hx
  exact vp_in_nI h hN
theorem pk_cl {x : Int32} (n : Nat) (hx : x = nI n := by rfl) (h : n < 2 ^ 31 := by omega) : x.toNatClampNeg = n := by
  subst hx
  exact nI_clamp h
theorem sb_m1 {p : Nat} (h : 0 < p) : nI p + (-1) = nI (p - 1) := by
  obtain ⟨q, rfl⟩ : ∃ q, p = q + 1 := ⟨p - 1, by omega⟩
  exact pk_m1 q
def bt (x : Int32) (i : Nat) : Bool := x.toBitVec.getLsbD i
theorem b_ext {x y : Int32} (h : ∀ i, i < 32 → bt x i = bt y i) : x = y := Int32.toBitVec_inj.mp (BitVec.eq_of_getLsbD_eq (fun i hi => h i hi))
theorem b_or (x y : Int32) (i : Nat) : bt (x ||| y) i = (bt x i || bt y i) := by unfold bt; rw [Int32.toBitVec_or, BitVec.getLsbD_or]
theorem b_and (x y : Int32) (i : Nat) : bt (x &&& y) i = (bt x i && bt y i) := by unfold bt; rw [Int32.toBitVec_and, BitVec.getLsbD_and]
theorem b_big {x : Int32} {i : Nat} (h : 32 ≤ i) : bt x i = false := BitVec.getLsbD_of_ge _ _ h
theorem b_0 (i : Nat) : bt 0 i = false := BitVec.getLsbD_zero
theorem s_l : ∀ n, n < 32 → ((nI n &&& 31).toBitVec.smod 32).toNat = n := by decide +kernel
theorem b_shl (n : Nat) (hn : n < 32) (x : Int32) {i : Nat} (hi : i < 32) : bt (x <<< (nI n &&& 31)) i = (decide (n ≤ i) && bt x (i - n)) := by
  unfold bt
  rw [Int32.toBitVec_shiftLeft]
  show (x.toBitVec <<< ((nI n &&& 31).toBitVec.smod 32).toNat).getLsbD i = _
  rw [s_l n hn, BitVec.getLsbD_shiftLeft]
  rcases Nat.lt_or_ge i n with h | h
  · simp [h, Nat.not_le.mpr h]
  · simp [hi, h, Nat.not_lt.mpr h]
theorem b_sshr (n : Nat) (hn : n < 32) (x : Int32) {i : Nat} (hi : i < 32) : bt (x >>> (nI n &&& 31)) i = if n + i < 32 then bt x (n + i) else bt x 31 := by
  unfold bt
  rw [Int32.toBitVec_shiftRight]
  show (x.toBitVec.sshiftRight ((nI n &&& 31).toBitVec.smod 32).toNat).getLsbD i = _
  rw [s_l n hn, BitVec.getLsbD_sshiftRight, BitVec.msb_eq_getLsbD_last]
  simp [hi]
def dc_h (w : Int32) (j : Nat) : Prop := bt w j = true
theorem dc_h0 (j : Nat) : ¬ dc_h 0 j := by
  unfold dc_h; rw [b_0]; exact Bool.noConfusion
theorem dc_hor (x y : Int32) (j : Nat) : dc_h (x ||| y) j ↔ (dc_h x j ∨ dc_h y j) := by
  unfold dc_h; rw [b_or]; exact Bool.or_eq_true _ _ ▸ Iff.rfl
theorem dc_hlt {w : Int32} {j : Nat} (h : dc_h w j) : j < 32 := by
  rcases Nat.lt_or_ge j 32 with h1 | h1
  · exact h1
  · unfold dc_h at h; rw [b_big h1] at h; exact Bool.noConfusion h
theorem dc_b1 : ∀ j, j < 32 → bt 1 j = decide (j = 0) := by decide +kernel
theorem dc_hone {k : Nat} (hk : k < 32) (j : Nat) : dc_h ((1 : Int32) <<< (nI k &&& 31)) j ↔ j = k := by
  rcases Nat.lt_or_ge j 32 with h1 | h1
  · unfold dc_h
    rw [b_shl k hk 1 h1, dc_b1 (j - k) (by omega)]
    simp only [Bool.and_eq_true, decide_eq_true_eq]
    omega
  · constructor
    · intro h; have := dc_hlt h; omega
    · intro h; omega
theorem dc_hext {x y : Int32} (h : ∀ j, dc_h x j ↔ dc_h y j) : x = y := by
  apply b_ext
  intro i _
  have hi := h i
  unfold dc_h at hi
  exact Bool.eq_iff_iff.mpr hi
theorem dc_hand1 (x : Int32) (j : Nat) : dc_h (x &&& 1) j ↔ (j = 0 ∧ dc_h x 0) := by
  rcases Nat.lt_or_ge j 32 with h1 | h1
  · unfold dc_h
    rw [b_and, dc_b1 j h1]
    simp only [Bool.and_eq_true, decide_eq_true_eq]
    constructor
    · intro h; obtain ⟨h2, rfl⟩ := h; exact ⟨rfl, h2⟩
    · intro h; obtain ⟨rfl, h2⟩ := h; exact ⟨h2, rfl⟩
  · constructor
    · intro h; have := dc_hlt h; omega
    · intro h; omega
theorem dc_h1 (j : Nat) : dc_h 1 j ↔ j = 0 := by
  rcases Nat.lt_or_ge j 32 with h1 | h1
  · unfold dc_h
    rw [dc_b1 j h1]
    simp only [decide_eq_true_eq]
  · constructor
    · intro h; have := dc_hlt h; omega
    · intro h; omega
theorem dc_hshr {p : Nat} (hp : p < 32) (w : Int32) : dc_h (w >>> (nI p &&& 31)) 0 ↔ dc_h w p := by
  unfold dc_h
  rw [b_sshr p hp w (by omega), if_pos (by omega)]
  exact Iff.rfl
theorem dc_hbit {p : Nat} (hp : p < 32) (w : Int32) : ((w >>> (nI p &&& 31)) &&& 1) = 1 ↔ dc_h w p := by
  constructor
  · intro h
    have h2 := (dc_hand1 (w >>> (nI p &&& 31)) 0)
    rw [h] at h2
    exact (dc_hshr hp w).mp (h2.mp ((dc_h1 0).mpr rfl)).2
  · intro h
    apply dc_hext
    intro j
    rw [dc_hand1, dc_h1, dc_hshr hp w]
    exact ⟨fun z => z.1, fun z => ⟨z, h⟩⟩
theorem dc_hbv {p v : Nat} (hp : p < 32) (hv : v < 32) (w : Int32) (j : Nat) : dc_h (((w >>> (nI p &&& 31)) &&& 1) <<< (nI v &&& 31)) j ↔ (j = v ∧ dc_h w p) := by
  by_cases hw : dc_h w p
  · rw [(dc_hbit hp w).mpr hw, dc_hone hv]
    exact ⟨fun z => ⟨z, hw⟩, fun z => z.1⟩
  · have e : ((w >>> (nI p &&& 31)) &&& 1) = 0 := by
      apply dc_hext
      intro i
      rw [dc_hand1, dc_hshr hp w]
      exact ⟨fun z => absurd z.2 hw, fun z => absurd z (dc_h0 i)⟩
    rw [e]
    constructor
    · intro z
      have hj := dc_hlt z
      unfold dc_h at z
      rw [b_shl v hv 0 hj, b_0, Bool.and_false] at z
      exact Bool.noConfusion z
    · intro z; exact absurd z.2 hw
theorem dc_addor {x y : Int32} (h : ∀ j, dc_h x j → ¬ dc_h y j) : x + y = x ||| y := by
  apply Int32.toBitVec_inj.mp
  rw [Int32.toBitVec_add, Int32.toBitVec_or]
  apply BitVec.add_eq_or_of_and_eq_zero
  apply BitVec.eq_of_getLsbD_eq
  intro i _
  rw [BitVec.getLsbD_and, BitVec.getLsbD_zero]
  have hi := h i
  unfold dc_h bt at hi
  cases hx : x.toBitVec.getLsbD i
  · rfl
  · cases hy : y.toBitVec.getLsbD i
    · rfl
    · exact absurd hy (hi hx)
