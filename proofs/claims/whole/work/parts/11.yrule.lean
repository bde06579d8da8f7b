section
variable {g : dc_G} {rc tc op cm : Int32} {d re nx nu ed se : Nat → Int32}
/-- the alternative of r that ends at k gives v from i to j -/
def dc_ad (g : dc_G) (S : dc_Q) (r v i j k : Nat) : Prop := ∃ x0 x1, x0 < 4 ∧ x1 < 4 ∧ dc_vl (dc_ha g r) x0 x1 = v ∧ dc_pl g S r x0 x1 i k j
theorem dc_ad_rd (g : dc_G) (S : dc_Q) (r v i j : Nat) : dc_rd g S r v i j ↔ ∃ k, dc_en g r k ∧ dc_ad g S r v i j k := by
  constructor
  · intro ⟨x0, x1, h0, h1, h2, k, h3, h4⟩
    exact ⟨k, h3, x0, x1, h0, h1, h2, h4⟩
  · intro ⟨k, h3, x0, x1, h0, h1, h2, h4⟩
    exact ⟨x0, x1, h0, h1, h2, k, h3, h4⟩
theorem dc_y_ad3 (hW : dc_W g) {post : Int32 → SY → Prop} {r v i j k s : Nat} (hr : r < 12) (hv : v < 4) (hi : i < 9) (hj : j < 9) (hk : k ≤ 6) (hs : s ≤ k) (hb : dc_be g r s) (hn2 : ∀ q, s ≤ q → q < k → dc_kd g (r * 6 + q) ≠ 2) (h : ∀ b re nx, dc_bo (dc_ad g (dc_SY d) r v i j k) b → post b (dc_y g rc tc op cm d re nx nu ed se)) : ∀ n a re nx, a ≤ 16 → 16 - a < n → (∀ a', a' < a → ¬ (dc_vl (dc_ha g r) (a' % 4) (a' / 4) = v ∧ dc_pl g (dc_SY d) r (a' % 4) (a' / 4) i k j)) → wY_altDerives_3 post (nI (r * 6 + s)) (nI (r * 6 + k)) (nI (dc_ha g r)) (nI v) (nI i) (nI j) n (nI a) rc tc (nI (dc_R g)) (nI (dc_T g)) op cm (dc_HN g) (dc_HA g) (dc_BL g) (dc_KD g) (dc_SM g) (dc_AG g) (dc_TK g) d re nx nu ed se := by
  intro n
  induction n with
  | zero => intro a re nx h1 h2; omega
  | succ n ih =>
    intro a re nx ha hn hno
    refine pk_le 16 a (fun h2 => ?_) (fun h2 => ?_)
    · refine h 0 re nx (dc_bo_f ?_)
      intro ⟨x0, x1, h0, h1, h3, h4⟩
      have e1 : (x1 * 4 + x0) % 4 = x0 := by omega
      have e2 : (x1 * 4 + x0) / 4 = x1 := by omega
      refine hno (x1 * 4 + x0) (by omega) ?_
      rw [e1, e2]
      exact ⟨h3, h4⟩
    · have h0 : a % 4 < 4 := by omega
      have h1 : a / 4 < 4 := by omega
      have hv4 := dc_vl4 (c := dc_ha g r) h0 h1
      have hno' : ¬ (dc_vl (dc_ha g r) (a % 4) (a / 4) = v ∧ dc_pl g (dc_SY d) r (a % 4) (a / 4) i k j) → ∀ a', a' < a + 1 → ¬ (dc_vl (dc_ha g r) (a' % 4) (a' / 4) = v ∧ dc_pl g (dc_SY d) r (a' % 4) (a' / 4) i k j) := by
        intro hz a' ha'
        by_cases e : a' = a
        · rw [e]; exact hz
        · exact hno a' (by omega)
      refine nm_r (dc_asg a h2).1 (nm_r (dc_asg a h2).2 (dc_y_vl (dc_W_ha hW r) (pk_eq (dc_vl (dc_ha g r) (a % 4) (a / 4)) v (fun h3 => ?_) (fun h3 => ?_))))
      · refine dc_y_sr hW hr h0 h1 hi hk hs hb hn2 (fun re' nx' hre' => ⟨vp_in_nI hj (by omega), ?_⟩)
        rw [nI_clamp (show j < 2 ^ 31 by omega)]
        refine dc_if (dc_bo_0 (hre' j hj)) (fun h4 => ?_) (fun h4 => ?_)
        · exact nm_r (nI_1 a) (ih (a + 1) re' nx' (by omega) (by omega) (hno' (fun z => h4 z.2)))
        · exact h 1 re' nx' (dc_bo_t ⟨a % 4, a / 4, h0, h1, h3, Classical.not_not.mp h4⟩)
      · exact nm_r (nI_1 a) (ih (a + 1) re nx (by omega) (by omega) (hno' (fun z => h3 z.1)))
theorem dc_y_ad (hW : dc_W g) {post : Int32 → SY → Prop} {r v i j k s : Nat} (hr : r < 12) (hv : v < 4) (hi : i < 9) (hj : j < 9) (hk : k ≤ 6) (hs : s ≤ k) (hb : dc_be g r s) (hn2 : ∀ q, s ≤ q → q < k → dc_kd g (r * 6 + q) ≠ 2) (h : ∀ b re nx, dc_bo (dc_ad g (dc_SY d) r v i j k) b → post b (dc_y g rc tc op cm d re nx nu ed se)) : wpY_altDerives post (dc_y g rc tc op cm d re nx nu ed se) (nI (r * 6 + s)) (nI (r * 6 + k)) (nI (dc_ha g r)) (nI v) (nI i) (nI j) :=
  ⟨17, dc_y_ad3 hW hr hv hi hj hk hs hb hn2 h 17 0 re nx (by omega) (by omega) (fun a' ha' => by omega)⟩
theorem dc_y_rd44 (hW : dc_W g) {post : Int32 → SY → Prop} {J : Int32 → Int32 → Int32 → Int32 → Int32 → Int32 → Int32 → Int32 → (Nat → Int32) → (Nat → Int32) → (Nat → Int32) → (Nat → Int32) → (Nat → Int32) → (Nat → Int32) → (Nat → Int32) → (Nat → Int32) → (Nat → Int32) → (Nat → Int32) → (Nat → Int32) → (Nat → Int32) → (Nat → Int32) → Prop} {x6 : Int32} {r v i j k s : Nat} (hr : r < 12) (hv : v < 4) (hi : i < 9) (hj : j < 9) (hs : s ≤ k) (hb : dc_be g r s) (hn2 : ∀ q, s ≤ q → q < k → dc_kd g (r * 6 + q) ≠ 2) (hen : dc_en g r k) (h1 : ∀ re nx, dc_ad g (dc_SY d) r v i j k → post 1 (dc_y g rc tc op cm d re nx nu ed se)) (hJ : ∀ re nx, ¬ dc_ad g (dc_SY d) r v i j k → J (nI (k + 1)) (nI (k + 1)) rc tc (nI (dc_R g)) (nI (dc_T g)) op cm (dc_HN g) (dc_HA g) (dc_BL g) (dc_KD g) (dc_SM g) (dc_AG g) (dc_TK g) d re nx nu ed se) : wY_ruleDerives_44 post J (nI r) (nI v) (nI i) (nI j) (nI s) x6 (nI k) rc tc (nI (dc_R g)) (nI (dc_T g)) op cm (dc_HN g) (dc_HA g) (dc_BL g) (dc_KD g) (dc_SM g) (dc_AG g) (dc_TK g) d re nx nu ed se := by
  have hB := dc_W_bl hW r
  have hk : k ≤ 6 := Nat.le_trans hen.1 hB
  refine ⟨vp_in_nI hr (by omega), ?_⟩
  rw [dc_i6, dc_i6, dc_at (dc_HA g) (show r < 2 ^ 31 by omega)]
  refine dc_y_ad hW hr hv hi hj hk hs hb hn2 (fun b re' nx' hbo => dc_if (dc_bo_0 hbo) (fun h2 => ?_) (fun h2 => ?_))
  · exact nm_r (nI_1 k) (nm_r (nI_1 k) (hJ re' nx' h2))
  · exact h1 re' nx' (Classical.not_not.mp h2)
theorem dc_y_rd14 (hW : dc_W g) {post : Int32 → SY → Prop} {r v i j : Nat} (hr : r < 12) (hv : v < 4) (hi : i < 9) (hj : j < 9) (h : ∀ b re nx, dc_bo (dc_rd g (dc_SY d) r v i j) b → post b (dc_y g rc tc op cm d re nx nu ed se)) : ∀ n k s re nx, k ≤ dc_bl g r + 1 → dc_bl g r + 1 - k < n → (k ≤ dc_bl g r → s ≤ k ∧ dc_be g r s ∧ ∀ q, s ≤ q → q < k → dc_kd g (r * 6 + q) ≠ 2) → (∀ k', k' < k → dc_en g r k' → ¬ dc_ad g (dc_SY d) r v i j k') → wY_ruleDerives_14 post (nI r) (nI v) (nI i) (nI j) (nI (dc_bl g r)) n (nI s) (nI k) rc tc (nI (dc_R g)) (nI (dc_T g)) op cm (dc_HN g) (dc_HA g) (dc_BL g) (dc_KD g) (dc_SM g) (dc_AG g) (dc_TK g) d re nx nu ed se := by
  have hB := dc_W_bl hW r
  intro n
  induction n with
  | zero => intro k s re nx h1 h2; omega
  | succ n ih =>
    intro k s re nx hk hn hs hno
    refine pk_lt (dc_bl g r) k (fun h2 => ?_) (fun h2 => ?_)
    · refine h 0 re nx (dc_bo_f ?_)
      rw [dc_ad_rd]
      intro ⟨k', he, hz⟩
      exact hno k' (Nat.lt_of_le_of_lt he.1 h2) he hz
    · obtain ⟨hs1, hs2, hs3⟩ := hs h2
      have go : dc_en g r k → (k < dc_bl g r → dc_kd g (r * 6 + k) = 2) → wY_ruleDerives_44 post (wY_ruleDerives_14 post (nI r) (nI v) (nI i) (nI j) (nI (dc_bl g r)) n) (nI r) (nI v) (nI i) (nI j) (nI s) (nI (dc_bl g r)) (nI k) rc tc (nI (dc_R g)) (nI (dc_T g)) op cm (dc_HN g) (dc_HA g) (dc_BL g) (dc_KD g) (dc_SM g) (dc_AG g) (dc_TK g) d re nx nu ed se := by
        intro he hk2
        refine dc_y_rd44 hW hr hv hi hj hs1 hs2 hs3 he (fun re' nx' hz => h 1 re' nx' (dc_bo_t ((dc_ad_rd _ _ _ _ _ _).mpr ⟨k, he, hz⟩))) (fun re' nx' hz => ih (k + 1) (k + 1) re' nx' (by omega) (by omega) ?_ ?_)
        · intro hk1
          exact ⟨Nat.le_refl _, Or.inr ⟨k, rfl, hk2 (by omega)⟩, fun q h3 h4 => by omega⟩
        · intro k' hk' he'
          by_cases e : k' = k
          · rw [e]; exact hz
          · exact hno k' (by omega) he'
      refine pk_eq k (dc_bl g r) (fun h3 => ?_) (fun h3 => ?_)
      · exact go ⟨h2, Or.inl h3⟩ (fun z => by omega)
      · have hq : r * 6 + k < 72 := by omega
        have hkd := dc_W_kd hW (r * 6 + k)
        rw [dc_i6]
        refine ⟨vp_in_nI hq (by omega), pk_eq (dc_kd g (r * 6 + k)) 2 (fun h4 => ?_) (fun h4 => ?_) (dc_at (dc_KD g) (by omega))⟩
        · exact go ⟨h2, Or.inr h4⟩ (fun _ => h4)
        · refine nm_r (nI_1 k) (ih (k + 1) s re nx (by omega) (by omega) ?_ ?_)
          · intro _
            refine ⟨by omega, hs2, fun q h5 h6 => ?_⟩
            by_cases e : q = k
            · rw [e]; exact h4
            · exact hs3 q h5 (by omega)
          · intro k' hk' he
            by_cases e : k' = k
            · subst e
              exact absurd he.2 (fun z => z.elim h3 h4)
            · exact hno k' (by omega) he
theorem dc_y_rd (hW : dc_W g) {post : Int32 → SY → Prop} {r v i j : Nat} (hr : r < 12) (hv : v < 4) (hi : i < 9) (hj : j < 9) (h : ∀ b re nx, dc_bo (dc_rd g (dc_SY d) r v i j) b → post b (dc_y g rc tc op cm d re nx nu ed se)) : wpY_ruleDerives post (dc_y g rc tc op cm d re nx nu ed se) (nI r) (nI v) (nI i) (nI j) :=
  ⟨vp_in_nI hr (by omega), nm_r (dc_at (dc_BL g) (by omega)) ⟨dc_bl g r + 2, dc_y_rd14 hW hr hv hi hj h _ 0 0 re nx (by omega) (by omega) (fun _ => ⟨Nat.le_refl 0, Or.inl rfl, fun q h3 h4 => by omega⟩) (fun k' hk' => by omega)⟩⟩
end
