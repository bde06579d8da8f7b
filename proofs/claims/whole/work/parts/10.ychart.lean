section
variable {g : dc_G} {rc tc op cm : Int32} {d re nx nu ed se : Nat → Int32}
theorem dc_y_a47 (hW : dc_W g) {post : Int32 → SY → Prop} {d0 : Nat → Int32} {r x0 x1 i k : Nat} (hr : r < dc_R g) (h0 : x0 < 4) (h1 : x1 < 4) (hi : i ≤ dc_T g) (hen : dc_en g r k) (hd0 : dc_su (dc_SY d0) (dc_D g)) (hre : dc_is re 9 (dc_pl g (dc_SY d0) r x0 x1 i k)) (h : ∀ b d', dc_pg g d0 d' b → (∀ j, dc_pl g (dc_SY d0) r x0 x1 i k j → dc_SY d' (dc_hn g r) (dc_vl (dc_ha g r) x0 x1) i j) → post b (dc_y g rc tc op cm d' re nx nu ed se)) : ∀ n j b d, j ≤ dc_T g + 1 → dc_T g + 1 - j < n → dc_pg g d0 d b → (∀ j', j' < j → dc_pl g (dc_SY d0) r x0 x1 i k j' → dc_SY d (dc_hn g r) (dc_vl (dc_ha g r) x0 x1) i j') → wY_applyFrom_47 post (nI r) (nI i) (nI (dc_vl (dc_ha g r) x0 x1)) rc tc (nI (dc_R g)) (nI (dc_T g)) op cm n b (nI j) (dc_HN g) (dc_HA g) (dc_BL g) (dc_KD g) (dc_SM g) (dc_AG g) (dc_TK g) d re nx nu ed se := by
  have hT := dc_W_T hW
  have hR := dc_W_R hW
  have h6 := dc_W_hn hW r
  have hv4 := dc_vl4 (c := dc_ha g r) h0 h1
  intro n
  induction n with
  | zero => intro j b d h1 h2; omega
  | succ n ih =>
    intro j b d hj hn hp hv
    refine pk_lt (dc_T g) j (fun h2 => ?_) (fun h2 => ?_)
    · have e : j = dc_T g + 1 := by omega
      subst e
      refine ⟨dc_nar01 (dc_pg_01 hp), h b d hp (fun j' hj' => ?_)⟩
      have := dc_pl_in hi hj'
      exact hv j' (by omega) hj'
    · refine ⟨vp_in_nI (by omega) (by omega), ?_⟩
      rw [dc_at (dc_HN g) (show r < 2 ^ 31 by omega)]
      refine dc_y_ix ⟨vp_in_nI (by omega) (by omega), ?_⟩
      rw [nI_clamp (show j < 2 ^ 31 by omega)]
      have hj9 : j < 9 := by omega
      refine dc_if (dc_bo_0 (hre j hj9)) (fun h3 => ?_) (fun h3 => ?_)
      · refine nm_r (nI_1 j) (ih (j + 1) b d (by omega) (by omega) hp ?_)
        intro j' hj' hl
        by_cases e : j' = j
        · rw [e] at hl; exact absurd hl h3
        · exact hv j' (by omega) hl
      · have hpl := Classical.not_not.mp h3
        have hD : dc_D g (dc_hn g r) (dc_vl (dc_ha g r) x0 x1) i j := dc_D_cl g r _ i j hr hi ⟨x0, x1, h0, h1, rfl, k, hen, dc_pl_mono hd0 hpl⟩
        have hc : ((dc_hn g r * 4 + dc_vl (dc_ha g r) x0 x1) * 9 + i) * 9 + j < 1944 := by omega
        refine ⟨vp_in_nI hc (by omega), ?_⟩
        rw [nI_clamp (show ((dc_hn g r * 4 + dc_vl (dc_ha g r) x0 x1) * 9 + i) * 9 + j < 2 ^ 31 by omega)]
        refine br_c (fun h4 => ?_) (fun h4 => ?_)
        · have hp1 := dc_pg_1 hp.2.1 h6 hv4 (show i < 9 by omega) hj9 h4 hD
          have hp2 := dc_pg_t hp hp1 (by decide)
          refine ⟨vp_in_nI hc (by omega), nm_r (e' := upd d (((dc_hn g r * 4 + dc_vl (dc_ha g r) x0 x1) * 9 + i) * 9 + j) 1) (by rw [dc_nb1]) (nm_r (nI_1 j) (ih (j + 1) 1 _ (by omega) (by omega) hp2 ?_))⟩
          intro j' hj' hl
          by_cases e : j' = j
          · subst e
            refine ⟨⟨h6, hv4, by omega, hj9⟩, ?_⟩
            rw [pk_us]; decide
          · exact dc_pg_su hp1 _ _ _ _ (hv j' (by omega) hl)
        · refine nm_r (nI_1 j) (ih (j + 1) b d (by omega) (by omega) hp ?_)
          intro j' hj' hl
          by_cases e : j' = j
          · subst e
            exact ⟨⟨h6, hv4, by omega, hj9⟩, h4⟩
          · exact hv j' (by omega) hl
theorem dc_y_af (hW : dc_W g) {post : Int32 → SY → Prop} {r i k s a : Nat} (hr : r < dc_R g) (hi : i ≤ dc_T g) (hk : k ≤ 6) (hs : s ≤ k) (hb : dc_be g r s) (hn2 : ∀ q, s ≤ q → q < k → dc_kd g (r * 6 + q) ≠ 2) (hen : dc_en g r k) (hd : dc_su (dc_SY d) (dc_D g)) (ha : a < 16) (h : ∀ b d' re' nx', dc_pg g d d' b → (∀ j, dc_pl g (dc_SY d) r (a % 4) (a / 4) i k j → dc_SY d' (dc_hn g r) (dc_vl (dc_ha g r) (a % 4) (a / 4)) i j) → post b (dc_y g rc tc op cm d' re' nx' nu ed se)) : wpY_applyFrom post (dc_y g rc tc op cm d re nx nu ed se) (nI r) (nI (r * 6 + s)) (nI (r * 6 + k)) (nI a) (nI i) := by
  have hT := dc_W_T hW
  have hR := dc_W_R hW
  refine nm_r (dc_asg a ha).1 (nm_r (dc_asg a ha).2 ⟨vp_in_nI (by omega) (by omega), ?_⟩)
  rw [dc_at (dc_HA g) (show r < 2 ^ 31 by omega)]
  have h0 : a % 4 < 4 := by omega
  have h1 : a / 4 < 4 := by omega
  refine dc_y_vl (dc_W_ha hW r) (dc_y_sr hW (by omega) h0 h1 (by omega) hk hs hb hn2 (fun re' nx' hre' => ⟨dc_T g + 2, dc_y_a47 hW hr h0 h1 hi hen hd hre' (fun b d' => h b d' re' nx') _ i 0 d (by omega) (by omega) (dc_pg_r hd) ?_⟩))
  intro j' hj' hl
  have := dc_pl_in hi hl
  omega
/-- what stands ahead of (a, i) in applyAlt is done -/
def dc_vt (g : dc_G) (d0 d : Nat → Int32) (r k a i : Nat) : Prop := ∀ a' i' j, a' < 16 → i' ≤ dc_T g → (a' < a ∨ (a' = a ∧ i' < i)) → dc_pl g (dc_SY d0) r (a' % 4) (a' / 4) i' k j → dc_SY d (dc_hn g r) (dc_vl (dc_ha g r) (a' % 4) (a' / 4)) i' j
theorem dc_y_aa16 (hW : dc_W g) {post : Int32 → SY → Prop} {J : Int32 → Int32 → Int32 → Int32 → Int32 → Int32 → Int32 → Int32 → (Nat → Int32) → (Nat → Int32) → (Nat → Int32) → (Nat → Int32) → (Nat → Int32) → (Nat → Int32) → (Nat → Int32) → (Nat → Int32) → (Nat → Int32) → (Nat → Int32) → (Nat → Int32) → (Nat → Int32) → (Nat → Int32) → Prop} {d0 : Nat → Int32} {r k s a : Nat} (hr : r < dc_R g) (hk : k ≤ 6) (hs : s ≤ k) (hb : dc_be g r s) (hn2 : ∀ q, s ≤ q → q < k → dc_kd g (r * 6 + q) ≠ 2) (hen : dc_en g r k) (ha : a < 16) (hJ : ∀ b d re nx, dc_pg g d0 d b → dc_vt g d0 d r k a (dc_T g + 1) → J b (nI (a + 1)) rc tc (nI (dc_R g)) (nI (dc_T g)) op cm (dc_HN g) (dc_HA g) (dc_BL g) (dc_KD g) (dc_SM g) (dc_AG g) (dc_TK g) d re nx nu ed se) : ∀ n i b d re nx, i ≤ dc_T g + 1 → dc_T g + 1 - i < n → dc_pg g d0 d b → dc_vt g d0 d r k a i → wY_applyAlt_16 post J (nI r) (nI (r * 6 + s)) (nI (r * 6 + k)) (nI a) n b (nI i) rc tc (nI (dc_R g)) (nI (dc_T g)) op cm (dc_HN g) (dc_HA g) (dc_BL g) (dc_KD g) (dc_SM g) (dc_AG g) (dc_TK g) d re nx nu ed se := by
  have hT := dc_W_T hW
  intro n
  induction n with
  | zero => intro i b d re nx h1 h2; omega
  | succ n ih =>
    intro i b d re nx hi hn hp hv
    refine pk_lt (dc_T g) i (fun h2 => ?_) (fun h2 => ?_)
    · have e : i = dc_T g + 1 := by omega
      subst e
      exact nm_r (nI_1 a) (hJ b d re nx hp hv)
    · refine dc_y_af hW hr h2 hk hs hb hn2 hen hp.2.1 ha (fun b' d' re' nx' hp' hl => ?_)
      have hv' : dc_vt g d0 d' r k a (i + 1) := by
        intro a' i' j ha' hi' hc hz
        by_cases e : a' = a ∧ i' = i
        · obtain ⟨rfl, rfl⟩ := e
          exact hl j (dc_pl_mono (dc_pg_su hp) hz)
        · exact dc_pg_su hp' _ _ _ _ (hv a' i' j ha' hi' (by omega) hz)
      refine br_c (fun e => ?_) (fun e => ?_)
      · exact nm_r (nI_1 i) (ih (i + 1) b d' re' nx' (by omega) (by omega) (dc_pg_f hp hp' e) hv')
      · exact nm_r (nI_1 i) (ih (i + 1) 1 d' re' nx' (by omega) (by omega) (dc_pg_t hp hp' e) hv')
theorem dc_y_aa6 (hW : dc_W g) {post : Int32 → SY → Prop} {d0 : Nat → Int32} {r k s : Nat} (hr : r < dc_R g) (hk : k ≤ 6) (hs : s ≤ k) (hb : dc_be g r s) (hn2 : ∀ q, s ≤ q → q < k → dc_kd g (r * 6 + q) ≠ 2) (hen : dc_en g r k) (h : ∀ b d re nx, dc_pg g d0 d b → dc_vt g d0 d r k 16 0 → post b (dc_y g rc tc op cm d re nx nu ed se)) : ∀ n a b d re nx, a ≤ 16 → 16 - a < n → dc_pg g d0 d b → dc_vt g d0 d r k a 0 → wY_applyAlt_6 post (nI r) (nI (r * 6 + s)) (nI (r * 6 + k)) n b (nI a) rc tc (nI (dc_R g)) (nI (dc_T g)) op cm (dc_HN g) (dc_HA g) (dc_BL g) (dc_KD g) (dc_SM g) (dc_AG g) (dc_TK g) d re nx nu ed se := by
  intro n
  induction n with
  | zero => intro i b d re nx h1 h2; omega
  | succ n ih =>
    intro a b d re nx ha hn hp hv
    refine pk_le 16 a (fun h2 => ?_) (fun h2 => ?_)
    · have e : a = 16 := by omega
      subst e
      exact ⟨dc_nar01 (dc_pg_01 hp), h b d re nx hp hv⟩
    · refine ⟨dc_T g + 2, dc_y_aa16 hW hr hk hs hb hn2 hen h2 (fun b' d' re' nx' hp' hv' => ih (a + 1) b' d' re' nx' (by omega) (by omega) hp' ?_) _ 0 b d re nx (by omega) (by omega) hp hv⟩
      intro a' i' j ha' hi' hc hz
      exact hv' a' i' j ha' hi' (by omega) hz
theorem dc_y_aa (hW : dc_W g) {post : Int32 → SY → Prop} {r k s : Nat} (hr : r < dc_R g) (hk : k ≤ 6) (hs : s ≤ k) (hb : dc_be g r s) (hn2 : ∀ q, s ≤ q → q < k → dc_kd g (r * 6 + q) ≠ 2) (hen : dc_en g r k) (hd : dc_su (dc_SY d) (dc_D g)) (h : ∀ b d' re' nx', dc_pg g d d' b → (∀ x0 x1 i j, x0 < 4 → x1 < 4 → i ≤ dc_T g → dc_pl g (dc_SY d) r x0 x1 i k j → dc_SY d' (dc_hn g r) (dc_vl (dc_ha g r) x0 x1) i j) → post b (dc_y g rc tc op cm d' re' nx' nu ed se)) : wpY_applyAlt post (dc_y g rc tc op cm d re nx nu ed se) (nI r) (nI (r * 6 + s)) (nI (r * 6 + k)) := by
  refine ⟨17, dc_y_aa6 hW hr hk hs hb hn2 hen (fun b d' re' nx' hp hv => h b d' re' nx' hp ?_) 17 0 0 d re nx (by omega) (by omega) (dc_pg_r hd) (fun a' i' j _ _ hc => by omega)⟩
  intro x0 x1 i j h0 h1 hi hz
  have e1 : (x1 * 4 + x0) % 4 = x0 := by omega
  have e2 : (x1 * 4 + x0) / 4 = x1 := by omega
  have := hv (x1 * 4 + x0) i j (by omega) hi (by omega)
  rw [e1, e2] at this
  exact this hz
/-- the alternatives of r that end before k are done -/
def dc_vr (g : dc_G) (d0 d : Nat → Int32) (r k : Nat) : Prop := ∀ k' x0 x1 i j, k' < k → dc_en g r k' → x0 < 4 → x1 < 4 → i ≤ dc_T g → dc_pl g (dc_SY d0) r x0 x1 i k' j → dc_SY d (dc_hn g r) (dc_vl (dc_ha g r) x0 x1) i j
theorem dc_y_ar45 (hW : dc_W g) {post : Int32 → SY → Prop} {J : Int32 → Int32 → Int32 → Int32 → Int32 → Int32 → Int32 → Int32 → Int32 → (Nat → Int32) → (Nat → Int32) → (Nat → Int32) → (Nat → Int32) → (Nat → Int32) → (Nat → Int32) → (Nat → Int32) → (Nat → Int32) → (Nat → Int32) → (Nat → Int32) → (Nat → Int32) → (Nat → Int32) → (Nat → Int32) → Prop} {d0 : Nat → Int32} {b x4 : Int32} {r k s : Nat} (hr : r < dc_R g) (hs : s ≤ k) (hb : dc_be g r s) (hn2 : ∀ q, s ≤ q → q < k → dc_kd g (r * 6 + q) ≠ 2) (hen : dc_en g r k) (hp : dc_pg g d0 d b) (hv : dc_vr g d0 d r k) (hJ : ∀ b d re nx, dc_pg g d0 d b → dc_vr g d0 d r (k + 1) → J b (nI (k + 1)) (nI (k + 1)) rc tc (nI (dc_R g)) (nI (dc_T g)) op cm (dc_HN g) (dc_HA g) (dc_BL g) (dc_KD g) (dc_SM g) (dc_AG g) (dc_TK g) d re nx nu ed se) : wY_applyRule_45 post J (nI r) b (nI s) x4 (nI k) rc tc (nI (dc_R g)) (nI (dc_T g)) op cm (dc_HN g) (dc_HA g) (dc_BL g) (dc_KD g) (dc_SM g) (dc_AG g) (dc_TK g) d re nx nu ed se := by
  have hB := dc_W_bl hW r
  have hk : k ≤ 6 := Nat.le_trans hen.1 hB
  unfold wY_applyRule_45
  rw [dc_i6, dc_i6]
  refine dc_y_aa hW hr hk hs hb hn2 hen hp.2.1 (fun b' d' re' nx' hp' hl => ?_)
  have hv' : dc_vr g d0 d' r (k + 1) := by
    intro k' x0 x1 i j hk' he h0 h1 hi hz
    by_cases e : k' = k
    · subst e
      exact hl x0 x1 i j h0 h1 hi (dc_pl_mono (dc_pg_su hp) hz)
    · exact dc_pg_su hp' _ _ _ _ (hv k' x0 x1 i j (by omega) he h0 h1 hi hz)
  refine br_c (fun e => ?_) (fun e => ?_)
  · exact nm_r (nI_1 k) (nm_r (nI_1 k) (hJ b d' re' nx' (dc_pg_f hp hp' e) hv'))
  · exact nm_r (nI_1 k) (nm_r (nI_1 k) (hJ 1 d' re' nx' (dc_pg_t hp hp' e) hv'))
theorem dc_y_ar15 (hW : dc_W g) {post : Int32 → SY → Prop} {d0 : Nat → Int32} {r : Nat} (hr : r < dc_R g) (h : ∀ b d re nx, dc_pg g d0 d b → dc_vr g d0 d r (dc_bl g r + 1) → post b (dc_y g rc tc op cm d re nx nu ed se)) : ∀ n k s b d re nx, k ≤ dc_bl g r + 1 → dc_bl g r + 1 - k < n → (k ≤ dc_bl g r → s ≤ k ∧ dc_be g r s ∧ ∀ q, s ≤ q → q < k → dc_kd g (r * 6 + q) ≠ 2) → dc_pg g d0 d b → dc_vr g d0 d r k → wY_applyRule_15 post (nI r) (nI (dc_bl g r)) n b (nI s) (nI k) rc tc (nI (dc_R g)) (nI (dc_T g)) op cm (dc_HN g) (dc_HA g) (dc_BL g) (dc_KD g) (dc_SM g) (dc_AG g) (dc_TK g) d re nx nu ed se := by
  have hB := dc_W_bl hW r
  have hR := dc_W_R hW
  intro n
  induction n with
  | zero => intro k s b d re nx h1 h2; omega
  | succ n ih =>
    intro k s b d re nx hk hn hs hp hv
    refine pk_lt (dc_bl g r) k (fun h2 => ?_) (fun h2 => ?_)
    · have e : k = dc_bl g r + 1 := by omega
      subst e
      exact ⟨dc_nar01 (dc_pg_01 hp), h b d re nx hp hv⟩
    · obtain ⟨hs1, hs2, hs3⟩ := hs h2
      have go : dc_en g r k → (k < dc_bl g r → dc_kd g (r * 6 + k) = 2) → wY_applyRule_45 post (wY_applyRule_15 post (nI r) (nI (dc_bl g r)) n) (nI r) b (nI s) (nI (dc_bl g r)) (nI k) rc tc (nI (dc_R g)) (nI (dc_T g)) op cm (dc_HN g) (dc_HA g) (dc_BL g) (dc_KD g) (dc_SM g) (dc_AG g) (dc_TK g) d re nx nu ed se := by
        intro he hk2
        refine dc_y_ar45 hW hr hs1 hs2 hs3 he hp hv (fun b' d' re' nx' hp' hv' => ih (k + 1) (k + 1) b' d' re' nx' (by omega) (by omega) ?_ hp' hv')
        intro hk1
        exact ⟨Nat.le_refl _, Or.inr ⟨k, rfl, hk2 (by omega)⟩, fun q h3 h4 => by omega⟩
      refine pk_eq k (dc_bl g r) (fun h3 => ?_) (fun h3 => ?_)
      · exact go ⟨h2, Or.inl h3⟩ (fun z => by omega)
      · have hq : r * 6 + k < 72 := by omega
        have hkd := dc_W_kd hW (r * 6 + k)
        rw [dc_i6]
        refine ⟨vp_in_nI hq (by omega), pk_eq (dc_kd g (r * 6 + k)) 2 (fun h4 => ?_) (fun h4 => ?_) (dc_at (dc_KD g) (by omega))⟩
        · exact go ⟨h2, Or.inr h4⟩ (fun _ => h4)
        · refine nm_r (nI_1 k) (ih (k + 1) s b d re nx (by omega) (by omega) ?_ hp ?_)
          · intro _
            refine ⟨by omega, hs2, fun q h5 h6 => ?_⟩
            by_cases e : q = k
            · rw [e]; exact h4
            · exact hs3 q h5 (by omega)
          · intro k' x0 x1 i j hk' he
            by_cases e : k' = k
            · subst e
              exact absurd he.2 (fun z => z.elim h3 h4)
            · exact hv k' x0 x1 i j (by omega) he
theorem dc_y_ar (hW : dc_W g) {post : Int32 → SY → Prop} {r : Nat} (hr : r < dc_R g) (hd : dc_su (dc_SY d) (dc_D g)) (h : ∀ b d' re' nx', dc_pg g d d' b → (∀ v i j, i ≤ dc_T g → dc_rd g (dc_SY d) r v i j → dc_SY d' (dc_hn g r) v i j) → post b (dc_y g rc tc op cm d' re' nx' nu ed se)) : wpY_applyRule post (dc_y g rc tc op cm d re nx nu ed se) (nI r) := by
  have hR := dc_W_R hW
  refine ⟨vp_in_nI (by omega) (by omega), nm_r (dc_at (dc_BL g) (by omega)) ⟨dc_bl g r + 2, dc_y_ar15 hW hr (fun b d' re' nx' hp hv => h b d' re' nx' hp ?_) _ 0 0 0 d re nx (by omega) (by omega) (fun _ => ⟨Nat.le_refl 0, Or.inl rfl, fun q h3 h4 => by omega⟩) (dc_pg_r hd) (fun k' x0 x1 i j hk' => by omega)⟩⟩
  intro v i j hi ⟨x0, x1, h0, h1, h2, k, h3, h4⟩
  subst h2
  exact hv k x0 x1 i j (Nat.lt_succ_of_le h3.1) h3 h0 h1 hi h4
theorem dc_y_cp4 (hW : dc_W g) {post : Int32 → SY → Prop} {d0 : Nat → Int32} (h : ∀ b d re nx, dc_pg g d0 d b → dc_ph g (dc_SY d0) (dc_SY d) → post b (dc_y g rc tc op cm d re nx nu ed se)) : ∀ n r b d re nx, r ≤ dc_R g → dc_R g - r < n → dc_pg g d0 d b → (∀ r' v i j, r' < r → i ≤ dc_T g → dc_rd g (dc_SY d0) r' v i j → dc_SY d (dc_hn g r') v i j) → wY_chartPass_4 post n b (nI r) rc tc (nI (dc_R g)) (nI (dc_T g)) op cm (dc_HN g) (dc_HA g) (dc_BL g) (dc_KD g) (dc_SM g) (dc_AG g) (dc_TK g) d re nx nu ed se := by
  have hR := dc_W_R hW
  intro n
  induction n with
  | zero => intro r b d re nx h1 h2; omega
  | succ n ih =>
    intro r b d re nx hr hn hp hv
    refine pk_le (dc_R g) r (fun h2 => ?_) (fun h2 => ?_)
    · have e : r = dc_R g := by omega
      subst e
      exact ⟨dc_nar01 (dc_pg_01 hp), h b d re nx hp hv⟩
    · refine dc_y_ar hW h2 hp.2.1 (fun b' d' re' nx' hp' hl => ?_)
      have hv' : ∀ r' v i j, r' < r + 1 → i ≤ dc_T g → dc_rd g (dc_SY d0) r' v i j → dc_SY d' (dc_hn g r') v i j := by
        intro r' v i j hr' hi hz
        by_cases e : r' = r
        · subst e
          exact hl v i j hi (dc_rd_mono (dc_pg_su hp) hz)
        · exact dc_pg_su hp' _ _ _ _ (hv r' v i j (by omega) hi hz)
      refine br_c (fun e => ?_) (fun e => ?_)
      · exact nm_r (nI_1 r) (ih (r + 1) b d' re' nx' (by omega) (by omega) (dc_pg_f hp hp' e) hv')
      · exact nm_r (nI_1 r) (ih (r + 1) 1 d' re' nx' (by omega) (by omega) (dc_pg_t hp hp' e) hv')
theorem dc_y_cp (hW : dc_W g) {post : Int32 → SY → Prop} (hd : dc_su (dc_SY d) (dc_D g)) (h : ∀ b d' re' nx', dc_pg g d d' b → dc_ph g (dc_SY d) (dc_SY d') → post b (dc_y g rc tc op cm d' re' nx' nu ed se)) : wpY_chartPass post (dc_y g rc tc op cm d re nx nu ed se) :=
  ⟨dc_R g + 1, dc_y_cp4 hW h _ 0 0 d re nx (by omega) (by omega) (dc_pg_r hd) (fun r' v i j hr' => by omega)⟩
theorem dc_y_bc24 (hW : dc_W g) {post : SY → Prop} (h : ∀ d' re' nx', dc_FY g d' → post (dc_y g rc tc op cm d' re' nx' nu ed se)) : ∀ n t d re nx, t ≤ 1945 → 1945 - t < n → dc_su (dc_SY d) (dc_D g) → t ≤ dc_ct (dc_CY d) 1944 → wY_buildChart_24 post n (nI t) rc tc (nI (dc_R g)) (nI (dc_T g)) op cm (dc_HN g) (dc_HA g) (dc_BL g) (dc_KD g) (dc_SM g) (dc_AG g) (dc_TK g) d re nx nu ed se := by
  intro n
  induction n with
  | zero => intro t d re nx h1 h2; omega
  | succ n ih =>
    intro t d re nx ht hn hd hc
    have hle := dc_ct_le (dc_CY d) 1944
    refine pk_lt 1944 t (fun h2 => absurd h2 (by omega)) (fun h2 => ?_)
    refine dc_y_cp hW hd (fun b' d' re' nx' hp hf => ?_)
    rcases hp.2.2 with ⟨e1, e2⟩ | ⟨e1, e2⟩
    · subst e2
      exact br_t e1 (h d' re' nx' (dc_FY_of (dc_ph_cl hf (dc_su_r _)) hd))
    · subst e1
      exact br_f (by decide) (nm_r (nI_1 t) (ih (t + 1) d' re' nx' (by omega) (by omega) hp.2.1 (by omega)))
theorem dc_y_bc2 (hW : dc_W g) {post : SY → Prop} (h : ∀ d' re' nx', dc_FY g d' → post (dc_y g rc tc op cm d' re' nx' nu ed se)) : ∀ n c d, c ≤ 1944 → 1944 - c < n → (∀ q, q < c → d q = 0) → wY_buildChart_2 post rc tc (nI (dc_R g)) (nI (dc_T g)) op cm n (nI c) (dc_HN g) (dc_HA g) (dc_BL g) (dc_KD g) (dc_SM g) (dc_AG g) (dc_TK g) d re nx nu ed se := by
  intro n
  induction n with
  | zero => intro c d h1 h2; omega
  | succ n ih =>
    intro c d hc hn hz
    refine pk_le 1944 c (fun h1 => ?_) (fun h1 => ?_)
    · refine ⟨1946, dc_y_bc24 hW h 1946 0 d re nx (by omega) (by omega) ?_ (by omega)⟩
      intro m v i j ⟨⟨h2, h3, h4, h5⟩, h6⟩
      exact absurd (hz _ (by omega)) h6
    · exact ⟨vp_in_nI h1 (by omega), nm_r (e' := upd d c 0) (by rw [nI_clamp (by omega), dc_nb0]) (nm_r (nI_1 c) (ih (c + 1) _ (by omega) (by omega) (dc_z_s hz)))⟩
theorem dc_y_bc (hW : dc_W g) {post : SY → Prop} (h : ∀ d' re' nx', dc_FY g d' → post (dc_y g rc tc op cm d' re' nx' nu ed se)) : wpY_buildChart post (dc_y g rc tc op cm d re nx nu ed se) :=
  ⟨1945, dc_y_bc2 hW h 1945 0 d (by omega) (by omega) (fun q hq => by omega)⟩
end
