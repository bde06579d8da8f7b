/-- a span that is not refused -/
def dc_go (g : dc_G) (cm p0 p1 p2 p3 : Int32) : Prop := ¬ cm = 0 ∧ ∃ m v i j, m < 6 ∧ v < 4 ∧ i ≤ j ∧ j ≤ dc_T g ∧ p0 = nI m ∧ p1 = nI v ∧ p2 = nI i ∧ p3 = nI j
theorem dc_up {x : Int32} {n : Nat} (hn : n < 2 ^ 31) (h0 : ¬ x < 0) (h1 : x ≤ nI n) : ∃ j, j ≤ n ∧ x = nI j := by
  obtain ⟨j, hj, rfl⟩ := nI_of h0
  exact ⟨j, (nI_leI hj hn).mp h1, rfl⟩
theorem dc_ij {g : dc_G} (hW : dc_W g) {p2 p3 : Int32} (h2 : ¬ p2 < 0) (h3 : ¬ p3 < p2) (h4 : p3 ≤ nI (dc_T g)) : ∃ i j, i ≤ j ∧ j ≤ dc_T g ∧ p2 = nI i ∧ p3 = nI j := by
  have hT := dc_W_T hW
  have h5 : p2 ≤ p3 := Int32.not_lt.mp h3
  have h6 : ¬ p3 < 0 := by
    rw [Int32.lt_iff_toInt_lt] at h2 ⊢
    rw [Int32.le_iff_toInt_le] at h5
    omega
  obtain ⟨j, hj, rfl⟩ := dc_up (by omega) h6 h4
  obtain ⟨i, hi, rfl⟩ := dc_up (by omega) h2 h5
  exact ⟨i, j, hi, hj, rfl, rfl⟩
theorem dc_go_x {g : dc_G} {cm p0 p1 p2 p3 : Int32} (h : p0 < 0 ∨ nI 6 ≤ p0) : ¬ dc_go g cm p0 p1 p2 p3 := by
  intro ⟨_, m, v, i, j, hm, hv, hij, hjT, e0, e1, e2, e3⟩
  subst e0
  exact h.elim (nI_pos (by omega)) (nI_ge hm (by omega))
theorem dc_go_v {g : dc_G} {cm p0 p1 p2 p3 : Int32} (h : p1 < 0 ∨ nI 4 ≤ p1) : ¬ dc_go g cm p0 p1 p2 p3 := by
  intro ⟨_, m, v, i, j, hm, hv, hij, hjT, e0, e1, e2, e3⟩
  subst e1
  exact h.elim (nI_pos (by omega)) (nI_ge hv (by omega))
theorem dc_go_ij {g : dc_G} (hW : dc_W g) {cm p0 p1 p2 p3 : Int32} (h : p2 < 0 ∨ p3 < p2 ∨ ¬ p3 ≤ nI (dc_T g)) : ¬ dc_go g cm p0 p1 p2 p3 := by
  have hT := dc_W_T hW
  intro ⟨_, m, v, i, j, hm, hv, hij, hjT, e0, e1, e2, e3⟩
  subst e2 e3
  rcases h with h | h | h
  · exact nI_pos (by omega) h
  · rw [nI_ltI (by omega) (by omega)] at h; omega
  · rw [nI_leI (by omega) (by omega)] at h; omega
section
variable {g : dc_G} {rc tc op cm : Int32} {sy ag f d re nx nu ed se : Nat → Int32}
theorem dc_x_rf (hW : dc_W g) {post : Int32 → Prop} {p0 p1 p2 p3 : Int32} (h1 : ¬ dc_go g cm p0 p1 p2 p3 → post 1) (h0 : ∀ m v i j, ¬ cm = 0 → m < 6 → v < 4 → i ≤ j → j ≤ dc_T g → p0 = nI m → p1 = nI v → p2 = nI i → p3 = nI j → post 0) : wpX_isRefused post (dc_x g rc tc op cm sy ag f) p0 p1 p2 p3 := by
  refine br_c (fun z => h1 (fun y => y.1 z)) (fun hcm => ?_)
  refine dc_x_wc (n := 6) (by omega) (fun m hm em => br_f (by decide) ?_) (fun hb => br_t rfl (h1 (dc_go_x hb)))
  refine dc_x_wc (n := 4) (by omega) (fun v hv ev => br_f (by decide) ?_) (fun hb => br_t rfl (h1 (dc_go_v hb)))
  refine br_c (fun z => h1 (dc_go_ij hW (Or.inl z))) (fun i0 => br_c (fun z => h1 (dc_go_ij hW (Or.inr (Or.inl z)))) (fun ij => br_c (fun jT => ?_) (fun z => h1 (dc_go_ij hW (Or.inr (Or.inr z))))))
  obtain ⟨i, j, hij, hj, ei, ej⟩ := dc_ij hW i0 ij jT
  exact h0 m v i j hcm hm hv hij hj em ev ei ej
theorem dc_y_so0 (hW : dc_W g) {post : Int32 → Prop} {p0 p1 p2 p3 : Int32} (hn : ¬ dc_go g cm p0 p1 p2 p3) (h : post 0) : wpY_spanOk post (dc_y g rc tc op cm d re nx nu ed se) p0 p1 p2 p3 := by
  refine br_c (fun _ => h) (fun hcm => br_c (fun _ => h) (fun x0 => br_c (fun _ => h) (fun x5 => br_c (fun _ => h) (fun v0 => br_c (fun v3 => br_c (fun _ => h) (fun i0 => br_c (fun _ => h) (fun ij => br_c (fun _ => h) (fun jT => ?_)))) (fun _ => h)))))
  obtain ⟨i, j, hij, hj, ei, ej⟩ := dc_ij hW i0 ij (Int32.not_lt.mp jT)
  obtain ⟨m, hm, em⟩ := dc_up (n := 5) (by omega) x0 (Int32.not_lt.mp x5)
  obtain ⟨v, hv, ev⟩ := dc_up (n := 3) (by omega) v0 v3
  exact absurd ⟨hcm, m, v, i, j, by omega, by omega, hij, hj, em, ev, ei, ej⟩ hn
theorem dc_y_so1 (hW : dc_W g) {post : Int32 → Prop} {m v i j : Nat} (hcm : ¬ cm = 0) (hm : m < 6) (hv : v < 4) (hij : i ≤ j) (hj : j ≤ dc_T g) (h : post 1) : wpY_spanOk post (dc_y g rc tc op cm d re nx nu ed se) (nI m) (nI v) (nI i) (nI j) := by
  have hT := dc_W_T hW
  exact br_f hcm (dc_in1 (n := 5) (by omega) hm (dc_in2 (n := 3) (by omega) hv (br_f (nI_pos (by omega)) (br_f (nI_nlt hij (by omega)) (br_f (nI_nlt hj (by omega)) h)))))
end
theorem i_vc_prove {k : Nat} {u : SX} {v : SY} (I : i_Rel k u v) (hk : k + 5 ≤ 2562) (v1 : Int32) (v2 : Int32) (v3 : Int32) (v4 : Int32) : wpX_prove (fun r => wpY_prove (fun r' v' => r' = r ∧ i_Rel (k + 5) u v') v v1 v2 v3 v4) u v1 v2 v3 v4 := by
  obtain ⟨g, a, c, op, cm, sy, ag, f, d, re, nx, nu, ed, se, rfl, rfl, hr⟩ := I
  have J : ∀ d re nx nu ed se, i_Rel (k + 5) (dc_x g (nI a) (nI c) op cm sy ag f) (dc_y g (nI a) (nI c) op cm d re nx nu ed se) := fun d re nx nu ed se => dc_rel d re nx nu ed se hr
  obtain ⟨hW, hS, hac, ho, hf⟩ := hr
  have hT := dc_W_T hW
  unfold wpX_prove
  dsimp only
  refine dc_x_rf hW (fun hn => br_f (by decide) ?_) (fun m v i j hcm hm hv hij hj e1 e2 e3 e4 => br_t rfl ?_)
  · unfold wpY_prove
    dsimp only
    exact dc_y_so0 hW hn (br_t rfl ⟨rfl, J _ _ _ _ _ _⟩)
  · subst e1 e2 e3 e4
    have hF := hf hcm m v i j hm hv (by omega)
    have hY : ∀ post : Int32 → SY → Prop, (∀ d' re' nx', (dc_D g m v i j → post 1 (dc_y g (nI a) (nI c) op cm d' re' nx' nu ed se)) ∧ (¬ dc_D g m v i j → post 0 (dc_y g (nI a) (nI c) op cm d' re' nx' nu ed se))) → wpY_prove post (dc_y g (nI a) (nI c) op cm d re nx nu ed se) (nI m) (nI v) (nI i) (nI j) := by
      intro post hp
      unfold wpY_prove
      dsimp only
      refine dc_y_so1 hW hcm hm hv hij hj (br_f (by decide) (dc_y_bc hW (fun d' re' nx' hF' => dc_y_ix ⟨vp_in_nI (by omega) (by omega), ?_⟩)))
      rw [nI_clamp (show ((m * 4 + v) * 9 + i) * 9 + j < 2 ^ 31 by omega)]
      have hD := hF' m v i j hm hv (by omega) (by omega)
      exact br_c (fun z => (hp d' re' nx').2 (fun y => (hD.mpr y) z)) (fun z => (hp d' re' nx').1 (hD.mp z))
    have ec : (nI m * 4 + nI v) * 9 + nI i = nI ((m * 4 + v) * 9 + i) := dc_i9 _ _ _
    unfold wpX_spanCell
    rw [ec]
    refine ⟨vp_in_nI (by omega) (by omega), ?_⟩
    rw [nI_clamp (show (m * 4 + v) * 9 + i < 2 ^ 31 by omega)]
    refine dc_if ((dc_hbit (p := j) (by omega) _).trans hF) (fun h => ?_) (fun h => ?_)
    · exact hY _ (fun d' re' nx' => ⟨fun _ => ⟨rfl, J _ _ _ _ _ _⟩, fun z => absurd h z⟩)
    · exact hY _ (fun d' re' nx' => ⟨fun z => absurd z h, fun _ => ⟨rfl, J _ _ _ _ _ _⟩⟩)
/-! ===== answerMask ===== -/
section
variable {g : dc_G} {rc tc op cm : Int32} {sy ag f d re nx nu ed se : Nat → Int32}
def dc_am (g : dc_G) (m v j : Nat) : Prop := ∃ q, q < v ∧ (j = q ∧ dc_D g m q 0 (dc_T g))
theorem dc_x_am (hW : dc_W g) (hF : dc_FX g f) {post : Int32 → Prop} {m : Nat} (hm : m < 6) (h : ∀ w, (∀ j, dc_h w j ↔ dc_am g m 4 j) → post w) : ∀ n v w, v ≤ 4 → 4 - v < n → (∀ j, dc_h w j ↔ dc_am g m v j) → wX_answerMask_23 post (nI m) rc tc (nI (dc_R g)) op cm (nI (dc_T g)) (dc_HN g) (dc_HA g) (dc_BL g) (dc_KD g) sy ag (dc_TK g) f n w (nI v) := by
  have hT := dc_W_T hW
  intro n
  induction n with
  | zero => intro v w h1 h2; omega
  | succ n ih =>
    intro v w hv hn hw
    refine pk_le 4 v (fun h1 => ?_) (fun h1 => ?_)
    · have e : v = 4 := by omega
      subst e
      exact h w hw
    · have ec : (nI m * 4 + nI v) * 9 + 0 = nI ((m * 4 + v) * 9 + 0) := dc_i9 m v 0
      unfold wpX_spanCell
      rw [ec]
      refine ⟨vp_in_nI (by omega) (by omega), nm_e (nm_r (nI_1 v) (ih (v + 1) _ (by omega) (by omega) ?_))⟩
      intro j
      rw [dc_hor, dc_hbv (by omega) (by omega), hw, nI_clamp (show (m * 4 + v) * 9 + 0 < 2 ^ 31 by omega), hF m v 0 (dc_T g) hm h1 (by omega)]
      exact dc_exy Iff.rfl
theorem dc_y_am (hW : dc_W g) (hF : dc_FY g d) {post : Int32 → SY → Prop} {m : Nat} (hm : m < 6) (h : ∀ w, (∀ j, dc_h w j ↔ dc_am g m 4 j) → post w (dc_y g rc tc op cm d re nx nu ed se)) : ∀ n v w, v ≤ 4 → 4 - v < n → (∀ j, dc_h w j ↔ dc_am g m v j) → wY_answerMask_27 post (nI m) rc tc (nI (dc_R g)) (nI (dc_T g)) op cm (dc_HN g) (dc_HA g) (dc_BL g) (dc_KD g) (dc_SM g) (dc_AG g) (dc_TK g) d re nx nu ed se n w (nI v) := by
  have hT := dc_W_T hW
  intro n
  induction n with
  | zero => intro v w h1 h2; omega
  | succ n ih =>
    intro v w hv hn hw
    refine pk_le 4 v (fun h1 => ?_) (fun h1 => ?_)
    · have e : v = 4 := by omega
      subst e
      exact h w hw
    · refine dc_y_ix (i := 0) ⟨vp_in_nI (by omega) (by omega), ?_⟩
      rw [nI_clamp (show ((m * 4 + v) * 9 + 0) * 9 + dc_T g < 2 ^ 31 by omega)]
      have hD := hF m v 0 (dc_T g) hm h1 (by omega) (by omega)
      refine br_c (fun z => ?_) (fun z => ?_)
      · refine nm_r (nI_1 v) (ih (v + 1) w (by omega) (by omega) ?_)
        intro j
        rw [hw]
        exact dc_exn (fun y => (hD.mpr y.2) z)
      · refine nm_e (nm_r (nI_1 v) (ih (v + 1) _ (by omega) (by omega) ?_))
        have hd : ∀ j, dc_h w j → ¬ dc_h ((1 : Int32) <<< (nI v &&& 31)) j := by
          intro j hj
          rw [dc_hone (by omega)]
          obtain ⟨q, h2, h3, _⟩ := (hw j).mp hj
          omega
        intro j
        rw [dc_addor hd, dc_hor, dc_hone (by omega), hw]
        exact dc_exy ⟨fun y => y.1, fun y => ⟨y, hD.mp z⟩⟩
end
theorem i_vc_answerMask {k : Nat} {u : SX} {v : SY} (I : i_Rel k u v) (hk : k + 5 ≤ 2562) (v1 : Int32) : wpX_answerMask (fun r => wpY_answerMask (fun r' v' => r' = r ∧ i_Rel (k + 5) u v') v v1) u v1 := by
  obtain ⟨g, a, c, op, cm, sy, ag, f, d, re, nx, nu, ed, se, rfl, rfl, hr⟩ := I
  have J : ∀ d re nx nu ed se, i_Rel (k + 5) (dc_x g (nI a) (nI c) op cm sy ag f) (dc_y g (nI a) (nI c) op cm d re nx nu ed se) := fun d re nx nu ed se => dc_rel d re nx nu ed se hr
  obtain ⟨hW, hS, hac, ho, hf⟩ := hr
  refine br_c (fun hcm => br_t hcm ⟨rfl, J _ _ _ _ _ _⟩) (fun hcm => ?_)
  refine dc_x_wc (n := 6) (by omega) (fun m hm em => br_f (by decide) ?_) (fun hb => br_t rfl (br_f hcm (dc_lo2 (n := 5) (by omega) hb ⟨rfl, J _ _ _ _ _ _⟩)))
  subst em
  refine ⟨5, dc_x_am hW (hf hcm) hm (fun w hw => ?_) 5 0 0 (by omega) (by omega) (fun j => dc_h00 j)⟩
  refine br_f hcm (dc_in2 (n := 5) (by omega) hm (dc_y_bc hW (fun d' re' nx' hF' => ⟨5, dc_y_am hW hF' hm (fun w' hw' => ?_) 5 0 0 (by omega) (by omega) (fun j => dc_h00 j)⟩)))
  exact ⟨dc_hext (fun j => (hw' j).trans (hw j).symm), J _ _ _ _ _ _⟩
/-! ===== endMask ===== -/
section
variable {g : dc_G} {rc tc op cm : Int32} {sy ag f d re nx nu ed se : Nat → Int32}
theorem dc_y_em (hW : dc_W g) (hF : dc_FY g d) {post : Int32 → SY → Prop} {m v i : Nat} (hm : m < 6) (hv : v < 4) (hi : i ≤ dc_T g) (h : ∀ w, (∀ j, dc_h w j ↔ dc_D g m v i j) → post w (dc_y g rc tc op cm d re nx nu ed se)) : ∀ n j w, i ≤ j → j ≤ dc_T g + 1 → dc_T g + 1 - j < n → (∀ j', dc_h w j' ↔ ∃ q, q < j ∧ (j' = q ∧ dc_D g m v i q)) → wY_endMask_50 post (nI m) (nI v) (nI i) rc tc (nI (dc_R g)) (nI (dc_T g)) op cm (dc_HN g) (dc_HA g) (dc_BL g) (dc_KD g) (dc_SM g) (dc_AG g) (dc_TK g) d re nx nu ed se n w (nI j) := by
  have hT := dc_W_T hW
  intro n
  induction n with
  | zero => intro j w h0 h1 h2; omega
  | succ n ih =>
    intro j w hij hj hn hw
    refine pk_lt (dc_T g) j (fun h1 => ?_) (fun h1 => ?_)
    · refine h w (fun j' => ?_)
      rw [hw]
      constructor
      · intro ⟨q, h2, h3, h4⟩
        rw [h3]; exact h4
      · intro z
        have := dc_D_in hW z
        exact ⟨j', by omega, rfl, z⟩
    · refine dc_y_ix ⟨vp_in_nI (by omega) (by omega), ?_⟩
      rw [nI_clamp (show ((m * 4 + v) * 9 + i) * 9 + j < 2 ^ 31 by omega)]
      have hD := hF m v i j hm hv (by omega) (by omega)
      refine br_c (fun z => ?_) (fun z => ?_)
      · refine nm_r (nI_1 j) (ih (j + 1) w (by omega) (by omega) (by omega) ?_)
        intro j'
        rw [hw]
        exact dc_exn (fun y => (hD.mpr y.2) z)
      · refine nm_e (nm_r (nI_1 j) (ih (j + 1) _ (by omega) (by omega) (by omega) ?_))
        have hd : ∀ j', dc_h w j' → ¬ dc_h ((1 : Int32) <<< (nI j &&& 31)) j' := by
          intro j' hj'
          rw [dc_hone (by omega)]
          obtain ⟨q, h2, h3, _⟩ := (hw j').mp hj'
          omega
        intro j'
        rw [dc_addor hd, dc_hor, dc_hone (by omega), hw]
        exact dc_exy ⟨fun y => y.1, fun y => ⟨y, hD.mp z⟩⟩
theorem dc_y_em0 (hW : dc_W g) {post : Int32 → SY → Prop} {p0 p1 p2 : Int32} (hn : ¬ dc_go g cm p0 p1 p2 (nI (dc_T g))) (h : post (-2) (dc_y g rc tc op cm d re nx nu ed se)) : wpY_endMask post (dc_y g rc tc op cm d re nx nu ed se) p0 p1 p2 := by
  have hT := dc_W_T hW
  refine br_c (fun _ => h) (fun hcm => br_c (fun _ => h) (fun x0 => br_c (fun _ => h) (fun x5 => br_c (fun _ => h) (fun v0 => br_c (fun _ => h) (fun v3 => br_c (fun _ => h) (fun i0 => br_c (fun iT => ?_) (fun _ => h)))))))
  obtain ⟨i, hi, ei⟩ := dc_up (by omega) i0 iT
  obtain ⟨m, hm, em⟩ := dc_up (n := 5) (by omega) x0 (Int32.not_lt.mp x5)
  obtain ⟨v, hv, ev⟩ := dc_up (n := 3) (by omega) v0 (Int32.not_lt.mp v3)
  exact absurd ⟨hcm, m, v, i, dc_T g, by omega, by omega, hi, Nat.le_refl _, em, ev, ei, rfl⟩ hn
end
theorem i_vc_endMask {k : Nat} {u : SX} {v : SY} (I : i_Rel k u v) (hk : k + 5 ≤ 2562) (v1 : Int32) (v2 : Int32) (v3 : Int32) : wpX_endMask (fun r => wpY_endMask (fun r' v' => r' = r ∧ i_Rel (k + 5) u v') v v1 v2 v3) u v1 v2 v3 := by
  obtain ⟨g, a, c, op, cm, sy, ag, f, d, re, nx, nu, ed, se, rfl, rfl, hr⟩ := I
  have J : ∀ d re nx nu ed se, i_Rel (k + 5) (dc_x g (nI a) (nI c) op cm sy ag f) (dc_y g (nI a) (nI c) op cm d re nx nu ed se) := fun d re nx nu ed se => dc_rel d re nx nu ed se hr
  obtain ⟨hW, hS, hac, ho, hf⟩ := hr
  have hT := dc_W_T hW
  unfold wpX_endMask
  dsimp only
  refine dc_x_rf hW (fun hn => br_f (by decide) (dc_y_em0 hW hn ⟨rfl, J _ _ _ _ _ _⟩)) (fun m v i j hcm hm hv hij hj e1 e2 e3 e4 => br_t rfl ?_)
  subst e1 e2 e3
  have hi : i ≤ dc_T g := by omega
  have ec : (nI m * 4 + nI v) * 9 + nI i = nI ((m * 4 + v) * 9 + i) := dc_i9 _ _ _
  unfold wpX_spanCell
  rw [ec]
  refine ⟨vp_in_nI (by omega) (by omega), ?_⟩
  rw [nI_clamp (show (m * 4 + v) * 9 + i < 2 ^ 31 by omega)]
  refine br_f hcm (dc_in1 (n := 5) (by omega) hm (dc_in1 (n := 3) (by omega) hv (br_f (nI_pos (by omega)) (br_t (nI_le hi (by omega)) (dc_y_bc hW (fun d' re' nx' hF' => ⟨dc_T g + 2, dc_y_em hW hF' hm hv hi (fun w hw => ?_) _ i 0 (Nat.le_refl i) (by omega) (by omega) ?_⟩))))))
  · exact ⟨dc_hext (fun j' => (hw j').trans (hf hcm m v i j' hm hv (by omega)).symm), J _ _ _ _ _ _⟩
  · intro j'
    refine ⟨fun z => absurd z (dc_h0 j'), fun ⟨q, h1, h2, h3⟩ => ?_⟩
    have := dc_D_in hW h3
    omega
/-! ===== firstRule ===== -/
/-- rule r is one of m that gives v from i to j -/
def dc_rm (g : dc_G) (m v i j r : Nat) : Prop := dc_hn g r = m ∧ dc_rd g (dc_D g) r v i j
def dc_fr (g : dc_G) (m v i j : Nat) (x : Int32) : Prop := (∃ r, r < dc_R g ∧ x = nI r ∧ dc_rm g m v i j r ∧ ∀ r', r' < r → ¬ dc_rm g m v i j r') ∨ (x = -1 ∧ ∀ r, r < dc_R g → ¬ dc_rm g m v i j r)
theorem dc_fr_u {g : dc_G} {m v i j : Nat} {x y : Int32} (hx : dc_fr g m v i j x) (hy : dc_fr g m v i j y) : x = y := by
  rcases hx with ⟨r, h1, rfl, h2, h3⟩ | ⟨rfl, h1⟩ <;> rcases hy with ⟨s, k1, rfl, k2, k3⟩ | ⟨rfl, k1⟩
  · have e : r = s := by
      rcases Nat.lt_trichotomy r s with h | h | h
      · exact absurd h2 (k3 r h)
      · exact h
      · exact absurd k2 (h3 s h)
    rw [e]
  · exact absurd h2 (k1 r h1)
  · exact absurd k2 (h1 s k1)
  · rfl
section
variable {g : dc_G} {rc tc op cm : Int32} {sy ag f d re nx nu ed se : Nat → Int32}
theorem dc_x_fr (hW : dc_W g) (hS : dc_HS g sy ag) (hF : dc_FX g f) {post : Int32 → Prop} {m v i j : Nat} (hm : m < 6) (hv : v < 4) (hij : i ≤ j) (hj : j ≤ dc_T g) (h : ∀ x, dc_fr g m v i j x → post x) : ∀ n r, r ≤ dc_R g → dc_R g - r < n → (∀ r', r' < r → ¬ dc_rm g m v i j r') → wX_firstRule_18 post (nI m) (nI v) (nI i) (nI j) rc tc (nI (dc_R g)) op cm (nI (dc_T g)) (dc_HN g) (dc_HA g) (dc_BL g) (dc_KD g) sy ag (dc_TK g) f n (nI r) := by
  have hT := dc_W_T hW
  have hR := dc_W_R hW
  have hs := dc_FX_S hW hF
  intro n
  induction n with
  | zero => intro r h1 h2; omega
  | succ n ih =>
    intro r hr hn hno
    refine pk_le (dc_R g) r (fun h1 => ?_) (fun h1 => ?_)
    · have e : r = dc_R g := by omega
      subst e
      exact h _ (Or.inr ⟨rfl, hno⟩)
    · have h6 := dc_W_hn hW r
      have hsk : ¬ dc_rm g m v i j r → ∀ r', r' < r + 1 → ¬ dc_rm g m v i j r' := by
        intro hz r' hr'
        by_cases e : r' = r
        · rw [e]; exact hz
        · exact hno r' (by omega)
      refine ⟨vp_in_nI (by omega) (by omega), pk_eq (dc_hn g r) m (fun h2 => ?_) (fun h2 => ?_) (dc_at (dc_HN g) (by omega))⟩
      · refine dc_x_re hW hS (fun m v i j => (hs m v i j).mp) (by omega) hv (by omega) (fun w hw => dc_if (dc_hbit (p := j) (by omega) w) (fun h3 => ?_) (fun h3 => ?_))
        · exact h _ (Or.inl ⟨r, h1, rfl, ⟨h2, (dc_rd_c hs r v i j).mp ((hw j).mp h3)⟩, hno⟩)
        · exact nm_r (nI_1 r) (ih (r + 1) (by omega) (by omega) (hsk (fun z => h3 ((hw j).mpr ((dc_rd_c hs r v i j).mpr z.2)))))
      · exact nm_r (nI_1 r) (ih (r + 1) (by omega) (by omega) (hsk (fun z => h2 z.1)))
theorem dc_y_fr (hW : dc_W g) (hF : dc_FY g d) {post : Int32 → SY → Prop} {m v i j : Nat} (hm : m < 6) (hv : v < 4) (hij : i ≤ j) (hj : j ≤ dc_T g) (h : ∀ x re nx, dc_fr g m v i j x → post x (dc_y g rc tc op cm d re nx nu ed se)) : ∀ n r re nx, r ≤ dc_R g → dc_R g - r < n → (∀ r', r' < r → ¬ dc_rm g m v i j r') → wY_firstRule_22 post (nI m) (nI v) (nI i) (nI j) n (nI r) rc tc (nI (dc_R g)) (nI (dc_T g)) op cm (dc_HN g) (dc_HA g) (dc_BL g) (dc_KD g) (dc_SM g) (dc_AG g) (dc_TK g) d re nx nu ed se := by
  have hT := dc_W_T hW
  have hR := dc_W_R hW
  have hs := dc_FY_S hW hF
  intro n
  induction n with
  | zero => intro r re nx h1 h2; omega
  | succ n ih =>
    intro r re nx hr hn hno
    refine pk_le (dc_R g) r (fun h1 => ?_) (fun h1 => ?_)
    · have e : r = dc_R g := by omega
      subst e
      exact h _ re nx (Or.inr ⟨rfl, hno⟩)
    · have h6 := dc_W_hn hW r
      have hsk : ¬ dc_rm g m v i j r → ∀ r', r' < r + 1 → ¬ dc_rm g m v i j r' := by
        intro hz r' hr'
        by_cases e : r' = r
        · rw [e]; exact hz
        · exact hno r' (by omega)
      refine ⟨vp_in_nI (by omega) (by omega), pk_eq (dc_hn g r) m (fun h2 => ?_) (fun h2 => ?_) (dc_at (dc_HN g) (by omega))⟩
      · refine dc_y_rd hW (by omega) hv (by omega) (by omega) (fun b re' nx' hb => dc_if (dc_bo_0 hb) (fun h3 => ?_) (fun h3 => ?_))
        · exact nm_r (nI_1 r) (ih (r + 1) re' nx' (by omega) (by omega) (hsk (fun z => h3 ((dc_rd_c hs r v i j).mpr z.2))))
        · exact h _ re' nx' (Or.inl ⟨r, h1, rfl, ⟨h2, (dc_rd_c hs r v i j).mp (Classical.not_not.mp h3)⟩, hno⟩)
      · exact nm_r (nI_1 r) (ih (r + 1) re nx (by omega) (by omega) (hsk (fun z => h2 z.1)))
end
theorem i_vc_firstRule {k : Nat} {u : SX} {v : SY} (I : i_Rel k u v) (hk : k + 5 ≤ 2562) (v1 : Int32) (v2 : Int32) (v3 : Int32) (v4 : Int32) : wpX_firstRule (fun r => wpY_firstRule (fun r' v' => r' = r ∧ i_Rel (k + 5) u v') v v1 v2 v3 v4) u v1 v2 v3 v4 := by
  obtain ⟨g, a, c, op, cm, sy, ag, f, d, re, nx, nu, ed, se, rfl, rfl, hr⟩ := I
  have J : ∀ d re nx nu ed se, i_Rel (k + 5) (dc_x g (nI a) (nI c) op cm sy ag f) (dc_y g (nI a) (nI c) op cm d re nx nu ed se) := fun d re nx nu ed se => dc_rel d re nx nu ed se hr
  obtain ⟨hW, hS, hac, ho, hf⟩ := hr
  unfold wpX_firstRule
  dsimp only
  refine dc_x_rf hW (fun hn => br_f (by decide) ?_) (fun m v i j hcm hm hv hij hj e1 e2 e3 e4 => br_t rfl ?_)
  · unfold wpY_firstRule
    dsimp only
    exact dc_y_so0 hW hn (br_t rfl ⟨rfl, J _ _ _ _ _ _⟩)
  · subst e1 e2 e3 e4
    refine ⟨dc_R g + 1, dc_x_fr hW hS (hf hcm) hm hv hij hj (fun x hx => ?_) _ 0 (by omega) (by omega) (fun r' hr' => by omega)⟩
    unfold wpY_firstRule
    dsimp only
    exact dc_y_so1 hW hcm hm hv hij hj (br_f (by decide) (dc_y_bc hW (fun d' re' nx' hF' => ⟨dc_R g + 1, dc_y_fr hW hF' hm hv hij hj (fun y re2 nx2 hy => ⟨dc_fr_u hy hx, J _ _ _ _ _ _⟩) _ 0 re' nx' (by omega) (by omega) (fun r' hr' => by omega)⟩)))
