/-- both states are pictures of one grammar and string; compiled: X's cells are the least relation -/
def dc_RR (g : dc_G) (a c : Nat) (op cm : Int32) (sy ag f : Nat → Int32) : Prop := dc_W g ∧ dc_HS g sy ag ∧ (a ≤ 12 ∧ c ≤ 8 ∧ dc_R g ≤ a ∧ dc_T g ≤ c) ∧ (¬ op = 0 → 1 ≤ dc_R g ∧ cm = 0) ∧ (¬ cm = 0 → dc_FX g f)
def i_Rel (_ : Nat) (u : SX) (v : SY) : Prop := ∃ (g : dc_G) (a c : Nat) (op cm : Int32) (sy ag f d re nx nu ed se : Nat → Int32), u = dc_x g (nI a) (nI c) op cm sy ag f ∧ v = dc_y g (nI a) (nI c) op cm d re nx nu ed se ∧ dc_RR g a c op cm sy ag f
theorem i_up {k : Nat} {u : SX} {v : SY} (h : i_Rel k u v) : i_Rel (k + 5) u v := h
theorem dc_rel {k : Nat} {g : dc_G} {a c : Nat} {op cm : Int32} {sy ag f : Nat → Int32} (d re nx nu ed se : Nat → Int32) (h : dc_RR g a c op cm sy ag f) : i_Rel k (dc_x g (nI a) (nI c) op cm sy ag f) (dc_y g (nI a) (nI c) op cm d re nx nu ed se) := ⟨g, a, c, op, cm, sy, ag, f, d, re, nx, nu, ed, se, rfl, rfl, h⟩
theorem dc_cl (x : Int32) (n : Nat) (h1 : 1 ≤ n) (hn : n < 2 ^ 31) : ∃ a, a ≤ n ∧ ∀ A : Int32 → Prop, A (nI a) → ((1 ≤ x → ((x ≤ nI n → A x) ∧ (¬ x ≤ nI n → A (nI n)))) ∧ (¬ 1 ≤ x → A 1)) := by
  by_cases hx : 1 ≤ x
  · by_cases hy : x ≤ nI n
    · have h0 : ¬ x < 0 := by
        rw [Int32.lt_iff_toInt_lt]
        rw [Int32.le_iff_toInt_le] at hx
        have e1 : (1 : Int32).toInt = 1 := by decide
        have e0 : (0 : Int32).toInt = 0 := by decide
        omega
      obtain ⟨j, hj, rfl⟩ := nI_of h0
      rw [nI_leI hj hn] at hy
      exact ⟨j, hy, fun A h => br_t hx (br_t (nI_le hy hn) h)⟩
    · exact ⟨n, Nat.le_refl n, fun A h => br_t hx (br_f hy h)⟩
  · exact ⟨1, h1, fun A h => br_f hx h⟩
def dc_g0 : dc_G := ((0, 0), (fun _ => 0), (fun _ => 0), (fun _ => 0), (fun _ => 0), (fun _ => 0), (fun _ => 0), (fun _ => 0))
theorem i_vc0 (k0 : Int32) (k1 : Int32) : wpX_init (fun u => wpY_init (fun v => i_Rel 2 u v) k0 k1) k0 k1 := by
  obtain ⟨a, ha, hA⟩ := dc_cl k0 12 (by omega) (by omega)
  obtain ⟨c, hc, hC⟩ := dc_cl k1 8 (by omega) (by omega)
  have hX : ∀ post : Int32 → Prop, post (nI a) → wpX_clamped post k0 12 := fun post h => hA post h
  have hX2 : ∀ post : Int32 → Prop, post (nI c) → wpX_clamped post k1 8 := fun post h => hC post h
  unfold wpX_init
  refine hX _ (hX2 _ ?_)
  refine hA (fun z => wY_init_131 _ k1 z _ _ _ _ _ _ _ _ _ _ _ _ _ _ _ _ _ _ _) ?_
  refine hC (fun z => i_Rel 2 _ (nI a, z, _)) ?_
  refine ⟨dc_g0, a, c, 0, 0, (fun _ => 0), (fun _ => 0), (fun _ => 0), (fun _ => 0), (fun _ => 0), (fun _ => 0), (fun _ => 0), (fun _ => 0), (fun _ => 0), rfl, rfl, ?_⟩
  exact ⟨⟨⟨Nat.zero_le _, Nat.zero_le _⟩, fun _ => (by decide : (0 : Nat) < 6), fun _ => (by decide : (0 : Nat) < 6), fun _ => (by decide : (0 : Nat) ≤ 6), fun _ => (by decide : (0 : Nat) < 3), fun _ => (by decide : (0 : Nat) < 16), fun _ _ => (by decide : (0 : Nat) < 6), fun _ => (by decide : (0 : Nat) < 6), fun _ => (by decide : (0 : Nat) < 16)⟩, ⟨fun _ _ => rfl, fun _ _ => rfl⟩, ⟨ha, hc, Nat.zero_le _, Nat.zero_le _⟩, fun z => absurd rfl z, fun z => absurd rfl z⟩
theorem dc_x_wc {post : Int32 → Prop} {x : Int32} {n : Nat} (hn : n < 2 ^ 31) (h1 : ∀ j, j < n → x = nI j → post 1) (h0 : x < 0 ∨ nI n ≤ x → post 0) : wpX_within post x (nI n) := by
  rcases pk_ix x hn with h | h | ⟨j, hj, rfl⟩
  · exact dc_x_wi hn (Or.inr ⟨Or.inl h, h0 (Or.inl h)⟩)
  · exact dc_x_wi hn (Or.inr ⟨Or.inr h, h0 (Or.inr h)⟩)
  · exact dc_x_wi hn (Or.inl ⟨j, hj, rfl, h1 j hj rfl⟩)
theorem dc_gt {x : Int32} {n : Nat} (hn : n + 1 < 2 ^ 31) (h : nI (n + 1) ≤ x) : nI n < x ∧ ¬ x ≤ nI n := by
  rw [Int32.le_iff_toInt_le] at h ⊢
  rw [Int32.lt_iff_toInt_lt]
  rw [nI_toInt hn] at h
  rw [nI_toInt (by omega)]
  omega
theorem dc_lo1 {x : Int32} {n : Nat} {A B : Prop} (hn : n + 1 < 2 ^ 31) (h : x < 0 ∨ nI (n + 1) ≤ x) (a : A) : (x < 0 → A) ∧ (¬ x < 0 → ((nI n < x → A) ∧ (¬ nI n < x → B))) :=
  br_c (fun _ => a) (fun z => br_t (dc_gt hn (h.resolve_left z)).1 a)
theorem dc_lo2 {x : Int32} {n : Nat} {A B : Prop} (hn : n + 1 < 2 ^ 31) (h : x < 0 ∨ nI (n + 1) ≤ x) (a : A) : (x < 0 → A) ∧ (¬ x < 0 → ((x ≤ nI n → B) ∧ (¬ x ≤ nI n → A))) :=
  br_c (fun _ => a) (fun z => br_f (dc_gt hn (h.resolve_left z)).2 a)
theorem dc_in1 {j n : Nat} {A B : Prop} (hn : n + 1 < 2 ^ 31) (h : j < n + 1) (b : B) : (nI j < 0 → A) ∧ (¬ nI j < 0 → ((nI n < nI j → A) ∧ (¬ nI n < nI j → B))) :=
  br_f (nI_pos (by omega)) (br_f (nI_nlt (by omega) (by omega)) b)
theorem dc_in2 {j n : Nat} {A B : Prop} (hn : n + 1 < 2 ^ 31) (h : j < n + 1) (b : B) : (nI j < 0 → A) ∧ (¬ nI j < 0 → ((nI j ≤ nI n → B) ∧ (¬ nI j ≤ nI n → A))) :=
  br_f (nI_pos (by omega)) (br_t (nI_le (by omega) (by omega)) b)
/-! ===== beginRule ===== -/
def dc_gB (g : dc_G) (m h : Nat) : dc_G := ((dc_R g + 1, dc_T g), dc_un (dc_hn g) (dc_R g) m, dc_un (dc_ha g) (dc_R g) h, dc_un (dc_bl g) (dc_R g) 0, dc_kd g, dc_sy g, dc_ag g, dc_tk g)
theorem dc_gB_W {g : dc_G} (hW : dc_W g) {m h : Nat} (hR : dc_R g < 12) (hm : m < 6) (hh : h < 6) : dc_W (dc_gB g m h) := by
  refine ⟨⟨hR, hW.1.2⟩, dc_un_lt hW.2.1 hm, dc_un_lt hW.2.2.1 hh, ?_, hW.2.2.2.2⟩
  intro r
  show dc_un (dc_bl g) (dc_R g) 0 r ≤ 6
  have := dc_un_lt (f := dc_bl g) (k := dc_R g) (x := 0) (n := 7) (fun r => by have := dc_W_bl hW r; omega) (by omega) r
  omega
theorem i_vc_beginRule {k : Nat} {u : SX} {v : SY} (I : i_Rel k u v) (hk : k + 5 ≤ 2562) (v1 : Int32) (v2 : Int32) : wpX_beginRule (fun r u' => wpY_beginRule (fun r' v' => r' = r ∧ i_Rel (k + 5) u' v') v v1 v2) u v1 v2 := by
  obtain ⟨g, a, c, op, cm, sy, ag, f, d, re, nx, nu, ed, se, rfl, rfl, hr⟩ := I
  have J : i_Rel (k + 5) (dc_x g (nI a) (nI c) op cm sy ag f) (dc_y g (nI a) (nI c) op cm d re nx nu ed se) := dc_rel d re nx nu ed se hr
  obtain ⟨hW, hS, ⟨ha, hc, hRa, hTc⟩, ho, hf⟩ := hr
  by_cases h0 : op = 0
  · by_cases hR : dc_R g = a
    · have hn : ¬ nI (dc_R g) < nI a := nI_nlt (by omega) (by omega)
      have he : nI (dc_R g) = nI a := by rw [hR]
      exact br_t h0 (br_f hn (br_t h0 (br_t he ⟨rfl, J⟩)))
    · have hn : nI (dc_R g) < nI a := nI_lt (by omega) (by omega)
      have he : ¬ nI (dc_R g) = nI a := fun z => hR ((nI_eq (by omega) (by omega)).mp z)
      refine br_t h0 (br_t hn (dc_x_wc (n := 6) (by omega) (fun m hm em => ?_) (fun hb => ?_)))
      · subst em
        refine br_f (by decide) (dc_x_wc (n := 6) (by omega) (fun h hh eh => ?_) (fun hb => ?_))
        · subst eh
          have hi : vp_in (nI (dc_R g)) 12 := vp_in_nI (by omega) (by omega)
          have e1 : upd (dc_HN g) (nI (dc_R g)).toNatClampNeg (nI m) = dc_HN (dc_gB g m h) := by rw [nI_clamp (by omega)]; exact dc_un_u _ _ _
          have e2 : upd (dc_HA g) (nI (dc_R g)).toNatClampNeg (nI h) = dc_HA (dc_gB g m h) := by rw [nI_clamp (by omega)]; exact dc_un_u _ _ _
          have e3 : upd (dc_BL g) (nI (dc_R g)).toNatClampNeg 0 = dc_BL (dc_gB g m h) := by rw [nI_clamp (by omega)]; exact dc_un_u _ _ 0
          refine br_f (by decide) ⟨hi, nm_r e1 ⟨hi, nm_r e2 ⟨hi, nm_r e3 (nm_r (nI_1 _) ?_)⟩⟩⟩
          refine br_t h0 (br_f he (dc_in1 (n := 5) (by omega) hm (dc_in2 (n := 5) (by omega) hh ?_)))
          refine ⟨hi, nm_r e1 ⟨hi, nm_r e2 ⟨hi, nm_r e3 (nm_r (nI_1 _) ⟨rfl, ?_⟩)⟩⟩⟩
          refine dc_rel (g := dc_gB g m h) d re nx nu ed se ⟨dc_gB_W hW (by omega) hm hh, hS, ⟨ha, hc, ?_, hTc⟩, fun _ => ⟨?_, rfl⟩, fun z => absurd rfl z⟩
          · show dc_R g + 1 ≤ a
            omega
          · show 1 ≤ dc_R g + 1
            omega
        · exact br_t rfl (br_t h0 (br_f he (dc_in1 (n := 5) (by omega) hm (dc_lo2 (n := 5) (by omega) hb ⟨rfl, J⟩))))
      · exact br_t rfl (br_t h0 (br_f he (dc_lo1 (n := 5) (by omega) hb ⟨rfl, J⟩)))
  · exact br_f h0 (br_f h0 ⟨rfl, J⟩)
/-! ===== endRule, removeLastRule ===== -/
theorem i_vc_endRule {k : Nat} {u : SX} {v : SY} (I : i_Rel k u v) (hk : k + 5 ≤ 2562) : wpX_endRule (fun r u' => wpY_endRule (fun r' v' => r' = r ∧ i_Rel (k + 5) u' v') v) u := by
  obtain ⟨g, a, c, op, cm, sy, ag, f, d, re, nx, nu, ed, se, rfl, rfl, hr⟩ := I
  have J : i_Rel (k + 5) (dc_x g (nI a) (nI c) op cm sy ag f) (dc_y g (nI a) (nI c) op cm d re nx nu ed se) := dc_rel d re nx nu ed se hr
  by_cases h0 : op = 0
  · exact br_t h0 (br_t h0 ⟨rfl, J⟩)
  · refine br_f h0 (br_f h0 ⟨rfl, dc_rel (op := 0) d re nx nu ed se ?_⟩)
    exact ⟨hr.1, hr.2.1, hr.2.2.1, fun z => absurd rfl z, hr.2.2.2.2⟩
def dc_gR (g : dc_G) (r : Nat) : dc_G := ((r, dc_T g), dc_hn g, dc_ha g, dc_bl g, dc_kd g, dc_sy g, dc_ag g, dc_tk g)
theorem i_vc_removeLastRule {k : Nat} {u : SX} {v : SY} (I : i_Rel k u v) (hk : k + 5 ≤ 2562) : wpX_removeLastRule (fun r u' => wpY_removeLastRule (fun r' v' => r' = r ∧ i_Rel (k + 5) u' v') v) u := by
  obtain ⟨g, a, c, op, cm, sy, ag, f, d, re, nx, nu, ed, se, rfl, rfl, hr⟩ := I
  have J : i_Rel (k + 5) (dc_x g (nI a) (nI c) op cm sy ag f) (dc_y g (nI a) (nI c) op cm d re nx nu ed se) := dc_rel d re nx nu ed se hr
  obtain ⟨hW, hS, ⟨ha, hc, hRa, hTc⟩, ho, hf⟩ := hr
  by_cases h0 : dc_R g = 0
  · have e : nI (dc_R g) = 0 := by rw [h0]; exact nI_0
    exact br_t e (br_t e ⟨rfl, J⟩)
  · have e : ¬ nI (dc_R g) = 0 := nI_ne0 (by omega) (by omega)
    have e1 : nI (dc_R g) - 1 = nI (dc_R g - 1) := by
      obtain ⟨q, hq⟩ : ∃ q, dc_R g = q + 1 := ⟨dc_R g - 1, by omega⟩
      rw [hq, nI_pred]; rfl
    refine br_f e (nm_r e1 (br_f e (nm_r e1 ⟨rfl, ?_⟩)))
    refine dc_rel (g := dc_gR g (dc_R g - 1)) (op := 0) (cm := 0) d re nx nu ed se ⟨⟨⟨?_, hW.1.2⟩, hW.2⟩, hS, ⟨ha, hc, ?_, hTc⟩, fun z => absurd rfl z, fun z => absurd rfl z⟩
    · show dc_R g - 1 ≤ 12
      omega
    · show dc_R g - 1 ≤ a
      omega
/-! ===== what only reads ===== -/
theorem i_vc_tokenCount {k : Nat} {u : SX} {v : SY} (I : i_Rel k u v) (hk : k + 5 ≤ 2562) : wpX_tokenCount (fun r => wpY_tokenCount (fun r' => r' = r ∧ i_Rel (k + 5) u v) v) u := by
  have J : i_Rel (k + 5) u v := I
  obtain ⟨g, a, c, op, cm, sy, ag, f, d, re, nx, nu, ed, se, rfl, rfl, hr⟩ := I
  exact ⟨rfl, J⟩
theorem dc_lo3 {x : Int32} {n : Nat} {A B : Prop} (hn : n < 2 ^ 31) (h : x < 0 ∨ nI n ≤ x) (a : A) : (x < 0 → A) ∧ (¬ x < 0 → ((x < nI n → B) ∧ (¬ x < nI n → A))) :=
  br_c (fun _ => a) (fun z => br_f (Int32.not_lt.mpr (h.resolve_left z)) a)
theorem dc_in3 {j n : Nat} {A B : Prop} (hn : n < 2 ^ 31) (h : j < n) (b : B) : (nI j < 0 → A) ∧ (¬ nI j < 0 → ((nI j < nI n → B) ∧ (¬ nI j < nI n → A))) :=
  br_f (nI_pos (by omega)) (br_t (nI_lt h hn) b)
theorem i_vc_token {k : Nat} {u : SX} {v : SY} (I : i_Rel k u v) (hk : k + 5 ≤ 2562) (v1 : Int32) : wpX_token (fun r => wpY_token (fun r' => r' = r ∧ i_Rel (k + 5) u v) v v1) u v1 := by
  have J : i_Rel (k + 5) u v := I
  obtain ⟨g, a, c, op, cm, sy, ag, f, d, re, nx, nu, ed, se, rfl, rfl, hr⟩ := I
  have hT := dc_W_T hr.1
  unfold wpX_token
  dsimp only
  refine dc_x_wc (n := dc_T g) (by omega) (fun i hi ei => ?_) (fun hb => ?_)
  · subst ei
    have hin : vp_in (nI i) 8 := vp_in_nI (by omega) (by omega)
    exact br_f (by decide) ⟨hin, dc_in3 (by omega) hi ⟨hin, rfl, J⟩⟩
  · exact br_t rfl (dc_lo3 (by omega) hb ⟨rfl, J⟩)
theorem i_vc_ruleHead {k : Nat} {u : SX} {v : SY} (I : i_Rel k u v) (hk : k + 5 ≤ 2562) (v1 : Int32) : wpX_ruleHead (fun r => wpY_ruleHead (fun r' => r' = r ∧ i_Rel (k + 5) u v) v v1) u v1 := by
  have J : i_Rel (k + 5) u v := I
  obtain ⟨g, a, c, op, cm, sy, ag, f, d, re, nx, nu, ed, se, rfl, rfl, hr⟩ := I
  have hR := dc_W_R hr.1
  unfold wpX_ruleHead
  dsimp only
  refine dc_x_wc (n := dc_R g) (by omega) (fun i hi ei => ?_) (fun hb => ?_)
  · subst ei
    have hin : vp_in (nI i) 12 := vp_in_nI (by omega) (by omega)
    refine br_f (by decide) ⟨hin, hin, nm_e (br_c (fun h0 => ?_) (fun h0 => br_c (fun h1 => ?_) (fun h1 => ?_)))⟩
    · exact dc_in3 (by omega) hi ⟨hin, hin, nm_e (br_t h0 ⟨rfl, J⟩)⟩
    · exact dc_in3 (by omega) hi ⟨hin, hin, nm_e (br_f h0 (br_t h1 (nm_e ⟨rfl, J⟩)))⟩
    · exact dc_in3 (by omega) hi ⟨hin, hin, nm_e (br_f h0 (br_f h1 ⟨rfl, J⟩))⟩
  · exact br_t rfl (dc_lo3 (by omega) hb ⟨rfl, J⟩)
theorem i_vc_item {k : Nat} {u : SX} {v : SY} (I : i_Rel k u v) (hk : k + 5 ≤ 2562) (v1 : Int32) (v2 : Int32) : wpX_item (fun r => wpY_item (fun r' => r' = r ∧ i_Rel (k + 5) u v) v v1 v2) u v1 v2 := by
  have J : i_Rel (k + 5) u v := I
  obtain ⟨g, a, c, op, cm, sy, ag, f, d, re, nx, nu, ed, se, rfl, rfl, hr⟩ := I
  obtain ⟨hW, hS, _⟩ := hr
  have hR := dc_W_R hW
  unfold wpX_item
  dsimp only
  refine dc_x_wc (n := dc_R g) (by omega) (fun r hr er => ?_) (fun hb => ?_)
  · subst er
    have hB := dc_W_bl hW r
    have hin : vp_in (nI r) 12 := vp_in_nI (by omega) (by omega)
    have hge : ¬ nI (dc_R g) ≤ nI r := nI_ge hr (by omega)
    have eb : dc_BL g (nI r).toNatClampNeg = nI (dc_bl g r) := dc_at (dc_BL g) (by omega)
    refine br_f (by decide) ⟨hin, ?_⟩
    rw [eb]
    refine dc_x_wc (n := dc_bl g r) (by omega) (fun i hi ei => ?_) (fun hb => ?_)
    · subst ei
      have hq : r * 6 + i < 72 := by omega
      have hin2 : vp_in (nI (r * 6 + i)) 72 := vp_in_nI hq (by omega)
      have hlt : nI i < dc_BL g (nI r).toNatClampNeg := by rw [eb]; exact nI_lt hi (by omega)
      have ek : dc_KD g (nI (r * 6 + i)).toNatClampNeg = nI (dc_kd g (r * 6 + i)) := dc_at (dc_KD g) (by omega)
      have es : dc_SM g (nI (r * 6 + i)).toNatClampNeg = nI (dc_sy g (r * 6 + i)) := dc_at (dc_SM g) (by omega)
      have ea : dc_AG g (nI (r * 6 + i)).toNatClampNeg = nI (dc_ag g (r * 6 + i)) := dc_at (dc_AG g) (by omega)
      have es2 : dc_kd g (r * 6 + i) ≠ 2 → sy (nI (r * 6 + i)).toNatClampNeg = nI (dc_sy g (r * 6 + i)) := fun z => by rw [nI_clamp (by omega)]; exact hS.1 _ z
      have ea2 : dc_kd g (r * 6 + i) = 1 → ag (nI (r * 6 + i)).toNatClampNeg = nI (dc_ag g (r * 6 + i)) := fun z => by rw [nI_clamp (by omega)]; exact hS.2 _ z
      have hkd := dc_W_kd hW (r * 6 + i)
      have hY : ∀ post : Int32 → Prop, ((dc_KD g (nI (r * 6 + i)).toNatClampNeg = 0 → post (dc_SM g (nI (r * 6 + i)).toNatClampNeg)) ∧ (¬ dc_KD g (nI (r * 6 + i)).toNatClampNeg = 0 → ((dc_KD g (nI (r * 6 + i)).toNatClampNeg = 1 → post ((256 + dc_SM g (nI (r * 6 + i)).toNatClampNeg * 8) + dc_AG g (nI (r * 6 + i)).toNatClampNeg)) ∧ (¬ dc_KD g (nI (r * 6 + i)).toNatClampNeg = 1 → post 512)))) → wpY_item post (dc_y g (nI a) (nI c) op cm d re nx nu ed se) (nI r) (nI i) := by
        intro post hp
        refine br_f (nI_pos (by omega)) (br_f hge (br_f (nI_pos (by omega)) ⟨hin, br_t hlt (nm_r (dc_i6 r i) ⟨hin2, br_c (fun z => ⟨hin2, hp.1 z⟩) (fun z => ⟨hin2, br_c (fun z1 => ⟨hin2, hin2, (hp.2 z).1 z1⟩) (fun z1 => (hp.2 z).2 z1)⟩)⟩)⟩))
      refine br_f (by decide) (nm_r (dc_i6 r i) ⟨hin2, nm_r ek ?_⟩)
      refine pk_eq (dc_kd g (r * 6 + i)) 0 (fun h0 => ?_) (fun h0 => pk_eq (dc_kd g (r * 6 + i)) 1 (fun h1 => ?_) (fun h1 => ?_))
      · have z0 : dc_KD g (nI (r * 6 + i)).toNatClampNeg = 0 := by rw [ek, h0]; exact nI_0
        exact ⟨hin2, hY _ (br_t z0 ⟨by rw [es, es2 (by omega)], J⟩)⟩
      · have z0 : ¬ dc_KD g (nI (r * 6 + i)).toNatClampNeg = 0 := by rw [ek, h1]; decide
        have z1 : dc_KD g (nI (r * 6 + i)).toNatClampNeg = 1 := by rw [ek, h1]; rfl
        exact ⟨hin2, hin2, hY _ (br_f z0 (br_t z1 ⟨by rw [es, es2 (by omega), ea, ea2 h1], J⟩))⟩
      · have h2 : dc_kd g (r * 6 + i) = 2 := by omega
        have z0 : ¬ dc_KD g (nI (r * 6 + i)).toNatClampNeg = 0 := by rw [ek, h2]; decide
        have z1 : ¬ dc_KD g (nI (r * 6 + i)).toNatClampNeg = 1 := by rw [ek, h2]; decide
        exact hY _ (br_f z0 (br_f z1 ⟨rfl, J⟩))
    · refine br_t rfl (br_f (nI_pos (by omega)) (br_f hge (br_c (fun _ => ⟨rfl, J⟩) (fun z => ⟨hin, br_f ?_ ⟨rfl, J⟩⟩))))
      rw [eb]
      exact Int32.not_lt.mpr (hb.resolve_left z)
  · refine br_t rfl (br_c (fun _ => ⟨rfl, J⟩) (fun z => br_t (hb.resolve_left z) ⟨rfl, J⟩))
