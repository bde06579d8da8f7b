/-! ===== addItem ===== -/
/-- the item (kind, a, b) is one, and in the grammar it is (kk, s, b) -/
def dc_gi (p0 p1 p2 : Int32) (kk s b : Nat) : Prop := p0 = nI kk ∧ ((kk = 0 ∧ s < 16 ∧ p1 = nI s ∧ b = 0) ∨ (kk = 1 ∧ s < 6 ∧ b < 6 ∧ p1 = nI s ∧ p2 = nI b) ∨ (kk = 2 ∧ s = 0 ∧ b = 0))
def dc_bi (p0 p1 p2 : Int32) : Prop := (p0 = 0 ∧ (p1 < 0 ∨ nI 16 ≤ p1)) ∨ (p0 = 1 ∧ (p1 < 0 ∨ nI 6 ≤ p1)) ∨ (p0 = 1 ∧ (∃ m, m < 6 ∧ p1 = nI m) ∧ (p2 < 0 ∨ nI 6 ≤ p2)) ∨ (p0 < 0 ∨ nI 3 ≤ p0)
theorem dc_gbi (p0 p1 p2 : Int32) : (∃ kk s b, dc_gi p0 p1 p2 kk s b) ∨ dc_bi p0 p1 p2 := by
  rcases pk_ix p0 (n := 3) (by omega) with h | h | ⟨kk, hk, rfl⟩
  · exact Or.inr (Or.inr (Or.inr (Or.inr (Or.inl h))))
  · exact Or.inr (Or.inr (Or.inr (Or.inr (Or.inr h))))
  · have hc : kk = 0 ∨ kk = 1 ∨ kk = 2 := by omega
    rcases hc with rfl | rfl | rfl
    · rcases pk_ix p1 (n := 16) (by omega) with h | h | ⟨s, hs, rfl⟩
      · exact Or.inr (Or.inl ⟨rfl, Or.inl h⟩)
      · exact Or.inr (Or.inl ⟨rfl, Or.inr h⟩)
      · exact Or.inl ⟨0, s, 0, rfl, Or.inl ⟨rfl, hs, rfl, rfl⟩⟩
    · rcases pk_ix p1 (n := 6) (by omega) with h | h | ⟨s, hs, rfl⟩
      · exact Or.inr (Or.inr (Or.inl ⟨rfl, Or.inl h⟩))
      · exact Or.inr (Or.inr (Or.inl ⟨rfl, Or.inr h⟩))
      · rcases pk_ix p2 (n := 6) (by omega) with h | h | ⟨b, hb, rfl⟩
        · exact Or.inr (Or.inr (Or.inr (Or.inl ⟨rfl, ⟨s, hs, rfl⟩, Or.inl h⟩)))
        · exact Or.inr (Or.inr (Or.inr (Or.inl ⟨rfl, ⟨s, hs, rfl⟩, Or.inr h⟩)))
        · exact Or.inl ⟨1, s, b, rfl, Or.inr (Or.inl ⟨rfl, hs, hb, rfl, rfl⟩)⟩
    · exact Or.inl ⟨2, 0, 0, rfl, Or.inr (Or.inr ⟨rfl, rfl, rfl⟩)⟩
theorem dc_ii1 {post : Int32 → Prop} {p0 p1 p2 : Int32} {kk s b : Nat} (h : dc_gi p0 p1 p2 kk s b) (hp : post 1) : wpX_isItem post p0 p1 p2 := by
  obtain ⟨rfl, ⟨rfl, hs, rfl, _⟩ | ⟨rfl, hs, hb, rfl, rfl⟩ | ⟨rfl, _, _⟩⟩ := h
  · exact br_t nI_0 (dc_x_wi (n := 16) (by omega) (Or.inl ⟨s, hs, rfl, rfl, hp⟩))
  · exact br_f (by decide) (br_t rfl (dc_x_wi (n := 6) (by omega) (Or.inl ⟨s, hs, rfl, br_f (by decide) (dc_x_wi (n := 6) (by omega) (Or.inl ⟨b, hb, rfl, br_f (by decide) hp⟩))⟩)))
  · exact br_f (by decide) (br_f (by decide) (br_t rfl hp))
theorem dc_b012 {p0 : Int32} (h : p0 < 0 ∨ nI 3 ≤ p0) : ¬ p0 = 0 ∧ ¬ p0 = 1 ∧ ¬ p0 = 2 := by
  refine ⟨?_, ?_, ?_⟩ <;> (intro e; subst e; revert h; decide)
theorem dc_ii0 {post : Int32 → Prop} {p0 p1 p2 : Int32} (h : dc_bi p0 p1 p2) (hp : post 0) : wpX_isItem post p0 p1 p2 := by
  rcases h with ⟨rfl, h⟩ | ⟨rfl, h⟩ | ⟨rfl, ⟨m, hm, rfl⟩, h⟩ | h
  · exact br_t rfl (dc_x_wi (n := 16) (by omega) (Or.inr ⟨h, rfl, hp⟩))
  · exact br_f (by decide) (br_t rfl (dc_x_wi (n := 6) (by omega) (Or.inr ⟨h, br_t rfl hp⟩)))
  · exact br_f (by decide) (br_t rfl (dc_x_wi (n := 6) (by omega) (Or.inl ⟨m, hm, rfl, br_f (by decide) (dc_x_wi (n := 6) (by omega) (Or.inr ⟨h, br_t rfl hp⟩))⟩)))
  · obtain ⟨h0, h1, h2⟩ := dc_b012 h
    exact br_f h0 (br_f h1 (br_f h2 hp))
def dc_gA (g : dc_G) (r kk s b : Nat) : dc_G := ((dc_R g, dc_T g), dc_hn g, dc_ha g, dc_un (dc_bl g) r (dc_bl g r + 1), dc_un (dc_kd g) (r * 6 + dc_bl g r) kk, dc_un (dc_sy g) (r * 6 + dc_bl g r) s, dc_un (dc_ag g) (r * 6 + dc_bl g r) b, dc_tk g)
theorem dc_gA_W {g : dc_G} (hW : dc_W g) {r kk s b : Nat} {p0 p1 p2 : Int32} (h : dc_gi p0 p1 p2 kk s b) (hb : dc_bl g r < 6) : dc_W (dc_gA g r kk s b) := by
  have h3 : kk < 3 ∧ s < 16 ∧ b < 6 ∧ (kk = 1 → s < 6) := by
    obtain ⟨_, ⟨h1, h2, _, h4⟩ | ⟨h1, h2, h4, _⟩ | ⟨h1, h2, h4⟩⟩ := h <;> omega
  refine ⟨hW.1, hW.2.1, hW.2.2.1, ?_, dc_un_lt (dc_W_kd hW) h3.1, dc_un_lt (dc_W_sy hW) h3.2.1, ?_, dc_un_lt (dc_W_ag hW) h3.2.2.1, hW.2.2.2.2.2.2.2.2⟩
  · intro q
    show dc_un (dc_bl g) r (dc_bl g r + 1) q ≤ 6
    have := dc_un_lt (f := dc_bl g) (k := r) (x := dc_bl g r + 1) (n := 7) (fun r => by have := dc_W_bl hW r; omega) (by omega) q
    omega
  · intro q
    show dc_un (dc_kd g) (r * 6 + dc_bl g r) kk q = 1 → dc_un (dc_sy g) (r * 6 + dc_bl g r) s q < 6
    by_cases e : q = r * 6 + dc_bl g r
    · subst e; rw [dc_un_s, dc_un_s]; exact h3.2.2.2
    · rw [dc_un_n e, dc_un_n e]; exact dc_W_s1 hW
theorem dc_gA_S {g : dc_G} {sy ag : Nat → Int32} (hS : dc_HS g sy ag) {r kk s b : Nat} {p0 p1 p2 : Int32} (h : dc_gi p0 p1 p2 kk s b) : dc_HS (dc_gA g r kk s b) (upd sy (r * 6 + dc_bl g r) p1) (upd ag (r * 6 + dc_bl g r) p2) := by
  constructor
  · intro q
    show dc_un (dc_kd g) (r * 6 + dc_bl g r) kk q ≠ 2 → _ = nI (dc_un (dc_sy g) (r * 6 + dc_bl g r) s q)
    by_cases e : q = r * 6 + dc_bl g r
    · subst e
      rw [dc_un_s, dc_un_s, pk_us]
      intro hk
      obtain ⟨_, ⟨h1, h2, h3, h4⟩ | ⟨h1, h2, h4, h3, _⟩ | ⟨h1, h2, h4⟩⟩ := h
      · exact h3
      · exact h3
      · exact absurd h1 hk
    · rw [dc_un_n e, dc_un_n e, pk_un e]; exact hS.1 q
  · intro q
    show dc_un (dc_kd g) (r * 6 + dc_bl g r) kk q = 1 → _ = nI (dc_un (dc_ag g) (r * 6 + dc_bl g r) b q)
    by_cases e : q = r * 6 + dc_bl g r
    · subst e
      rw [dc_un_s, dc_un_s, pk_us]
      intro hk
      obtain ⟨_, ⟨h1, h2, h3, h4⟩ | ⟨h1, h2, h4, h3, h5⟩ | ⟨h1, h2, h4⟩⟩ := h
      · omega
      · exact h5
      · omega
    · rw [dc_un_n e, dc_un_n e, pk_un e]; exact hS.2 q
section
variable {g : dc_G} {rc tc op cm : Int32} {sy ag f d re nx nu ed se : Nat → Int32}
theorem dc_y_ai139 (hW : dc_W g) {post : Int32 → SY → Prop} {r q : Nat} {z : Int32} {kd it ib : Nat → Int32} (hr : r < 12) (hq : q < 72) (h : post 1 (rc, tc, nI (dc_R g), nI (dc_T g), op, cm, dc_HN g, dc_HA g, (fun r' => nI (dc_un (dc_bl g) r (dc_bl g r + 1) r')), kd, it, upd ib q z, dc_TK g, d, re, nx, nu, ed, se)) : wY_addItem_139 post (nI r) z (nI q) rc tc (nI (dc_R g)) (nI (dc_T g)) op cm (dc_HN g) (dc_HA g) (dc_BL g) kd it ib (dc_TK g) d re nx nu ed se := by
  have hB := dc_W_bl hW r
  have hin : vp_in (nI r) 12 := vp_in_nI hr (by omega)
  refine ⟨vp_in_nI hq (by omega), nm_r (e' := upd ib q z) (by rw [nI_clamp (by omega)]) ⟨hin, hin, nm_r (e' := fun r' => nI (dc_un (dc_bl g) r (dc_bl g r + 1) r')) ?_ h⟩⟩
  rw [nI_clamp (show r < 2 ^ 31 by omega)]
  show upd (dc_BL g) r (nI (dc_bl g r) + 1) = _
  rw [nI_1]
  exact dc_un_u _ _ _
theorem dc_y_ai83 (hW : dc_W g) {post : Int32 → SY → Prop} {r kk s b : Nat} {p0 p1 p2 : Int32} (hg : dc_gi p0 p1 p2 kk s b) (hr : r < 12) (hb : dc_bl g r < 6) (h : post 1 (dc_y (dc_gA g r kk s b) rc tc op cm d re nx nu ed se)) : wY_addItem_83 post p0 p1 p2 (nI r) rc tc (nI (dc_R g)) (nI (dc_T g)) op cm (dc_HN g) (dc_HA g) (dc_BL g) (dc_KD g) (dc_SM g) (dc_AG g) (dc_TK g) d re nx nu ed se := by
  have hq : r * 6 + dc_bl g r < 72 := by omega
  have hin : vp_in (nI r) 12 := vp_in_nI hr (by omega)
  have hin2 : vp_in (nI (r * 6 + dc_bl g r)) 72 := vp_in_nI hq (by omega)
  have e5 : nI r * 6 + dc_BL g (nI r).toNatClampNeg = nI (r * 6 + dc_bl g r) := by
    rw [dc_at (dc_BL g) (show r < 2 ^ 31 by omega)]; exact dc_i6 _ _
  have hcl : (nI (r * 6 + dc_bl g r)).toNatClampNeg = r * 6 + dc_bl g r := nI_clamp (by omega)
  have ek : upd (dc_KD g) (nI (r * 6 + dc_bl g r)).toNatClampNeg p0 = dc_KD (dc_gA g r kk s b) := by rw [hcl, hg.1]; exact dc_un_u _ _ _
  refine ⟨hin, nm_r e5 ⟨hin2, nm_r ek ?_⟩⟩
  have h' : ∀ (z1 z2 : Int32), z1 = nI s → z2 = nI b → ((p0 = 1 → z2 = p2) ∧ (¬ p0 = 1 → z2 = 0)) → wY_addItem_122 post p0 p2 (nI r) (nI (r * 6 + dc_bl g r)) z1 (nI (r * 6 + dc_bl g r)) rc tc (nI (dc_R g)) (nI (dc_T g)) op cm (dc_HN g) (dc_HA g) (dc_BL g) (dc_KD (dc_gA g r kk s b)) (dc_SM g) (dc_AG g) (dc_TK g) d re nx nu ed se := by
    intro z1 z2 e1 e2 hz
    subst e1
    have es : upd (dc_SM g) (nI (r * 6 + dc_bl g r)).toNatClampNeg (nI s) = dc_SM (dc_gA g r kk s b) := by rw [hcl]; exact dc_un_u _ _ _
    have eg : upd (dc_AG g) (r * 6 + dc_bl g r) z2 = dc_AG (dc_gA g r kk s b) := by rw [e2]; exact dc_un_u _ _ _
    have go : ∀ z, z = z2 → wY_addItem_139 post (nI r) z (nI (r * 6 + dc_bl g r)) rc tc (nI (dc_R g)) (nI (dc_T g)) op cm (dc_HN g) (dc_HA g) (dc_BL g) (dc_KD (dc_gA g r kk s b)) (dc_SM (dc_gA g r kk s b)) (dc_AG g) (dc_TK g) d re nx nu ed se := by
      intro z ez
      subst ez
      refine dc_y_ai139 hW hr hq ?_
      rw [eg]
      exact h
    exact ⟨hin2, nm_r es (br_c (fun y => go p2 (hz.1 y).symm) (fun y => go 0 (hz.2 y).symm))⟩
  obtain ⟨rfl, ⟨rfl, hs, rfl, rfl⟩ | ⟨rfl, hs, hb2, rfl, rfl⟩ | ⟨rfl, rfl, rfl⟩⟩ := hg
  · exact br_f (by decide) (h' _ 0 rfl rfl ⟨fun y => absurd y (by decide), fun _ => rfl⟩)
  · exact br_f (by decide) (h' _ (nI b) rfl rfl ⟨fun _ => rfl, fun y => absurd rfl y⟩)
  · exact br_t rfl (h' 0 0 rfl rfl ⟨fun y => absurd y (by decide), fun _ => rfl⟩)
theorem dc_y_ai1 (hW : dc_W g) {post : Int32 → SY → Prop} {r kk s b : Nat} {p0 p1 p2 : Int32} (hg : dc_gi p0 p1 p2 kk s b) (hr : r < 12) (hR : dc_R g = r + 1) (ho : ¬ op = 0) (hb : dc_bl g r < 6) (h : post 1 (dc_y (dc_gA g r kk s b) rc tc op cm d re nx nu ed se)) : wpY_addItem post (dc_y g rc tc op cm d re nx nu ed se) p0 p1 p2 := by
  have e1 : nI (dc_R g) - 1 = nI r := by rw [hR]; exact nI_pred r
  have h83 := dc_y_ai83 (rc := rc) (tc := tc) (op := op) (cm := cm) hW hg hr hb h
  refine br_f ho (nm_r e1 ⟨vp_in_nI hr (by omega), pk_lt (dc_bl g r) 6 (fun _ => ?_) (fun z => absurd hb (by omega)) (dc_at (dc_BL g) (by omega))⟩)
  obtain ⟨rfl, ⟨rfl, hs, rfl, rfl⟩ | ⟨rfl, hs, hb2, rfl, rfl⟩ | ⟨rfl, rfl, rfl⟩⟩ := hg
  · exact dc_in2 (n := 2) (by omega) (by omega) (br_t rfl (dc_in2 (n := 15) (by omega) hs (br_f (by decide) h83)))
  · exact dc_in2 (n := 2) (by omega) (by omega) (br_f (by decide) (br_t rfl (dc_in1 (n := 5) (by omega) hs (dc_in2 (n := 5) (by omega) hb2 h83))))
  · exact dc_in2 (n := 2) (by omega) (by omega) (br_f (by decide) (br_f (by decide) h83))
theorem dc_y_ai0 {post : Int32 → SY → Prop} {r : Nat} {p0 p1 p2 : Int32} (hr : r < 12) (hR : dc_R g = r + 1) (ho : ¬ op = 0) (hW : dc_W g) (hb : 6 ≤ dc_bl g r ∨ dc_bi p0 p1 p2) (h : post 0 (dc_y g rc tc op cm d re nx nu ed se)) : wpY_addItem post (dc_y g rc tc op cm d re nx nu ed se) p0 p1 p2 := by
  have e1 : nI (dc_R g) - 1 = nI r := by rw [hR]; exact nI_pred r
  have hB := dc_W_bl hW r
  refine br_f ho (nm_r e1 ⟨vp_in_nI hr (by omega), pk_lt (dc_bl g r) 6 (fun z => ?_) (fun z => h) (dc_at (dc_BL g) (by omega))⟩)
  rcases hb with hb | hb
  · omega
  · rcases hb with ⟨rfl, hb⟩ | ⟨rfl, hb⟩ | ⟨rfl, ⟨m, hm, rfl⟩, hb⟩ | hb
    · exact dc_in2 (j := 0) (n := 2) (by omega) (by omega) (br_t rfl (dc_lo2 (n := 15) (by omega) hb h))
    · exact dc_in2 (j := 1) (n := 2) (by omega) (by omega) (br_f (by decide) (br_t rfl (dc_lo1 (n := 5) (by omega) hb h)))
    · exact dc_in2 (j := 1) (n := 2) (by omega) (by omega) (br_f (by decide) (br_t rfl (dc_in1 (n := 5) (by omega) hm (dc_lo2 (n := 5) (by omega) hb h))))
    · exact dc_lo2 (n := 2) (by omega) hb h
end
theorem i_vc_addItem {k : Nat} {u : SX} {v : SY} (I : i_Rel k u v) (hk : k + 5 ≤ 2562) (v1 : Int32) (v2 : Int32) (v3 : Int32) : wpX_addItem (fun r u' => wpY_addItem (fun r' v' => r' = r ∧ i_Rel (k + 5) u' v') v v1 v2 v3) u v1 v2 v3 := by
  obtain ⟨g, a, c, op, cm, sy, ag, f, d, re, nx, nu, ed, se, rfl, rfl, hr⟩ := I
  have J : i_Rel (k + 5) (dc_x g (nI a) (nI c) op cm sy ag f) (dc_y g (nI a) (nI c) op cm d re nx nu ed se) := dc_rel d re nx nu ed se hr
  obtain ⟨hW, hS, hac, ho, hf⟩ := hr
  by_cases h0 : op = 0
  · exact br_t h0 (br_t h0 ⟨rfl, J⟩)
  · obtain ⟨hR1, hcm⟩ := ho h0
    have hR12 := dc_W_R hW
    obtain ⟨r, hR⟩ : ∃ r, dc_R g = r + 1 := ⟨dc_R g - 1, by omega⟩
    have hr12 : r < 12 := by omega
    have hB := dc_W_bl hW r
    have e1 : nI (dc_R g) - 1 = nI r := by rw [hR]; exact nI_pred r
    have hin : vp_in (nI r) 12 := vp_in_nI hr12 (by omega)
    unfold wpX_addItem
    dsimp only
    rw [e1]
    refine br_f h0 ⟨hin, pk_lt (dc_bl g r) 6 (fun hb => ?_) (fun hb => ?_) (dc_at (dc_BL g) (by omega))⟩
    · rcases dc_gbi v1 v2 v3 with ⟨kk, s, b, hg⟩ | hbi
      · have hq : r * 6 + dc_bl g r < 72 := by omega
        have hin2 : vp_in (nI (r * 6 + dc_bl g r)) 72 := vp_in_nI hq (by omega)
        have e5 : nI r * 6 + dc_BL g (nI r).toNatClampNeg = nI (r * 6 + dc_bl g r) := by
          rw [dc_at (dc_BL g) (show r < 2 ^ 31 by omega)]; exact dc_i6 _ _
        have hcl : (nI (r * 6 + dc_bl g r)).toNatClampNeg = r * 6 + dc_bl g r := nI_clamp (by omega)
        have ek : upd (dc_KD g) (nI (r * 6 + dc_bl g r)).toNatClampNeg v1 = dc_KD (dc_gA g r kk s b) := by rw [hcl, hg.1]; exact dc_un_u _ _ _
        have es : upd sy (nI (r * 6 + dc_bl g r)).toNatClampNeg v2 = upd sy (r * 6 + dc_bl g r) v2 := by rw [hcl]
        have ea : upd ag (nI (r * 6 + dc_bl g r)).toNatClampNeg v3 = upd ag (r * 6 + dc_bl g r) v3 := by rw [hcl]
        have eb : upd (dc_BL g) (nI r).toNatClampNeg (dc_BL g (nI r).toNatClampNeg + 1) = dc_BL (dc_gA g r kk s b) := by
          rw [nI_clamp (show r < 2 ^ 31 by omega)]
          show upd (dc_BL g) r (nI (dc_bl g r) + 1) = _
          rw [nI_1]
          exact dc_un_u _ _ _
        refine dc_ii1 hg (br_f (by decide) (nm_e ⟨hin, nm_r e5 ⟨hin2, nm_r ek ⟨hin2, nm_r es ⟨hin2, nm_r ea ⟨hin, hin, nm_r eb ?_⟩⟩⟩⟩⟩))
        refine dc_y_ai1 hW hg hr12 hR h0 hb ⟨rfl, ?_⟩
        exact dc_rel (g := dc_gA g r kk s b) d re nx nu ed se ⟨dc_gA_W hW hg hb, dc_gA_S hS hg, hac, fun _ => ⟨hR1, hcm⟩, fun z => absurd hcm z⟩
      · exact dc_ii0 hbi (br_t rfl (dc_y_ai0 hr12 hR h0 hW (Or.inr hbi) ⟨rfl, J⟩))
    · exact dc_y_ai0 hr12 hR h0 hW (Or.inl hb) ⟨rfl, J⟩
