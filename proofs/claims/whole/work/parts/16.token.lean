section
variable {g : dc_G} {rc tc op cm : Int32} {sy ag f d re nx nu ed se : Nat → Int32}
/-! ===== compile ===== -/
theorem dc_x_co20 (hW : dc_W g) (hS : dc_HS g sy ag) {post : Int32 → SX → Prop} (h3 : (∃ m, m < 6 ∧ dc_L g m m) → post 3 (dc_x g rc tc op cm sy ag f)) (h0 : (∀ m, m < 6 → ¬ dc_L g m m) → ∀ f', dc_FX g f' → post 0 (dc_x g rc tc op 1 sy ag f')) : ∀ n m, m ≤ 6 → 6 - m < n → (∀ m', m' < m → ¬ dc_L g m' m') → wX_compile_20 post rc tc (nI (dc_R g)) op cm (nI (dc_T g)) (dc_HN g) (dc_HA g) (dc_BL g) (dc_KD g) sy ag (dc_TK g) f n (nI m) := by
  intro n
  induction n with
  | zero => intro m h1 h2; omega
  | succ n ih =>
    intro m hm hn hno
    refine pk_le 6 m (fun h1 => ?_) (fun h1 => ?_)
    · have e : m = 6 := by omega
      subst e
      exact dc_x_ds (cm := 1) hW hS (fun f' hf' => h0 hno f' (hf' (by decide)))
    · refine dc_x_lc hW hS h1 (fun b hb => dc_if (dc_bo_0 hb) (fun h2 => ?_) (fun h2 => ?_))
      · refine nm_r (nI_1 m) (ih (m + 1) (by omega) (by omega) ?_)
        intro m' hm'
        by_cases e : m' = m
        · rw [e]; exact h2
        · exact hno m' (by omega)
      · exact h3 ⟨m, h1, Classical.not_not.mp h2⟩
theorem dc_y_co28 (hW : dc_W g) (hed : dc_is ed 36 (dc_es g (dc_R g) 0)) {post : Int32 → SY → Prop} (h3 : (∃ m, m < 6 ∧ dc_L g m m) → ∀ se, post 3 (dc_y g rc tc op cm d re nx nu ed se)) (h0 : (∀ m, m < 6 → ¬ dc_L g m m) → ∀ se, post 0 (dc_y g rc tc op 1 d re nx nu ed se)) : ∀ n m se, m ≤ 6 → 6 - m < n → (∀ m', m' < m → ¬ dc_L g m' m') → wY_compile_28 post n (nI m) rc tc (nI (dc_R g)) (nI (dc_T g)) op cm (dc_HN g) (dc_HA g) (dc_BL g) (dc_KD g) (dc_SM g) (dc_AG g) (dc_TK g) d re nx nu ed se := by
  intro n
  induction n with
  | zero => intro m se h1 h2; omega
  | succ n ih =>
    intro m se hm hn hno
    refine pk_le 6 m (fun h1 => ?_) (fun h1 => ?_)
    · have e : m = 6 := by omega
      subst e
      exact h0 hno se
    · refine dc_y_cf hW hed h1 (fun b se' hb => dc_if (dc_bo_0 hb) (fun h2 => ?_) (fun h2 => ?_))
      · refine nm_r (nI_1 m) (ih (m + 1) se' (by omega) (by omega) ?_)
        intro m' hm'
        by_cases e : m' = m
        · rw [e]; exact h2
        · exact hno m' (by omega)
      · exact h3 ⟨m, h1, Classical.not_not.mp h2⟩ se'
end
theorem i_vc_compile {k : Nat} {u : SX} {v : SY} (I : i_Rel k u v) (hk : k + 5 ≤ 2562) : wpX_compile (fun r u' => wpY_compile (fun r' v' => r' = r ∧ i_Rel (k + 5) u' v') v) u := by
  obtain ⟨g, a, c, op, cm, sy, ag, f, d, re, nx, nu, ed, se, rfl, rfl, hr⟩ := I
  have J : ∀ d re nx nu ed se, i_Rel (k + 5) (dc_x g (nI a) (nI c) op cm sy ag f) (dc_y g (nI a) (nI c) op cm d re nx nu ed se) := fun d re nx nu ed se => dc_rel d re nx nu ed se hr
  obtain ⟨hW, hS, hac, ho, hf⟩ := hr
  have hR12 := dc_W_R hW
  by_cases h0 : op = 0
  · by_cases hR : dc_R g = 0
    · have e : nI (dc_R g) = 0 := by rw [hR]; exact nI_0
      exact br_t h0 (br_t e (br_t h0 (br_t e ⟨rfl, J _ _ _ _ _ _⟩)))
    · have e : ¬ nI (dc_R g) = 0 := nI_ne0 (by omega) (by omega)
      have hY : ∀ post : Int32 → SY → Prop, ((∃ m, m < 6 ∧ dc_L g m m) → ∀ nu ed se, post 3 (dc_y g (nI a) (nI c) op cm d re nx nu ed se)) → ((∀ m, m < 6 → ¬ dc_L g m m) → ∀ nu ed se, post 0 (dc_y g (nI a) (nI c) op 1 d re nx nu ed se)) → wpY_compile post (dc_y g (nI a) (nI c) op cm d re nx nu ed se) := by
        intro post h3 h4
        refine br_t h0 (br_f e (dc_y_cn hW (fun nu' hnu => dc_y_ce hW hnu (fun ed' hed => ⟨7, ?_⟩))))
        exact dc_y_co28 hW hed (fun hz se' => h3 hz nu' ed' se') (fun hz se' => h4 hz nu' ed' se') 7 0 se (by omega) (by omega) (fun m' hm' => by omega)
      refine br_t h0 (br_f e ⟨7, dc_x_co20 hW hS (fun hz => ?_) (fun hz f' hf' => ?_) 7 0 (by omega) (by omega) (fun m' hm' => by omega)⟩)
      · exact hY _ (fun _ nu ed se => ⟨rfl, J _ _ _ _ _ _⟩) (fun y => by obtain ⟨m, h1, h2⟩ := hz; exact absurd h2 (y m h1))
      · refine hY _ (fun ⟨m, h1, h2⟩ => absurd h2 (hz m h1)) (fun _ nu ed se => ⟨rfl, ?_⟩)
        exact dc_rel d re nx nu ed se ⟨hW, hS, hac, fun z => absurd h0 z, fun _ => hf'⟩
  · exact br_f h0 (br_f h0 ⟨rfl, J _ _ _ _ _ _⟩)
/-! ===== addToken, clearTokens ===== -/
def dc_gT (g : dc_G) (t : Nat) : dc_G := ((dc_R g, dc_T g + 1), dc_hn g, dc_ha g, dc_bl g, dc_kd g, dc_sy g, dc_ag g, dc_un (dc_tk g) (dc_T g) t)
theorem i_vc_addToken {k : Nat} {u : SX} {v : SY} (I : i_Rel k u v) (hk : k + 5 ≤ 2562) (v1 : Int32) : wpX_addToken (fun r u' => wpY_addToken (fun r' v' => r' = r ∧ i_Rel (k + 5) u' v') v v1) u v1 := by
  obtain ⟨g, a, c, op, cm, sy, ag, f, d, re, nx, nu, ed, se, rfl, rfl, hr⟩ := I
  have J : i_Rel (k + 5) (dc_x g (nI a) (nI c) op cm sy ag f) (dc_y g (nI a) (nI c) op cm d re nx nu ed se) := dc_rel d re nx nu ed se hr
  obtain ⟨hW, hS, ⟨ha, hc, hRa, hTc⟩, ho, hf⟩ := hr
  unfold wpX_addToken
  dsimp only
  refine dc_x_wc (n := 16) (by omega) (fun t ht et => ?_) (fun hb => ?_)
  · subst et
    refine br_f (by decide) ?_
    by_cases hT : dc_T g = c
    · have hn : ¬ nI (dc_T g) < nI c := nI_nlt (by omega) (by omega)
      have he : nI (dc_T g) = nI c := by rw [hT]
      exact br_f hn (dc_in2 (n := 15) (by omega) ht (br_t he ⟨rfl, J⟩))
    · have hn : nI (dc_T g) < nI c := nI_lt (by omega) (by omega)
      have he : ¬ nI (dc_T g) = nI c := fun z => hT ((nI_eq (by omega) (by omega)).mp z)
      have hi : vp_in (nI (dc_T g)) 8 := vp_in_nI (by omega) (by omega)
      have e1 : upd (dc_TK g) (nI (dc_T g)).toNatClampNeg (nI t) = dc_TK (dc_gT g t) := by rw [nI_clamp (by omega)]; exact dc_un_u _ _ _
      have hW' : dc_W (dc_gT g t) := by
        refine ⟨⟨hW.1.1, ?_⟩, hW.2.1, hW.2.2.1, hW.2.2.2.1, hW.2.2.2.2.1, hW.2.2.2.2.2.1, hW.2.2.2.2.2.2.1, hW.2.2.2.2.2.2.2.1, dc_un_lt (dc_W_tk hW) ht⟩
        show dc_T g + 1 ≤ 8
        omega
      have hS' : dc_HS (dc_gT g t) sy ag := hS
      refine br_t hn ⟨hi, nm_r e1 (nm_r (nI_1 _) ?_)⟩
      refine dc_x_ds (g := dc_gT g t) hW' hS' (fun f' hf' => ?_)
      refine dc_in2 (n := 15) (by omega) ht (br_f he ⟨hi, nm_r e1 (nm_r (nI_1 _) ⟨rfl, ?_⟩)⟩)
      refine dc_rel (g := dc_gT g t) d re nx nu ed se ⟨hW', hS', ⟨ha, hc, hRa, ?_⟩, ho, hf'⟩
      show dc_T g + 1 ≤ c
      omega
  · exact br_t rfl (dc_lo2 (n := 15) (by omega) hb ⟨rfl, J⟩)
def dc_gC (g : dc_G) : dc_G := ((dc_R g, 0), dc_hn g, dc_ha g, dc_bl g, dc_kd g, dc_sy g, dc_ag g, dc_tk g)
theorem i_vc_clearTokens {k : Nat} {u : SX} {v : SY} (I : i_Rel k u v) (hk : k + 5 ≤ 2562) : wpX_clearTokens (fun u' => wpY_clearTokens (fun v' => i_Rel (k + 5) u' v') v) u := by
  obtain ⟨g, a, c, op, cm, sy, ag, f, d, re, nx, nu, ed, se, rfl, rfl, hr⟩ := I
  obtain ⟨hW, hS, ⟨ha, hc, hRa, hTc⟩, ho, hf⟩ := hr
  have hW' : dc_W (dc_gC g) := ⟨⟨hW.1.1, Nat.zero_le 8⟩, hW.2⟩
  have hS' : dc_HS (dc_gC g) sy ag := hS
  unfold wpX_clearTokens
  dsimp only
  refine dc_x_ds (g := dc_gC g) hW' hS' (fun f' hf' => ?_)
  exact dc_rel (k := k + 5) (g := dc_gC g) (op := op) (cm := cm) (sy := sy) (ag := ag) (f := f') d re nx nu ed se ⟨hW', hS', ⟨ha, hc, hRa, Nat.zero_le c⟩, ho, hf'⟩
/-! ===== onLeftCycle ===== -/
theorem i_vc_onLeftCycle {k : Nat} {u : SX} {v : SY} (I : i_Rel k u v) (hk : k + 5 ≤ 2562) (v1 : Int32) : wpX_onLeftCycle (fun r => wpY_onLeftCycle (fun r' v' => r' = r ∧ i_Rel (k + 5) u v') v v1) u v1 := by
  obtain ⟨g, a, c, op, cm, sy, ag, f, d, re, nx, nu, ed, se, rfl, rfl, hr⟩ := I
  have J : ∀ d re nx nu ed se, i_Rel (k + 5) (dc_x g (nI a) (nI c) op cm sy ag f) (dc_y g (nI a) (nI c) op cm d re nx nu ed se) := fun d re nx nu ed se => dc_rel d re nx nu ed se hr
  obtain ⟨hW, hS, hac, ho, hf⟩ := hr
  rcases pk_ix v1 (n := 6) (by omega) with h | h | ⟨m, hm, rfl⟩
  · unfold wpX_onLeftCycle
    dsimp only
    exact dc_x_wi (n := 6) (by omega) (Or.inr ⟨Or.inl h, br_t rfl (dc_lo2 (n := 5) (by omega) (Or.inl h) ⟨rfl, J _ _ _ _ _ _⟩)⟩)
  · unfold wpX_onLeftCycle
    dsimp only
    exact dc_x_wi (n := 6) (by omega) (Or.inr ⟨Or.inr h, br_t rfl (dc_lo2 (n := 5) (by omega) (Or.inr h) ⟨rfl, J _ _ _ _ _ _⟩)⟩)
  · refine dc_x_lc hW hS hm (fun b hb => dc_in2 (n := 5) (by omega) hm (dc_y_cn hW (fun nu' hnu => dc_y_ce hW hnu (fun ed' hed => dc_y_cf hW hed hm (fun b' se' hb' => ⟨dc_nar01 (dc_bo_01 hb'), dc_bo_u hb' hb, J _ _ _ _ _ _⟩)))))
