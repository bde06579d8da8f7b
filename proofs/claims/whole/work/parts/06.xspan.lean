section
variable {g : dc_G} {rc tc op cm : Int32} {sy ag f : Nat → Int32}
theorem dc_x_av {post : Int32 → Prop} {c x0 x1 : Nat} (hc : c < 6) (h : post (nI (dc_vl c x0 x1))) : wpX_argumentValue post (nI c) (nI x0) (nI x1) := by
  refine pk_eq c 4 (fun e => ?_) (fun e => pk_eq c 5 (fun e' => ?_) (fun e' => ?_))
  · subst e; exact h
  · subst e'; exact h
  · unfold dc_vl at h
    rw [if_pos (by omega)] at h
    exact h
theorem dc_x_tkL (hW : dc_W g) {post : Int32 → Prop} {w : Int32} {t : Nat} (ht : t < 16) : ∀ n p a, p ≤ dc_T g → dc_T g - p < n → (∀ j, dc_h a j ↔ ∃ q, q < p ∧ (dc_h w q ∧ dc_tk g q = t ∧ j = q + 1)) → (∀ b, (∀ j, dc_h b j ↔ ∃ q, q < dc_T g ∧ (dc_h w q ∧ dc_tk g q = t ∧ j = q + 1)) → post b) → wX_placesAfterToken_5 post w (nI t) rc tc (nI (dc_R g)) op cm (nI (dc_T g)) (dc_HN g) (dc_HA g) (dc_BL g) (dc_KD g) sy ag (dc_TK g) f n a (nI p) := by
  have hT := dc_W_T hW
  intro n
  induction n with
  | zero => intro p a h1 h2; omega
  | succ n ih =>
    intro p a hp hn ha hpost
    refine pk_le (dc_T g) p (fun h => ?_) (fun h => ?_)
    · have e : p = dc_T g := by omega
      subst e
      exact hpost a ha
    · refine dc_if (dc_hbit (p := p) (by omega) w) (fun h1 => ?_) (fun h1 => ?_)
      · have hk := dc_W_tk hW p
        refine ⟨vp_in_nI (by omega) (by omega), pk_eq (dc_tk g p) t (fun h2 => ?_) (fun h2 => ?_) (dc_at (dc_TK g) (by omega)) rfl (by omega) (by omega)⟩
        · refine nm_e (nm_r (nI_1 p) (ih (p + 1) _ (by omega) (by omega) ?_ hpost))
          intro j
          rw [dc_hor, nI_1 p, dc_hone (by omega), ha]
          exact dc_exy ⟨fun z => z.2.2, fun z => ⟨h1, h2, z⟩⟩
        · refine nm_r (nI_1 p) (ih (p + 1) _ (by omega) (by omega) ?_ hpost)
          intro j
          rw [ha]
          exact dc_exn (fun z => h2 z.2.1)
      · refine nm_r (nI_1 p) (ih (p + 1) _ (by omega) (by omega) ?_ hpost)
        intro j
        rw [ha]
        exact dc_exn (fun z => h1 z.1)
theorem dc_x_tk (hW : dc_W g) {post : Int32 → Prop} {w : Int32} {t : Nat} (ht : t < 16) (h : ∀ b, (∀ j, dc_h b j ↔ ∃ q, q < dc_T g ∧ (dc_h w q ∧ dc_tk g q = t ∧ j = q + 1)) → post b) : wpX_placesAfterToken post (dc_x g rc tc op cm sy ag f) w (nI t) :=
  ⟨dc_T g + 1, dc_x_tkL hW ht _ 0 0 (by omega) (by omega) (fun j => dc_h00 j) h⟩
theorem dc_x_ntL (hW : dc_W g) {post : Int32 → Prop} {w : Int32} {m v : Nat} (hm : m < 6) (hv : v < 4) : ∀ n p a, p ≤ dc_T g + 1 → dc_T g + 1 - p < n → (∀ j, dc_h a j ↔ ∃ q, q < p ∧ (dc_h w q ∧ dc_h (f ((m * 4 + v) * 9 + q)) j)) → (∀ b, (∀ j, dc_h b j ↔ ∃ q, q < dc_T g + 1 ∧ (dc_h w q ∧ dc_h (f ((m * 4 + v) * 9 + q)) j)) → post b) → wX_placesAfterNonterminal_16 post w (nI ((m * 4 + v) * 9)) rc tc (nI (dc_R g)) op cm (nI (dc_T g)) (dc_HN g) (dc_HA g) (dc_BL g) (dc_KD g) sy ag (dc_TK g) f n a (nI p) := by
  have hT := dc_W_T hW
  intro n
  induction n with
  | zero => intro p a h1 h2; omega
  | succ n ih =>
    intro p a hp hn ha hpost
    refine pk_lt (dc_T g) p (fun h => ?_) (fun h => ?_)
    · have e : p = dc_T g + 1 := by omega
      subst e
      exact hpost a ha
    · refine dc_if (dc_hbit (p := p) (by omega) w) (fun h1 => ?_) (fun h1 => ?_)
      · refine ⟨?_, ?_⟩
        · rw [nI_add]; exact vp_in_nI (by omega) (by omega)
        · refine nm_r (e' := a ||| f ((m * 4 + v) * 9 + p)) (by rw [nI_add, nI_clamp (by omega)]) (nm_r (nI_1 p) (ih (p + 1) _ (by omega) (by omega) ?_ hpost))
          intro j
          rw [dc_hor, ha]
          exact dc_exy ⟨fun z => z.2, fun z => ⟨h1, z⟩⟩
      · refine nm_r (nI_1 p) (ih (p + 1) _ (by omega) (by omega) ?_ hpost)
        intro j
        rw [ha]
        exact dc_exn (fun z => h1 z.1)
theorem dc_x_nt (hW : dc_W g) {post : Int32 → Prop} {w : Int32} {m v : Nat} (hm : m < 6) (hv : v < 4) (h : ∀ b, (∀ j, dc_h b j ↔ ∃ q, q < dc_T g + 1 ∧ (dc_h w q ∧ dc_h (f ((m * 4 + v) * 9 + q)) j)) → post b) : wpX_placesAfterNonterminal post (dc_x g rc tc op cm sy ag f) w (nI m) (nI v) :=
  nm_r (e' := nI ((m * 4 + v) * 9)) (by rw [dc_i4, show (9 : Int32) = nI 9 from rfl, pk_mul]) ⟨dc_T g + 2, dc_x_ntL hW hm hv _ 0 0 (by omega) (by omega) (fun j => dc_h00 j) h⟩
theorem dc_x_bdL (hW : dc_W g) (hS : dc_HS g sy ag) (hs : dc_su (dc_SX f) (dc_D g)) {post : Int32 → Prop} {r x0 x1 i : Nat} (hr : r < 12) (h0 : x0 < 4) (h1 : x1 < 4) (hi : i ≤ dc_T g) : ∀ n k a b, k ≤ dc_bl g r → dc_bl g r - k < n → (∀ j, dc_h a j ↔ ∃ q, q < k ∧ (dc_kd g (r * 6 + q) = 2 ∧ dc_pl g (dc_SX f) r x0 x1 i q j)) → (∀ j, dc_h b j ↔ dc_pl g (dc_SX f) r x0 x1 i k j) → (∀ c, (∀ j, dc_h c j ↔ dc_bd g (dc_SX f) r x0 x1 i j) → post c) → wX_bodyEnds_12 post (nI r) (nI x0) (nI x1) (nI i) rc tc (nI (dc_R g)) op cm (nI (dc_T g)) (dc_HN g) (dc_HA g) (dc_BL g) (dc_KD g) sy ag (dc_TK g) f n a b (nI k) := by
  have hT := dc_W_T hW
  have hB := dc_W_bl hW r
  intro n
  induction n with
  | zero => intro k a b h1 h2; omega
  | succ n ih =>
    intro k a b hk hn ha hb hpost
    refine ⟨vp_in_nI (by omega) (by omega), pk_le (dc_bl g r) k (fun h => ?_) (fun h => ?_) (dc_at (dc_BL g) (by omega))⟩
    · have e : k = dc_bl g r := by omega
      subst e
      refine hpost _ (fun j => ?_)
      rw [dc_hor, ha, hb, dc_bd_iff]
    · have hq : r * 6 + k < 72 := by omega
      have hkd := dc_W_kd hW (r * 6 + k)
      refine nm_r (dc_i6 r k) ⟨vp_in_nI hq (by omega), pk_eq (dc_kd g (r * 6 + k)) 2 (fun h2 => ?_) (fun h2 => ?_) (dc_at (dc_KD g) (by omega))⟩
      · refine nm_e (nm_e (nm_r (nI_1 k) (ih (k + 1) _ _ (by omega) (by omega) ?_ ?_ hpost)))
        · intro j
          rw [dc_hor, ha, hb]
          exact dc_exy ⟨fun z => z.2, fun z => ⟨h2, z⟩⟩
        · intro j
          rw [dc_hone (by omega)]
          exact ⟨fun z => Or.inl ⟨h2, z⟩, fun z => z.elim (fun y => y.2) (fun y => absurd h2 y.1)⟩
      · have ha' : ∀ j, dc_h a j ↔ ∃ q, q < k + 1 ∧ (dc_kd g (r * 6 + q) = 2 ∧ dc_pl g (dc_SX f) r x0 x1 i q j) := by
          intro j
          rw [ha]
          exact dc_exn (fun z => h2 z.1)
        refine ⟨vp_in_nI hq (by omega), pk_eq (dc_kd g (r * 6 + k)) 0 (fun h3 => ?_) (fun h3 => ?_) (dc_at (dc_KD g) (by omega))⟩
        · refine ⟨vp_in_nI hq (by omega), ?_⟩
          have es : sy (nI (r * 6 + k)).toNatClampNeg = nI (dc_sy g (r * 6 + k)) := by rw [nI_clamp (by omega)]; exact hS.1 _ h2
          rw [es]
          refine dc_x_tk hW (dc_W_sy hW _) (fun c hc => nm_r (nI_1 k) (ih (k + 1) _ _ (by omega) (by omega) ha' ?_ hpost))
          intro j
          rw [hc]
          constructor
          · intro ⟨q, hq1, hq2, hq3, hq4⟩
            exact Or.inr ⟨h2, Or.inl ⟨h3, q, hq1, (hb q).mp hq2, hq3, hq4⟩⟩
          · intro z
            rcases z with z | ⟨_, ⟨_, q, hq1, hq2, hq3, hq4⟩ | ⟨z, _⟩⟩
            · exact absurd z.1 h2
            · exact ⟨q, hq1, (hb q).mpr hq2, hq3, hq4⟩
            · exact absurd h3 z
        · refine ⟨vp_in_nI hq (by omega), ?_⟩
          have hk1 : dc_kd g (r * 6 + k) = 1 := by omega
          have es : sy (nI (r * 6 + k)).toNatClampNeg = nI (dc_sy g (r * 6 + k)) := by rw [nI_clamp (by omega)]; exact hS.1 _ h2
          have ea : ag (nI (r * 6 + k)).toNatClampNeg = nI (dc_ag g (r * 6 + k)) := by rw [nI_clamp (by omega)]; exact hS.2 _ hk1
          rw [es, ea]
          refine dc_x_av (dc_W_ag hW _) ⟨vp_in_nI hq (by omega), ?_⟩
          have hv4 := dc_vl4 (c := dc_ag g (r * 6 + k)) h0 h1
          refine dc_x_nt hW (dc_W_s1 hW hk1) hv4 (fun c hc => nm_r (nI_1 k) (ih (k + 1) _ _ (by omega) (by omega) ha' ?_ hpost))
          intro j
          rw [hc]
          constructor
          · intro ⟨q, hq1, hq2, hq3⟩
            have hsx : dc_SX f (dc_sy g (r * 6 + k)) (dc_vl (dc_ag g (r * 6 + k)) x0 x1) q j := ⟨⟨dc_W_s1 hW hk1, hv4, by omega⟩, hq3⟩
            have hin := dc_D_in hW (hs _ _ _ _ hsx)
            exact Or.inr ⟨h2, Or.inr ⟨h3, q, by omega, (hb q).mp hq2, hin.2.2.1, hin.2.2.2, hsx⟩⟩
          · intro z
            rcases z with z | ⟨_, ⟨z, _⟩ | ⟨_, q, hq1, hq2, hq3, hq4, hq5⟩⟩
            · exact absurd z.1 h2
            · exact absurd z h3
            · exact ⟨q, by omega, (hb q).mpr hq2, hq5.2⟩
theorem dc_x_bd (hW : dc_W g) (hS : dc_HS g sy ag) (hs : dc_su (dc_SX f) (dc_D g)) {post : Int32 → Prop} {r x0 x1 i : Nat} (hr : r < 12) (h0 : x0 < 4) (h1 : x1 < 4) (hi : i ≤ dc_T g) (h : ∀ c, (∀ j, dc_h c j ↔ dc_bd g (dc_SX f) r x0 x1 i j) → post c) : wpX_bodyEnds post (dc_x g rc tc op cm sy ag f) (nI r) (nI x0) (nI x1) (nI i) := by
  have hT := dc_W_T hW
  exact nm_e ⟨dc_bl g r + 1, dc_x_bdL hW hS hs hr h0 h1 hi _ 0 0 _ (by omega) (by omega) (fun j => dc_h00 j) (fun j => dc_hone (by omega) j) h⟩
theorem dc_x_re1 (hW : dc_W g) (hS : dc_HS g sy ag) (hs : dc_su (dc_SX f) (dc_D g)) {post : Int32 → Prop} {J : Int32 → Int32 → Prop} {r v i x0 : Nat} {A : Nat → Prop} (hr : r < 12) (hv : v < 4) (h0 : x0 < 4) (hi : i ≤ dc_T g) : ∀ n x1 a, x1 ≤ 4 → 4 - x1 < n → (∀ j, dc_h a j ↔ (A j ∨ ∃ q, q < x1 ∧ (dc_vl (dc_ha g r) x0 q = v ∧ dc_bd g (dc_SX f) r x0 q i j))) → (∀ c, (∀ j, dc_h c j ↔ (A j ∨ ∃ q, q < 4 ∧ (dc_vl (dc_ha g r) x0 q = v ∧ dc_bd g (dc_SX f) r x0 q i j))) → J c (nI (x0 + 1))) → wX_ruleEnds_15 post J (nI r) (nI v) (nI i) (nI x0) rc tc (nI (dc_R g)) op cm (nI (dc_T g)) (dc_HN g) (dc_HA g) (dc_BL g) (dc_KD g) sy ag (dc_TK g) f n a (nI x1) := by
  intro n
  induction n with
  | zero => intro x1 a h1 h2; omega
  | succ n ih =>
    intro x1 a hx hn ha hpost
    refine pk_le 4 x1 (fun h => ?_) (fun h => ?_)
    · have e : x1 = 4 := by omega
      subst e
      exact nm_r (nI_1 x0) (hpost a ha)
    · refine ⟨vp_in_nI (by omega) (by omega), ?_⟩
      rw [dc_at (dc_HA g) (show r < 2 ^ 31 by omega)]
      have hv4 := dc_vl4 (c := dc_ha g r) h0 h
      refine dc_x_av (dc_W_ha hW _) (pk_eq (dc_vl (dc_ha g r) x0 x1) v (fun h2 => ?_) (fun h2 => ?_))
      · refine dc_x_bd hW hS hs hr h0 h hi (fun c hc => nm_e (nm_r (nI_1 x1) (ih (x1 + 1) _ (by omega) (by omega) ?_ hpost)))
        intro j
        rw [dc_hor, ha, hc, or_assoc]
        exact or_congr Iff.rfl (dc_exy ⟨fun z => z.2, fun z => ⟨h2, z⟩⟩)
      · refine nm_r (nI_1 x1) (ih (x1 + 1) _ (by omega) (by omega) ?_ hpost)
        intro j
        rw [ha]
        exact or_congr Iff.rfl (dc_exn (fun z => h2 z.1))
theorem dc_x_re0 (hW : dc_W g) (hS : dc_HS g sy ag) (hs : dc_su (dc_SX f) (dc_D g)) {post : Int32 → Prop} {r v i : Nat} (hr : r < 12) (hv : v < 4) (hi : i ≤ dc_T g) (hpost : ∀ c, (∀ j, dc_h c j ↔ dc_rd g (dc_SX f) r v i j) → post c) : ∀ n x0 a, x0 ≤ 4 → 4 - x0 < n → (∀ j, dc_h a j ↔ ∃ p, p < x0 ∧ ∃ q, q < 4 ∧ (dc_vl (dc_ha g r) p q = v ∧ dc_bd g (dc_SX f) r p q i j)) → wX_ruleEnds_6 post (nI r) (nI v) (nI i) rc tc (nI (dc_R g)) op cm (nI (dc_T g)) (dc_HN g) (dc_HA g) (dc_BL g) (dc_KD g) sy ag (dc_TK g) f n a (nI x0) := by
  intro n
  induction n with
  | zero => intro x1 a h1 h2; omega
  | succ n ih =>
    intro x0 a hx hn ha
    refine pk_le 4 x0 (fun h => ?_) (fun h => ?_)
    · have e : x0 = 4 := by omega
      subst e
      refine hpost a (fun j => ?_)
      rw [ha]
      constructor
      · intro ⟨p, h1, q, h2, h3, h4⟩
        exact ⟨p, q, h1, h2, h3, h4⟩
      · intro ⟨p, q, h1, h2, h3, h4⟩
        exact ⟨p, h1, q, h2, h3, h4⟩
    · refine ⟨5, dc_x_re1 (A := fun j => ∃ p, p < x0 ∧ ∃ q, q < 4 ∧ (dc_vl (dc_ha g r) p q = v ∧ dc_bd g (dc_SX f) r p q i j)) hW hS hs hr hv h hi 5 0 a (by omega) (by omega) ?_ ?_⟩
      · intro j
        rw [ha]
        exact ⟨Or.inl, fun z => z.elim id (fun y => absurd y dc_ex0)⟩
      · intro c hc
        refine ih (x0 + 1) c (by omega) (by omega) ?_
        intro j
        rw [hc]
        exact dc_exy Iff.rfl
theorem dc_x_re (hW : dc_W g) (hS : dc_HS g sy ag) (hs : dc_su (dc_SX f) (dc_D g)) {post : Int32 → Prop} {r v i : Nat} (hr : r < 12) (hv : v < 4) (hi : i ≤ dc_T g) (h : ∀ c, (∀ j, dc_h c j ↔ dc_rd g (dc_SX f) r v i j) → post c) : wpX_ruleEnds post (dc_x g rc tc op cm sy ag f) (nI r) (nI v) (nI i) :=
  ⟨5, dc_x_re0 hW hS hs hr hv hi h 5 0 0 (by omega) (by omega) (fun j => dc_h00 j)⟩
end
