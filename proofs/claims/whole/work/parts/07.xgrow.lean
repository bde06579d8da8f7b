section
variable {g : dc_G} {rc tc op cm : Int32} {sy ag : Nat → Int32}
/-- what stands ahead of (i, r, v) in a sweep is done -/
def dc_vs (g : dc_G) (f0 f : Nat → Int32) (i r v : Nat) : Prop := ∀ r' v' i' j, r' < dc_R g → v' < 4 → i' ≤ dc_T g → (i < i' ∨ (i' = i ∧ (r' < r ∨ (r' = r ∧ v' < v)))) → dc_rd g (dc_SX f0) r' v' i' j → dc_SX f (dc_hn g r') v' i' j
theorem dc_su_u {f : Nat → Int32} {c : Nat} {w : Int32} : dc_su (dc_SX f) (dc_SX (upd f c (f c ||| w))) := by
  intro m' v' i' j' ⟨h1, h4⟩
  refine ⟨h1, ?_⟩
  by_cases e : (m' * 4 + v') * 9 + i' = c
  · rw [e, pk_us, dc_hor]
    rw [e] at h4
    exact Or.inl h4
  · rw [pk_un e]; exact h4
theorem dc_g_vs (hW : dc_W g) {f0 f : Nat → Int32} {b w : Int32} (h : dc_px g f0 f b) {i r v : Nat} (hv : v < 4) (hi : i ≤ dc_T g) (hw : ∀ j, dc_h w j ↔ dc_rd g (dc_SX f) r v i j) (hs : dc_vs g f0 f i r v) : dc_vs g f0 (upd f ((dc_hn g r * 4 + v) * 9 + i) (f ((dc_hn g r * 4 + v) * 9 + i) ||| w)) i r (v + 1) := by
  have hT := dc_W_T hW
  intro r' v' i' j hr' hv' hi' hc hd
  by_cases e : i' = i ∧ r' = r ∧ v' = v
  · obtain ⟨rfl, rfl, rfl⟩ := e
    refine ⟨⟨dc_W_hn hW _, hv, by omega⟩, ?_⟩
    rw [pk_us, dc_hor]
    exact Or.inr ((hw j).mpr (dc_rd_mono h.1 hd))
  · exact dc_su_u _ _ _ _ (hs r' v' i' j hr' hv' hi' (by omega) hd)
theorem dc_g_D {f0 f : Nat → Int32} {b w : Int32} (h : dc_px g f0 f b) {i r v : Nat} (hr : r < dc_R g) (hi : i ≤ dc_T g) (hw : ∀ j, dc_h w j ↔ dc_rd g (dc_SX f) r v i j) (j : Nat) (hj : dc_h w j) : dc_D g (dc_hn g r) v i j :=
  dc_D_cl g r v i j hr hi (dc_rd_mono h.2.1 ((hw j).mp hj))
theorem dc_x_g83 {post : Int32 → SX → Prop} {J7 J13 J24 : Int32 → Int32 → (Nat → Int32) → (Nat → Int32) → (Nat → Int32) → (Nat → Int32) → (Nat → Int32) → (Nat → Int32) → (Nat → Int32) → (Nat → Int32) → Prop} {f : Nat → Int32} {x2 x3 z w : Int32} {v c : Nat} (hc : c < 216) (h : J24 z (nI (v + 1)) (dc_HN g) (dc_HA g) (dc_BL g) (dc_KD g) sy ag (dc_TK g) (upd f c w)) : wX_growSpans_83 post J7 J13 J24 x2 x3 (nI v) (nI c) w z rc tc (nI (dc_R g)) op cm (nI (dc_T g)) (dc_HN g) (dc_HA g) (dc_BL g) (dc_KD g) sy ag (dc_TK g) f :=
  ⟨vp_in_nI hc (by omega), nm_r (e' := upd f c w) (by rw [nI_clamp (by omega)]) (nm_r (nI_1 v) h)⟩
theorem dc_x_g24 (hW : dc_W g) (hS : dc_HS g sy ag) {post : Int32 → SX → Prop} {J7 J13 : Int32 → Int32 → (Nat → Int32) → (Nat → Int32) → (Nat → Int32) → (Nat → Int32) → (Nat → Int32) → (Nat → Int32) → (Nat → Int32) → (Nat → Int32) → Prop} {f0 : Nat → Int32} {i r : Nat} (hr : r < dc_R g) (hi : i ≤ dc_T g) (hJ : ∀ b f, dc_px g f0 f b → dc_vs g f0 f i r 4 → J13 b (nI (r + 1)) (dc_HN g) (dc_HA g) (dc_BL g) (dc_KD g) sy ag (dc_TK g) f) : ∀ n v b f, v ≤ 4 → 4 - v < n → dc_px g f0 f b → dc_vs g f0 f i r v → wX_growSpans_24 post J7 J13 (nI i) (nI r) rc tc (nI (dc_R g)) op cm (nI (dc_T g)) n b (nI v) (dc_HN g) (dc_HA g) (dc_BL g) (dc_KD g) sy ag (dc_TK g) f := by
  have hT := dc_W_T hW
  have hR := dc_W_R hW
  have hn6 := dc_W_hn hW r
  intro n
  induction n with
  | zero => intro v b f h1 h2; omega
  | succ n ih =>
    intro v b f hv hn hp hs
    refine pk_le 4 v (fun h => ?_) (fun h => ?_)
    · have e : v = 4 := by omega
      subst e
      exact nm_r (nI_1 r) (hJ b f hp hs)
    · refine ⟨vp_in_nI (by omega) (by omega), ?_⟩
      rw [dc_at (dc_HN g) (show r < 2 ^ 31 by omega)]
      have ec : (nI (dc_hn g r) * 4 + nI v) * 9 + nI i = nI ((dc_hn g r * 4 + v) * 9 + i) := dc_i9 _ _ _
      have hc : (dc_hn g r * 4 + v) * 9 + i < 216 := by omega
      unfold wpX_spanCell
      rw [ec]
      refine ⟨vp_in_nI hc (by omega), dc_x_re hW hS hp.2.1 (by omega) h hi (fun w hw => ?_)⟩
      refine nm_r (e' := f ((dc_hn g r * 4 + v) * 9 + i) ||| w) (by rw [nI_clamp (by omega)]) ?_
      have hvs := dc_g_vs hW hp h hi hw hs
      have hD := dc_g_D hp hr hi hw
      have go : ∀ b', dc_px g f0 (upd f ((dc_hn g r * 4 + v) * 9 + i) (f ((dc_hn g r * 4 + v) * 9 + i) ||| w)) b' → wX_growSpans_83 post J7 J13 (wX_growSpans_24 post J7 J13 (nI i) (nI r) rc tc (nI (dc_R g)) op cm (nI (dc_T g)) n) (nI i) (nI r) (nI v) (nI ((dc_hn g r * 4 + v) * 9 + i)) (f ((dc_hn g r * 4 + v) * 9 + i) ||| w) b' rc tc (nI (dc_R g)) op cm (nI (dc_T g)) (dc_HN g) (dc_HA g) (dc_BL g) (dc_KD g) sy ag (dc_TK g) f :=
        fun b' hb' => dc_x_g83 hc (ih (v + 1) b' _ (by omega) (by omega) hb' hvs)
      refine br_c (fun hb => ⟨vp_in_nI hc (by omega), ?_⟩) (fun hb => ?_)
      · rw [nI_clamp (show (dc_hn g r * 4 + v) * 9 + i < 2 ^ 31 by omega)]
        refine br_c (fun he => go 0 ?_) (fun he => go 1 ?_)
        · rw [dc_px_0 he, ← hb]; exact hp
        · exact dc_px_1 hW hp hn6 h (by omega) hD (Or.inr he)
      · refine go 1 (dc_px_1 hW hp hn6 h (by omega) hD (Or.inl ?_))
        rcases dc_px_01 hp with z | z
        · exact absurd z hb
        · exact z
theorem dc_x_g13 (hW : dc_W g) (hS : dc_HS g sy ag) {post : Int32 → SX → Prop} {J7 : Int32 → Int32 → (Nat → Int32) → (Nat → Int32) → (Nat → Int32) → (Nat → Int32) → (Nat → Int32) → (Nat → Int32) → (Nat → Int32) → (Nat → Int32) → Prop} {f0 : Nat → Int32} {i : Nat} (hi : i ≤ dc_T g) (hJ : ∀ b f, dc_px g f0 f b → dc_vs g f0 f i (dc_R g) 0 → J7 b (nI i + (-1)) (dc_HN g) (dc_HA g) (dc_BL g) (dc_KD g) sy ag (dc_TK g) f) : ∀ n r b f, r ≤ dc_R g → dc_R g - r < n → dc_px g f0 f b → dc_vs g f0 f i r 0 → wX_growSpans_13 post J7 (nI i) rc tc (nI (dc_R g)) op cm (nI (dc_T g)) n b (nI r) (dc_HN g) (dc_HA g) (dc_BL g) (dc_KD g) sy ag (dc_TK g) f := by
  have hR := dc_W_R hW
  intro n
  induction n with
  | zero => intro r b f h1 h2; omega
  | succ n ih =>
    intro r b f hr hn hp hs
    refine pk_le (dc_R g) r (fun h => ?_) (fun h => ?_)
    · have e : r = dc_R g := by omega
      subst e
      exact nm_e (hJ b f hp hs)
    · refine ⟨5, dc_x_g24 hW hS h hi (fun b' f' hp' hs' => ih (r + 1) b' f' (by omega) (by omega) hp' ?_) 5 0 b f (by omega) (by omega) hp hs⟩
      intro r' v' i' j hr' hv' hi' hc hd
      exact hs' r' v' i' j hr' hv' hi' (by omega) hd
theorem dc_x_g7 (hW : dc_W g) (hS : dc_HS g sy ag) {post : Int32 → SX → Prop} {f0 : Nat → Int32} (hJ : ∀ b f, dc_px g f0 f b → dc_ph g (dc_SX f0) (dc_SX f) → post b (dc_x g rc tc op cm sy ag f)) : ∀ n e b f, e ≤ dc_T g + 1 → e < n → dc_px g f0 f b → (∀ r' v' i' j, r' < dc_R g → v' < 4 → i' ≤ dc_T g → e ≤ i' → dc_rd g (dc_SX f0) r' v' i' j → dc_SX f (dc_hn g r') v' i' j) → wX_growSpans_7 post rc tc (nI (dc_R g)) op cm (nI (dc_T g)) n b (nI e + (-1)) (dc_HN g) (dc_HA g) (dc_BL g) (dc_KD g) sy ag (dc_TK g) f := by
  have hT := dc_W_T hW
  intro n
  induction n with
  | zero => intro e b f h1 h2; omega
  | succ n ih =>
    intro e b f he hn hp hs
    rcases Nat.eq_zero_or_pos e with e0 | e0
    · subst e0
      refine br_t (by decide +kernel) ⟨dc_nar01 (dc_px_01 hp), hJ b f hp ?_⟩
      intro r v i j hr hi hd
      obtain ⟨x0, x1, h0, h1, h2, h3⟩ := hd
      exact hs r v i j hr (h2 ▸ dc_vl4 h0 h1) hi (by omega) ⟨x0, x1, h0, h1, h2, h3⟩
    · obtain ⟨i, rfl⟩ : ∃ i, e = i + 1 := ⟨e - 1, by omega⟩
      rw [pk_m1]
      refine br_f (nI_pos (by omega)) ⟨dc_R g + 1, dc_x_g13 hW hS (i := i) (by omega) (fun b' f' hp' hs' => ih i b' f' (by omega) (by omega) hp' ?_) _ 0 b f (by omega) (by omega) hp ?_⟩
      · intro r' v' i' j hr' hv' hi' hc hd
        exact hs' r' v' i' j hr' hv' hi' (by omega) hd
      · intro r' v' i' j hr' hv' hi' hc hd
        exact hs r' v' i' j hr' hv' hi' (by omega) hd
theorem dc_x_gr (hW : dc_W g) (hS : dc_HS g sy ag) {post : Int32 → SX → Prop} {f : Nat → Int32} (hs : dc_su (dc_SX f) (dc_D g)) (h : ∀ b f', dc_px g f f' b → dc_ph g (dc_SX f) (dc_SX f') → post b (dc_x g rc tc op cm sy ag f')) : wpX_growSpans post (dc_x g rc tc op cm sy ag f) := by
  have hl := dc_x_g7 (rc := rc) (tc := tc) (op := op) (cm := cm) hW hS h (dc_T g + 2) (dc_T g + 1) 0 f (by omega) (by omega) (dc_px_r hs) (fun r' v' i' j _ _ h1 h2 => by omega)
  rw [pk_m1] at hl
  exact ⟨_, hl⟩
theorem dc_x_d34 (hW : dc_W g) (hS : dc_HS g sy ag) {post : SX → Prop} (h : ∀ f', dc_FX g f' → post (dc_x g rc tc op cm sy ag f')) : ∀ n s b f, s ≤ 1945 → 1945 - s < n → dc_su (dc_SX f) (dc_D g) → ((b = 0 ∧ dc_Cl g (dc_SX f)) ∨ (b = 1 ∧ s ≤ dc_ct (dc_CX f) 1944)) → wX_deriveSpans_34 post n b (nI s) rc tc (nI (dc_R g)) op cm (nI (dc_T g)) (dc_HN g) (dc_HA g) (dc_BL g) (dc_KD g) sy ag (dc_TK g) f := by
  intro n
  induction n with
  | zero => intro s b f h1 h2; omega
  | succ n ih =>
    intro s b f hs hn hd hb
    refine pk_le 1945 s (fun h1 => ?_) (fun h1 => ?_)
    · rcases hb with ⟨_, hc⟩ | ⟨_, hc⟩
      · exact h f (dc_FX_of hc hd)
      · have := dc_ct_le (dc_CX f) 1944
        omega
    · refine br_c (fun e => ?_) (fun e => ?_)
      · rcases hb with ⟨_, hc⟩ | ⟨e1, hc⟩
        · exact h f (dc_FX_of hc hd)
        · rw [e] at e1; exact absurd e1 (by decide)
      · have hc : s ≤ dc_ct (dc_CX f) 1944 := by
          rcases hb with ⟨e1, _⟩ | ⟨_, hc⟩
          · exact absurd e1 e
          · exact hc
        refine dc_x_gr hW hS hd (fun b' f' hp hf => ?_)
        refine nm_r (nI_1 s) (ih (s + 1) b' f' (by omega) (by omega) hp.2.1 ?_)
        rcases hp.2.2 with ⟨h2, h3⟩ | ⟨h2, h3⟩
        · subst h3
          exact Or.inl ⟨h2, dc_ph_cl hf (dc_su_r _)⟩
        · exact Or.inr ⟨h2, by omega⟩
theorem dc_x_d10 (hW : dc_W g) (hS : dc_HS g sy ag) {post : SX → Prop} (h : ∀ f', dc_FX g f' → post (dc_x g rc tc op cm sy ag f')) : ∀ n c f, c ≤ 216 → 216 - c < n → (∀ q, q < c → f q = 0) → wX_deriveSpans_10 post rc tc (nI (dc_R g)) op cm (nI (dc_T g)) n (nI c) (dc_HN g) (dc_HA g) (dc_BL g) (dc_KD g) sy ag (dc_TK g) f := by
  intro n
  induction n with
  | zero => intro c f h1 h2; omega
  | succ n ih =>
    intro c f hc hn hz
    refine pk_le 216 c (fun h1 => ?_) (fun h1 => ?_)
    · refine ⟨1946, dc_x_d34 hW hS h 1946 0 1 f (by omega) (by omega) ?_ (Or.inr ⟨rfl, by omega⟩)⟩
      intro m v i j ⟨⟨h2, h3, h4⟩, h5⟩
      rw [hz _ (by omega)] at h5
      exact absurd h5 (dc_h0 j)
    · refine ⟨vp_in_nI h1 (by omega), nm_r (e' := upd f c 0) (by rw [nI_clamp (by omega)]) (nm_r (nI_1 c) (ih (c + 1) _ (by omega) (by omega) ?_))⟩
      intro q hq
      by_cases e : q = c
      · rw [e, pk_us]
      · rw [pk_un e]; exact hz q (by omega)
theorem dc_x_ds (hW : dc_W g) (hS : dc_HS g sy ag) {post : SX → Prop} {f : Nat → Int32} (h : ∀ f', (¬ cm = 0 → dc_FX g f') → post (dc_x g rc tc op cm sy ag f')) : wpX_deriveSpans post (dc_x g rc tc op cm sy ag f) :=
  br_c (fun e => h f (fun z => absurd e z)) (fun e => ⟨217, dc_x_d10 hW hS (fun f' hf => h f' (fun _ => hf)) 217 0 f (by omega) (by omega) (fun q hq => by omega)⟩)
end
