section
variable {g : dc_G} {rc tc op cm : Int32} {sy ag f : Nat → Int32}
theorem dc_x_ni (hW : dc_W g) (hS : dc_HS g sy ag) {A : Nat → Prop} {w : Int32} (hA : ∀ m, dc_h w m ↔ A m) {post : Int32 → Prop} {q : Nat} (hq : q < 72) (h : ∀ b, dc_bo (dc_kd g q = 1 ∧ A (dc_sy g q)) b → post b) : wpX_isNullableItem post (dc_x g rc tc op cm sy ag f) (nI q) w := by
  have hk := dc_W_kd hW q
  refine ⟨vp_in_nI hq (by omega), pk_eq (dc_kd g q) 1 (fun h1 => ?_) (fun h1 => ?_) (dc_at (dc_KD g) (by omega))⟩
  · refine ⟨vp_in_nI hq (by omega), ?_⟩
    have es : sy (nI q).toNatClampNeg = nI (dc_sy g q) := by rw [nI_clamp (by omega)]; exact hS.1 _ (by omega)
    have h6 := dc_W_s1 hW h1
    rw [es]
    refine dc_if (dc_hbit (p := dc_sy g q) (by omega) w) (fun h2 => ?_) (fun h2 => ?_)
    · exact h 1 (dc_bo_t ⟨h1, (hA _).mp h2⟩)
    · exact h 0 (dc_bo_f (fun z => h2 ((hA _).mpr z.2)))
  · exact h 0 (dc_bo_f (fun z => h1 z.1))
theorem dc_x_haL (hW : dc_W g) (hS : dc_HS g sy ag) {w : Int32} {post : Int32 → Prop} {r : Nat} (hr : r < 12) (h : ∀ b, dc_bo (dc_nr g (dc_h w) r) b → post b) : ∀ n k x, k ≤ dc_bl g r → dc_bl g r - k < n → dc_bo (dc_ok g (dc_h w) r k) x → (∀ k', k' < k → dc_kd g (r * 6 + k') = 2 → ¬ dc_ok g (dc_h w) r k') → wX_hasNullableAlternative_5 post (nI r) w rc tc (nI (dc_R g)) op cm (nI (dc_T g)) (dc_HN g) (dc_HA g) (dc_BL g) (dc_KD g) sy ag (dc_TK g) f n x (nI k) := by
  have hB := dc_W_bl hW r
  intro n
  induction n with
  | zero => intro k x h1 h2; omega
  | succ n ih =>
    intro k x hk hn hx hno
    refine ⟨vp_in_nI (by omega) (by omega), pk_le (dc_bl g r) k (fun h1 => ?_) (fun h1 => ?_) (dc_at (dc_BL g) (by omega))⟩
    · have e : k = dc_bl g r := by omega
      subst e
      refine ⟨dc_nar01 (dc_bo_01 hx), h x (dc_bo_c ?_ hx)⟩
      constructor
      · intro z; exact ⟨_, ⟨Nat.le_refl _, Or.inl rfl⟩, z⟩
      · intro ⟨k', ⟨h2, h3⟩, h4⟩
        by_cases e : k' = dc_bl g r
        · exact e ▸ h4
        · exact absurd h4 (hno k' (by omega) (h3.resolve_left e))
    · have hq : r * 6 + k < 72 := by omega
      have hkd := dc_W_kd hW (r * 6 + k)
      refine nm_r (dc_i6 r k) ⟨vp_in_nI hq (by omega), pk_eq (dc_kd g (r * 6 + k)) 2 (fun h2 => ?_) (fun h2 => ?_) (dc_at (dc_KD g) (by omega))⟩
      · refine dc_if (dc_bo_0 hx) (fun h3 => ?_) (fun h3 => ?_)
        · refine nm_r (nI_1 k) (ih (k + 1) 1 (by omega) (by omega) (dc_bo_t (dc_ok_bar h2)) ?_)
          intro k' hk' hb
          by_cases e : k' = k
          · rw [e]; exact h3
          · exact hno k' (by omega) hb
        · exact h 1 (dc_bo_t ⟨k, ⟨by omega, Or.inr h2⟩, Classical.not_not.mp h3⟩)
      · have hno' : ∀ k', k' < k + 1 → dc_kd g (r * 6 + k') = 2 → ¬ dc_ok g (dc_h w) r k' := by
          intro k' hk' hb
          by_cases e : k' = k
          · rw [e] at hb; exact absurd hb h2
          · exact hno k' (by omega) hb
        refine dc_x_ni hW hS (A := dc_h w) (fun _ => Iff.rfl) hq (fun b hb => dc_if (dc_bo_0 hb) (fun h3 => ?_) (fun h3 => ?_))
        · exact nm_r (nI_1 k) (ih (k + 1) 0 (by omega) (by omega) (dc_bo_f (fun z => h3 ((dc_ok_s h2).mp z).2)) hno')
        · refine nm_r (nI_1 k) (ih (k + 1) x (by omega) (by omega) (dc_bo_c ?_ hx) hno')
          rw [dc_ok_s h2]
          exact ⟨fun z => ⟨z, Classical.not_not.mp h3⟩, fun z => z.1⟩
theorem dc_x_ha (hW : dc_W g) (hS : dc_HS g sy ag) {w : Int32} {post : Int32 → Prop} {r : Nat} (hr : r < 12) (h : ∀ b, dc_bo (dc_nr g (dc_h w) r) b → post b) : wpX_hasNullableAlternative post (dc_x g rc tc op cm sy ag f) (nI r) w :=
  ⟨dc_bl g r + 1, dc_x_haL hW hS hr h _ 0 1 (by omega) (by omega) (dc_bo_t dc_ok_0) (fun k' hk' => by omega)⟩
theorem dc_x_ns12 (hW : dc_W g) (hS : dc_HS g sy ag) {post : Int32 → Prop} {J : Int32 → Int32 → Prop} {w0 : Int32} {t : Nat} (hJ : ∀ w, (∀ m, dc_h w0 m → dc_h w m) → (∀ m, dc_h w m → dc_N g m) → (∀ r, r < dc_R g → dc_nr g (dc_h w0) r → dc_h w (dc_hn g r)) → J w (nI (t + 1))) : ∀ n r w, r ≤ dc_R g → dc_R g - r < n → (∀ m, dc_h w0 m → dc_h w m) → (∀ m, dc_h w m → dc_N g m) → (∀ r', r' < r → dc_nr g (dc_h w0) r' → dc_h w (dc_hn g r')) → wX_nullableSet_12 post J (nI t) rc tc (nI (dc_R g)) op cm (nI (dc_T g)) (dc_HN g) (dc_HA g) (dc_BL g) (dc_KD g) sy ag (dc_TK g) f n w (nI r) := by
  have hR := dc_W_R hW
  intro n
  induction n with
  | zero => intro r w h1 h2; omega
  | succ n ih =>
    intro r w hr hn h1 h2 h3
    refine pk_le (dc_R g) r (fun h => ?_) (fun h => ?_)
    · have e : r = dc_R g := by omega
      subst e
      exact nm_r (nI_1 t) (hJ w h1 h2 h3)
    · refine dc_x_ha hW hS (by omega) (fun b hb => dc_if (dc_bo_0 hb) (fun h4 => ?_) (fun h4 => ?_))
      · refine nm_r (nI_1 r) (ih (r + 1) w (by omega) (by omega) h1 h2 ?_)
        intro r' hr' hz
        by_cases e : r' = r
        · rw [e] at hz; exact absurd (dc_nr_mono h1 hz) h4
        · exact h3 r' (by omega) hz
      · have h6 := dc_W_hn hW r
        have h5 : dc_nr g (dc_h w) r := Classical.not_not.mp h4
        refine ⟨vp_in_nI (by omega) (by omega), nm_r (e' := w ||| ((1 : Int32) <<< (nI (dc_hn g r) &&& 31))) (by rw [dc_at (dc_HN g) (show r < 2 ^ 31 by omega)]) (nm_r (nI_1 r) (ih (r + 1) _ (by omega) (by omega) ?_ ?_ ?_))⟩
        · intro m hm; rw [dc_hor]; exact Or.inl (h1 m hm)
        · intro m hm
          rw [dc_hor, dc_hone (by omega)] at hm
          rcases hm with hm | hm
          · exact h2 m hm
          · rw [hm]; exact dc_N_cl g r h (dc_nr_mono h2 h5)
        · intro r' hr' hz
          rw [dc_hor, dc_hone (by omega)]
          by_cases e : r' = r
          · rw [e]; exact Or.inr rfl
          · exact Or.inl (h3 r' (by omega) hz)
theorem dc_x_ns4 (hW : dc_W g) (hS : dc_HS g sy ag) {post : Int32 → Prop} (h : ∀ w, (∀ m, dc_h w m ↔ dc_N g m) → post w) : ∀ n t w, t ≤ 6 → 6 - t < n → (∀ m, dc_h w m → dc_N g m) → (dc_NC g (dc_h w) ∨ t ≤ dc_ct (dc_h w) 6) → wX_nullableSet_4 post rc tc (nI (dc_R g)) op cm (nI (dc_T g)) (dc_HN g) (dc_HA g) (dc_BL g) (dc_KD g) sy ag (dc_TK g) f n w (nI t) := by
  intro n
  induction n with
  | zero => intro r w h1 h2; omega
  | succ n ih =>
    intro t w ht hn h1 h2
    refine pk_le 6 t (fun h3 => ?_) (fun h3 => ?_)
    · have e : t = 6 := by omega
      subst e
      exact h w (dc_Nend hW h1 h2)
    · refine ⟨dc_R g + 1, dc_x_ns12 hW hS (fun w' k1 k2 k3 => ih (t + 1) w' (by omega) (by omega) k2 (dc_Nstep hW k1 k2 k3 h2)) _ 0 w (by omega) (by omega) (fun _ z => z) h1 (fun r' hr' => by omega)⟩
theorem dc_x_ns (hW : dc_W g) (hS : dc_HS g sy ag) {post : Int32 → Prop} (h : ∀ w, (∀ m, dc_h w m ↔ dc_N g m) → post w) : wpX_nullableSet post (dc_x g rc tc op cm sy ag f) :=
  ⟨7, dc_x_ns4 hW hS h 7 0 0 (by omega) (by omega) (fun m z => absurd z (dc_h0 m)) (Or.inr (by omega))⟩
theorem dc_x_lt73 (hW : dc_W g) (hS : dc_HS g sy ag) {w : Int32} (hw : ∀ m, dc_h w m ↔ dc_N g m) {post : Int32 → Prop} {J : Int32 → Int32 → Int32 → Prop} {r k : Nat} {a x : Int32} (hq : r * 6 + k < 72) (h2 : dc_kd g (r * 6 + k) ≠ 2) (hx : dc_bo (dc_ok g (dc_N g) r k) x) (h : ∀ x', dc_bo (dc_ok g (dc_N g) r (k + 1)) x' → J a x' (nI (k + 1))) : wX_leftTargetsOfRule_73 post J (nI r) w a x (nI k) (nI (r * 6 + k)) rc tc (nI (dc_R g)) op cm (nI (dc_T g)) (dc_HN g) (dc_HA g) (dc_BL g) (dc_KD g) sy ag (dc_TK g) f := by
  refine dc_if (dc_bo_0 hx) (fun h3 => ?_) (fun h3 => ?_)
  · exact nm_r (nI_1 k) (h 0 (dc_bo_f (fun z => h3 ((dc_ok_s h2).mp z).1)))
  · refine dc_x_ni hW hS hw hq (fun b hb => dc_if (dc_bo_0 hb) (fun h4 => ?_) (fun h4 => ?_))
    · exact nm_r (nI_1 k) (h 0 (dc_bo_f (fun z => h4 ((dc_ok_s h2).mp z).2)))
    · exact nm_r (nI_1 k) (h 1 (dc_bo_t ((dc_ok_s h2).mpr ⟨Classical.not_not.mp h3, Classical.not_not.mp h4⟩)))
/-- what rule r shows on the left, of its first k items -/
def dc_lt (g : dc_G) (r k b : Nat) : Prop := ∃ q, q < k ∧ (dc_kd g (r * 6 + q) = 1 ∧ dc_ok g (dc_N g) r q ∧ dc_sy g (r * 6 + q) = b)
theorem dc_x_lt8 (hW : dc_W g) (hS : dc_HS g sy ag) {w : Int32} (hw : ∀ m, dc_h w m ↔ dc_N g m) {post : Int32 → Prop} {r : Nat} (hr : r < 12) (h : ∀ c, (∀ b, dc_h c b ↔ dc_lt g r (dc_bl g r) b) → post c) : ∀ n k a x, k ≤ dc_bl g r → dc_bl g r - k < n → (∀ b, dc_h a b ↔ dc_lt g r k b) → dc_bo (dc_ok g (dc_N g) r k) x → wX_leftTargetsOfRule_8 post (nI r) w rc tc (nI (dc_R g)) op cm (nI (dc_T g)) (dc_HN g) (dc_HA g) (dc_BL g) (dc_KD g) sy ag (dc_TK g) f n a x (nI k) := by
  have hB := dc_W_bl hW r
  intro n
  induction n with
  | zero => intro k a x h1 h2; omega
  | succ n ih =>
    intro k a x hk hn ha hx
    refine ⟨vp_in_nI (by omega) (by omega), pk_le (dc_bl g r) k (fun h1 => ?_) (fun h1 => ?_) (dc_at (dc_BL g) (by omega))⟩
    · have e : k = dc_bl g r := by omega
      subst e
      exact h a ha
    · have hq : r * 6 + k < 72 := by omega
      have hkd := dc_W_kd hW (r * 6 + k)
      have hsk : ¬ (dc_kd g (r * 6 + k) = 1 ∧ dc_ok g (dc_N g) r k) → ∀ b, dc_h a b ↔ dc_lt g r (k + 1) b := by
        intro hz b
        rw [ha]
        exact dc_exn (fun z => hz ⟨z.1, z.2.1⟩)
      refine nm_r (dc_i6 r k) ⟨vp_in_nI hq (by omega), pk_eq (dc_kd g (r * 6 + k)) 2 (fun h2 => ?_) (fun h2 => ?_) (dc_at (dc_KD g) (by omega))⟩
      · exact nm_r (nI_1 k) (ih (k + 1) a 1 (by omega) (by omega) (hsk (fun z => by omega)) (dc_bo_t (dc_ok_bar h2)))
      · refine dc_if (dc_bo_0 hx) (fun h3 => ?_) (fun h3 => ?_)
        · exact dc_x_lt73 hW hS hw hq h2 hx (fun x' hx' => ih (k + 1) a x' (by omega) (by omega) (hsk (fun z => h3 z.2)) hx')
        · refine ⟨vp_in_nI hq (by omega), pk_eq (dc_kd g (r * 6 + k)) 1 (fun h4 => ?_) (fun h4 => ?_) (dc_at (dc_KD g) (by omega))⟩
          · have h6 := dc_W_s1 hW h4
            refine ⟨vp_in_nI hq (by omega), nm_r (e' := a ||| ((1 : Int32) <<< (nI (dc_sy g (r * 6 + k)) &&& 31))) (by rw [nI_clamp (show r * 6 + k < 2 ^ 31 by omega), hS.1 _ h2]) ?_⟩
            refine dc_x_lt73 hW hS hw hq h2 hx (fun x' hx' => ih (k + 1) _ x' (by omega) (by omega) ?_ hx')
            intro b
            rw [dc_hor, dc_hone (by omega), ha]
            exact dc_exy ⟨fun z => z.2.2.symm, fun z => ⟨h4, Classical.not_not.mp h3, z.symm⟩⟩
          · exact dc_x_lt73 hW hS hw hq h2 hx (fun x' hx' => ih (k + 1) a x' (by omega) (by omega) (hsk (fun z => h4 z.1)) hx')
theorem dc_x_ltr (hW : dc_W g) (hS : dc_HS g sy ag) {w : Int32} (hw : ∀ m, dc_h w m ↔ dc_N g m) {post : Int32 → Prop} {r : Nat} (hr : r < 12) (h : ∀ c, (∀ b, dc_h c b ↔ dc_lt g r (dc_bl g r) b) → post c) : wpX_leftTargetsOfRule post (dc_x g rc tc op cm sy ag f) (nI r) w :=
  ⟨dc_bl g r + 1, dc_x_lt8 hW hS hw hr h _ 0 0 1 (by omega) (by omega) (fun j => dc_h00 j) (dc_bo_t dc_ok_0)⟩
theorem dc_x_lt5 (hW : dc_W g) (hS : dc_HS g sy ag) {w s : Int32} (hw : ∀ m, dc_h w m ↔ dc_N g m) {post : Int32 → Prop} (h : ∀ c, (∀ b, dc_h c b ↔ ∃ a, dc_h s a ∧ dc_E g a b) → post c) : ∀ n r a, r ≤ dc_R g → dc_R g - r < n → (∀ b, dc_h a b ↔ ∃ q, q < r ∧ (dc_h s (dc_hn g q) ∧ dc_lt g q (dc_bl g q) b)) → wX_leftTargets_5 post s w rc tc (nI (dc_R g)) op cm (nI (dc_T g)) (dc_HN g) (dc_HA g) (dc_BL g) (dc_KD g) sy ag (dc_TK g) f n a (nI r) := by
  have hR := dc_W_R hW
  intro n
  induction n with
  | zero => intro r a h1 h2; omega
  | succ n ih =>
    intro r a hr hn ha
    refine pk_le (dc_R g) r (fun h1 => ?_) (fun h1 => ?_)
    · have e : r = dc_R g := by omega
      subst e
      refine h a (fun b => ?_)
      rw [ha]
      constructor
      · intro ⟨q, k1, k2, k, k3, k4, k5, k6⟩
        exact ⟨_, k2, q, k, k1, rfl, k3, k4, k5, k6⟩
      · intro ⟨c, k2, q, k, k1, k7, k3, k4, k5, k6⟩
        exact ⟨q, k1, k7 ▸ k2, k, k3, k4, k5, k6⟩
    · have h6 := dc_W_hn hW r
      refine ⟨vp_in_nI (by omega) (by omega), ?_⟩
      rw [dc_at (dc_HN g) (show r < 2 ^ 31 by omega)]
      refine dc_if (dc_hbit (p := dc_hn g r) (by omega) s) (fun h2 => ?_) (fun h2 => ?_)
      · refine dc_x_ltr hW hS hw (by omega) (fun c hc => nm_e (nm_r (nI_1 r) (ih (r + 1) _ (by omega) (by omega) ?_)))
        intro b
        rw [dc_hor, ha, hc]
        exact dc_exy ⟨fun z => z.2, fun z => ⟨h2, z⟩⟩
      · refine nm_r (nI_1 r) (ih (r + 1) _ (by omega) (by omega) ?_)
        intro b
        rw [ha]
        exact dc_exn (fun z => h2 z.1)
theorem dc_x_lt (hW : dc_W g) (hS : dc_HS g sy ag) {w s : Int32} (hw : ∀ m, dc_h w m ↔ dc_N g m) {post : Int32 → Prop} (h : ∀ c, (∀ b, dc_h c b ↔ ∃ a, dc_h s a ∧ dc_E g a b) → post c) : wpX_leftTargets post (dc_x g rc tc op cm sy ag f) s w :=
  ⟨dc_R g + 1, dc_x_lt5 hW hS hw h _ 0 0 (by omega) (by omega) (fun j => dc_h00 j)⟩
theorem dc_x_lc28 (hW : dc_W g) (hS : dc_HS g sy ag) {w : Int32} (hw : ∀ m, dc_h w m ↔ dc_N g m) {post : Int32 → Prop} {m : Nat} (hm : m < 6) (h : ∀ b, dc_bo (dc_L g m m) b → post b) : ∀ n t a, t ≤ 6 → 6 - t < n → (∀ b, dc_E g m b → dc_h a b) → (∀ b, dc_h a b → dc_L g m b) → (dc_LC g m (dc_h a) ∨ t ≤ dc_ct (dc_h a) 6) → wX_onLeftCycle_28 post (nI m) w rc tc (nI (dc_R g)) op cm (nI (dc_T g)) (dc_HN g) (dc_HA g) (dc_BL g) (dc_KD g) sy ag (dc_TK g) f n a (nI t) := by
  intro n
  induction n with
  | zero => intro t a h1 h2; omega
  | succ n ih =>
    intro t a ht hn h1 h2 h3
    refine pk_le 6 t (fun h4 => ?_) (fun h4 => ?_)
    · have e : t = 6 := by omega
      subst e
      have hl := dc_Lend hW h2 h3 m
      refine dc_if (dc_hbit (p := m) (by omega) a) (fun h5 => ?_) (fun h5 => ?_)
      · exact h 1 (dc_bo_t (hl.mp h5))
      · exact h 0 (dc_bo_f (fun z => h5 (hl.mpr z)))
    · refine dc_x_lt hW hS hw (fun c hc => nm_e (nm_r (nI_1 t) (ih (t + 1) _ (by omega) (by omega) ?_ ?_ ?_)))
      · intro b hb; rw [dc_hor]; exact Or.inl (h1 b hb)
      · intro b hb
        rw [dc_hor, hc] at hb
        rcases hb with hb | ⟨q, hb, he⟩
        · exact h2 b hb
        · exact dc_L_s (h2 q hb) he
      · refine dc_Lstep hW (A := dc_h a) ?_ ?_ h1 ?_ h3
        · intro b hb; rw [dc_hor]; exact Or.inl hb
        · intro b hb
          rw [dc_hor, hc] at hb
          rcases hb with hb | ⟨q, hb, he⟩
          · exact h2 b hb
          · exact dc_L_s (h2 q hb) he
        · intro q b hq hb
          rw [dc_hor, hc]
          exact Or.inr ⟨q, hq, hb⟩
theorem dc_x_wi {post : Int32 → Prop} {x : Int32} {n : Nat} (hn : n < 2 ^ 31) (h : (∃ j, j < n ∧ x = nI j ∧ post 1) ∨ ((x < 0 ∨ nI n ≤ x) ∧ post 0)) : wpX_within post x (nI n) := by
  rcases h with ⟨j, h1, rfl, h2⟩ | ⟨h1, h2⟩
  · exact br_f (nI_pos (by omega)) (br_f (nI_ge h1 hn) h2)
  · refine br_c (fun _ => h2) (fun z => br_t (h1.resolve_left z) h2)
theorem dc_x_lc (hW : dc_W g) (hS : dc_HS g sy ag) {post : Int32 → Prop} {m : Nat} (hm : m < 6) (h : ∀ b, dc_bo (dc_L g m m) b → post b) : wpX_onLeftCycle post (dc_x g rc tc op cm sy ag f) (nI m) := by
  unfold wpX_onLeftCycle
  dsimp only
  refine dc_x_wi (n := 6) (by omega) (Or.inl ⟨m, hm, rfl, ?_⟩)
  refine br_f (by decide) (dc_x_ns hW hS (fun w hw => dc_x_lt hW hS hw (fun c hc => ?_)))
  have hc' : ∀ b, dc_h c b ↔ dc_E g m b := by
    intro b
    rw [hc]
    constructor
    · intro ⟨a, h1, h2⟩
      rw [dc_hone (by omega)] at h1
      exact h1 ▸ h2
    · intro z
      exact ⟨m, (dc_hone (by omega) m).mpr rfl, z⟩
  exact ⟨6, dc_x_lc28 hW hS hw hm h 6 1 c (by omega) (by omega) (fun b hb => (hc' b).mpr hb) (fun b hb => dc_L_E ((hc' b).mp hb)) (dc_Lbeg hc' (fun b hb => (dc_E_in hW ((hc' b).mp hb)).2))⟩
end
