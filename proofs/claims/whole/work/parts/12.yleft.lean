/-- the set that a boolean array of six holds -/
def dc_U (a : Nat → Int32) (m : Nat) : Prop := m < 6 ∧ a m ≠ 0
theorem dc_U_u {a : Nat → Int32} {k m : Nat} (hk : k < 6) : dc_U (upd a k 1) m ↔ (dc_U a m ∨ m = k) := by
  unfold dc_U
  by_cases e : m = k
  · rw [e, pk_us]
    exact ⟨fun _ => Or.inr rfl, fun _ => ⟨hk, by decide⟩⟩
  · rw [pk_un e]
    exact ⟨Or.inl, fun z => z.resolve_right e⟩
def dc_pn (g : dc_G) (a a' : Nat → Int32) (b : Int32) : Prop := (∀ m, dc_U a m → dc_U a' m) ∧ (∀ m, dc_U a' m → dc_N g m) ∧ ((b = 0 ∧ a' = a) ∨ (b = 1 ∧ dc_ct (dc_U a) 6 < dc_ct (dc_U a') 6))
theorem dc_pn_r {g : dc_G} {a : Nat → Int32} (h : ∀ m, dc_U a m → dc_N g m) : dc_pn g a a 0 := ⟨fun _ z => z, h, Or.inl ⟨rfl, rfl⟩⟩
theorem dc_pn_01 {g : dc_G} {a a' : Nat → Int32} {b : Int32} (h : dc_pn g a a' b) : b = 0 ∨ b = 1 := by
  rcases h.2.2 with ⟨h, _⟩ | ⟨h, _⟩
  · exact Or.inl h
  · exact Or.inr h
theorem dc_pn_le {g : dc_G} {a a' : Nat → Int32} {b : Int32} (h : dc_pn g a a' b) : dc_ct (dc_U a) 6 ≤ dc_ct (dc_U a') 6 := dc_ct_mono (fun k _ z => h.1 k z)
theorem dc_pn_t {g : dc_G} {a a' a'' : Nat → Int32} {b b' : Int32} (h : dc_pn g a a' b) (h' : dc_pn g a' a'' b') (hb : ¬ b' = 0) : dc_pn g a a'' 1 := by
  refine ⟨fun c z => h'.1 c (h.1 c z), h'.2.1, Or.inr ⟨rfl, ?_⟩⟩
  have h1 := dc_pn_le h
  rcases h'.2.2 with ⟨h2, _⟩ | ⟨_, h2⟩
  · exact absurd h2 hb
  · omega
theorem dc_pn_f {g : dc_G} {a a' a'' : Nat → Int32} {b b' : Int32} (h : dc_pn g a a' b) (h' : dc_pn g a' a'' b') (hb : b' = 0) : dc_pn g a a'' b := by
  rcases h'.2.2 with ⟨_, rfl⟩ | ⟨h2, _⟩
  · exact h
  · rw [hb] at h2; exact absurd h2 (by decide)
theorem dc_pn_1 {g : dc_G} {a : Nat → Int32} {k : Nat} (hs : ∀ m, dc_U a m → dc_N g m) (hk : k < 6) (h0 : a k = 0) (hN : dc_N g k) : dc_pn g a (upd a k 1) 1 := by
  refine ⟨fun m z => (dc_U_u hk).mpr (Or.inl z), fun m z => ?_, Or.inr ⟨rfl, ?_⟩⟩
  · rcases (dc_U_u hk).mp z with z | z
    · exact hs m z
    · rw [z]; exact hN
  · exact dc_ct_lt (fun m _ z => (dc_U_u hk).mpr (Or.inl z)) hk ((dc_U_u hk).mpr (Or.inr rfl)) (fun z => z.2 h0)
section
variable {g : dc_G} {rc tc op cm : Int32} {d re nx nu ed se : Nat → Int32}
/-- the alternatives of r that end before k are seen -/
def dc_vn (g : dc_G) (a0 a : Nat → Int32) (r k : Nat) : Prop := ∀ k', k' < k → dc_en g r k' → dc_ok g (dc_U a0) r k' → dc_U a (dc_hn g r)
theorem dc_y_nr45 (hW : dc_W g) {post : Int32 → SY → Prop} {J : Int32 → Int32 → Int32 → (Nat → Int32) → (Nat → Int32) → (Nat → Int32) → (Nat → Int32) → (Nat → Int32) → (Nat → Int32) → (Nat → Int32) → (Nat → Int32) → (Nat → Int32) → (Nat → Int32) → (Nat → Int32) → (Nat → Int32) → (Nat → Int32) → Prop} {a0 : Nat → Int32} {x b x4 : Int32} {r k : Nat} (hr : r < dc_R g) (hen : dc_en g r k) (hx : dc_bo (dc_ok g (dc_U nu) r k) x) (hp : dc_pn g a0 nu b) (hv : dc_vn g a0 nu r k) (hJ : ∀ b nu, dc_pn g a0 nu b → dc_vn g a0 nu r (k + 1) → J 1 b (nI (k + 1)) (dc_HN g) (dc_HA g) (dc_BL g) (dc_KD g) (dc_SM g) (dc_AG g) (dc_TK g) d re nx nu ed se) : wY_nullRule_45 post J (nI r) x b x4 (nI k) rc tc (nI (dc_R g)) (nI (dc_T g)) op cm (dc_HN g) (dc_HA g) (dc_BL g) (dc_KD g) (dc_SM g) (dc_AG g) (dc_TK g) d re nx nu ed se := by
  have hR := dc_W_R hW
  have h6 := dc_W_hn hW r
  have hs : ∀ (nu' : Nat → Int32), (∀ m, dc_U nu m → dc_U nu' m) → (dc_ok g (dc_U a0) r k → dc_U nu' (dc_hn g r)) → dc_vn g a0 nu' r (k + 1) := by
    intro nu' h1 h2 k' hk' he ho
    by_cases e : k' = k
    · rw [e] at ho; exact h2 ho
    · exact h1 _ (hv k' (by omega) he ho)
  refine dc_if (dc_bo_0 hx) (fun h1 => ?_) (fun h1 => ?_)
  · exact nm_r (nI_1 k) (hJ b nu hp (hs nu (fun _ z => z) (fun z => absurd (dc_ok_mono hp.1 z) h1)))
  · have hok := Classical.not_not.mp h1
    have hN : dc_N g (dc_hn g r) := dc_N_cl g r hr ⟨k, hen, dc_ok_mono hp.2.1 hok⟩
    have e1 : dc_HN g (nI r).toNatClampNeg = nI (dc_hn g r) := dc_at (dc_HN g) (by omega)
    have hi1 : vp_in (dc_HN g (nI r).toNatClampNeg) 6 := by rw [e1]; exact vp_in_nI h6 (by omega)
    have e2 : (dc_HN g (nI r).toNatClampNeg).toNatClampNeg = dc_hn g r := by rw [e1]; exact nI_clamp (by omega)
    refine ⟨vp_in_nI (by omega) (by omega), hi1, ?_⟩
    rw [e2]
    refine br_c (fun h2 => ?_) (fun h2 => ?_)
    · have hp1 := dc_pn_1 hp.2.1 h6 h2 hN
      refine ⟨vp_in_nI (by omega) (by omega), hi1, nm_r (e' := upd nu (dc_hn g r) 1) (by rw [dc_nb1]) (nm_r (nI_1 k) (hJ 1 _ (dc_pn_t hp hp1 (by decide)) (hs _ hp1.1 (fun _ => (dc_U_u h6).mpr (Or.inr rfl)))))⟩
    · exact nm_r (nI_1 k) (hJ b nu hp (hs nu (fun _ z => z) (fun _ => ⟨h6, h2⟩)))
theorem dc_y_nr15 (hW : dc_W g) {post : Int32 → SY → Prop} {a0 : Nat → Int32} {r : Nat} (hr : r < dc_R g) (h : ∀ b nu, dc_pn g a0 nu b → dc_vn g a0 nu r (dc_bl g r + 1) → post b (dc_y g rc tc op cm d re nx nu ed se)) : ∀ n k x b nu, k ≤ dc_bl g r + 1 → dc_bl g r + 1 - k < n → (k ≤ dc_bl g r → dc_bo (dc_ok g (dc_U nu) r k) x) → dc_pn g a0 nu b → dc_vn g a0 nu r k → wY_nullRule_15 post (nI r) (nI (dc_bl g r)) rc tc (nI (dc_R g)) (nI (dc_T g)) op cm n x b (nI k) (dc_HN g) (dc_HA g) (dc_BL g) (dc_KD g) (dc_SM g) (dc_AG g) (dc_TK g) d re nx nu ed se := by
  have hB := dc_W_bl hW r
  have hR := dc_W_R hW
  intro n
  induction n with
  | zero => intro k x b nu h1 h2; omega
  | succ n ih =>
    intro k x b nu hk hn hx hp hv
    refine pk_lt (dc_bl g r) k (fun h2 => ?_) (fun h2 => ?_)
    · have e : k = dc_bl g r + 1 := by omega
      subst e
      exact ⟨dc_nar01 (dc_pn_01 hp), h b nu hp hv⟩
    · have hx' := hx h2
      have go : dc_en g r k → (k < dc_bl g r → dc_kd g (r * 6 + k) = 2) → wY_nullRule_45 post (wY_nullRule_15 post (nI r) (nI (dc_bl g r)) rc tc (nI (dc_R g)) (nI (dc_T g)) op cm n) (nI r) x b (nI (dc_bl g r)) (nI k) rc tc (nI (dc_R g)) (nI (dc_T g)) op cm (dc_HN g) (dc_HA g) (dc_BL g) (dc_KD g) (dc_SM g) (dc_AG g) (dc_TK g) d re nx nu ed se := by
        intro he hk2
        refine dc_y_nr45 hW hr he hx' hp hv (fun b' nu' hp' hv' => ih (k + 1) 1 b' nu' (by omega) (by omega) ?_ hp' hv')
        intro hk1
        exact dc_bo_t (dc_ok_bar (hk2 (by omega)))
      refine pk_eq k (dc_bl g r) (fun h3 => ?_) (fun h3 => ?_)
      · exact go ⟨h2, Or.inl h3⟩ (fun z => by omega)
      · have hq : r * 6 + k < 72 := by omega
        have hkd := dc_W_kd hW (r * 6 + k)
        rw [dc_i6]
        refine ⟨vp_in_nI hq (by omega), pk_eq (dc_kd g (r * 6 + k)) 2 (fun h4 => ?_) (fun h4 => ?_) (dc_at (dc_KD g) (by omega))⟩
        · exact go ⟨h2, Or.inr h4⟩ (fun _ => h4)
        · have hv' : dc_vn g a0 nu r (k + 1) := by
            intro k' hk' he
            by_cases e : k' = k
            · subst e
              exact absurd he.2 (fun z => z.elim h3 h4)
            · exact hv k' (by omega) he
          refine ⟨vp_in_nI hq (by omega), pk_eq (dc_kd g (r * 6 + k)) 0 (fun h5 => ?_) (fun h5 => ?_) (dc_at (dc_KD g) (by omega))⟩
          · refine nm_r (nI_1 k) (ih (k + 1) 0 b nu (by omega) (by omega) (fun _ => dc_bo_f ?_) hp hv')
            rw [dc_ok_s h4]
            intro z
            omega
          · have h1 : dc_kd g (r * 6 + k) = 1 := by omega
            have h6 := dc_W_s1 hW h1
            have e1 : dc_SM g (nI (r * 6 + k)).toNatClampNeg = nI (dc_sy g (r * 6 + k)) := dc_at (dc_SM g) (by omega)
            refine ⟨vp_in_nI hq (by omega), ?_⟩
            rw [e1]
            refine ⟨vp_in_nI h6 (by omega), ?_⟩
            rw [nI_clamp (show dc_sy g (r * 6 + k) < 2 ^ 31 by omega)]
            refine br_c (fun h7 => ?_) (fun h7 => ?_)
            · refine nm_r (nI_1 k) (ih (k + 1) 0 b nu (by omega) (by omega) (fun _ => dc_bo_f ?_) hp hv')
              rw [dc_ok_s h4]
              intro z
              exact z.2.2.2 h7
            · refine nm_r (nI_1 k) (ih (k + 1) x b nu (by omega) (by omega) (fun _ => dc_bo_c ?_ hx') hp hv')
              rw [dc_ok_s h4]
              exact ⟨fun z => ⟨z, h1, h6, h7⟩, fun z => z.1⟩
theorem dc_y_nr (hW : dc_W g) {post : Int32 → SY → Prop} {r : Nat} (hr : r < dc_R g) (hs : ∀ m, dc_U nu m → dc_N g m) (h : ∀ b nu', dc_pn g nu nu' b → (dc_nr g (dc_U nu) r → dc_U nu' (dc_hn g r)) → post b (dc_y g rc tc op cm d re nx nu' ed se)) : wpY_nullRule post (dc_y g rc tc op cm d re nx nu ed se) (nI r) := by
  have hR := dc_W_R hW
  refine ⟨vp_in_nI (by omega) (by omega), nm_r (dc_at (dc_BL g) (by omega)) ⟨dc_bl g r + 2, dc_y_nr15 hW hr (fun b nu' hp hv => h b nu' hp ?_) _ 0 1 0 nu (by omega) (by omega) (fun _ => dc_bo_t dc_ok_0) (dc_pn_r hs) (fun k' hk' => by omega)⟩⟩
  intro ⟨k, he, ho⟩
  exact hv k (Nat.lt_succ_of_le he.1) he ho
theorem dc_y_np4 (hW : dc_W g) {post : Int32 → SY → Prop} {a0 : Nat → Int32} (h : ∀ b nu, dc_pn g a0 nu b → (∀ r, r < dc_R g → dc_nr g (dc_U a0) r → dc_U nu (dc_hn g r)) → post b (dc_y g rc tc op cm d re nx nu ed se)) : ∀ n r b nu, r ≤ dc_R g → dc_R g - r < n → dc_pn g a0 nu b → (∀ r', r' < r → dc_nr g (dc_U a0) r' → dc_U nu (dc_hn g r')) → wY_nullPass_4 post n b (nI r) rc tc (nI (dc_R g)) (nI (dc_T g)) op cm (dc_HN g) (dc_HA g) (dc_BL g) (dc_KD g) (dc_SM g) (dc_AG g) (dc_TK g) d re nx nu ed se := by
  have hR := dc_W_R hW
  intro n
  induction n with
  | zero => intro r b nu h1 h2; omega
  | succ n ih =>
    intro r b nu hr hn hp hv
    refine pk_le (dc_R g) r (fun h2 => ?_) (fun h2 => ?_)
    · have e : r = dc_R g := by omega
      subst e
      exact ⟨dc_nar01 (dc_pn_01 hp), h b nu hp hv⟩
    · refine dc_y_nr hW h2 hp.2.1 (fun b' nu' hp' hl => ?_)
      have hv' : ∀ r', r' < r + 1 → dc_nr g (dc_U a0) r' → dc_U nu' (dc_hn g r') := by
        intro r' hr' hz
        by_cases e : r' = r
        · subst e
          exact hl (dc_nr_mono hp.1 hz)
        · exact hp'.1 _ (hv r' (by omega) hz)
      refine br_c (fun e => ?_) (fun e => ?_)
      · exact nm_r (nI_1 r) (ih (r + 1) b nu' (by omega) (by omega) (dc_pn_f hp hp' e) hv')
      · exact nm_r (nI_1 r) (ih (r + 1) 1 nu' (by omega) (by omega) (dc_pn_t hp hp' e) hv')
theorem dc_y_np (hW : dc_W g) {post : Int32 → SY → Prop} (hs : ∀ m, dc_U nu m → dc_N g m) (h : ∀ b nu', dc_pn g nu nu' b → (∀ r, r < dc_R g → dc_nr g (dc_U nu) r → dc_U nu' (dc_hn g r)) → post b (dc_y g rc tc op cm d re nx nu' ed se)) : wpY_nullPass post (dc_y g rc tc op cm d re nx nu ed se) :=
  ⟨dc_R g + 1, dc_y_np4 hW h _ 0 0 nu (by omega) (by omega) (dc_pn_r hs) (fun r' hr' => by omega)⟩
theorem dc_y_cn23 (hW : dc_W g) {post : SY → Prop} (h : ∀ nu', (∀ m, dc_U nu' m ↔ dc_N g m) → post (dc_y g rc tc op cm d re nx nu' ed se)) : ∀ n t nu, t ≤ 7 → 7 - t < n → (∀ m, dc_U nu m → dc_N g m) → t ≤ dc_ct (dc_U nu) 6 → wY_computeNullable_23 post n (nI t) rc tc (nI (dc_R g)) (nI (dc_T g)) op cm (dc_HN g) (dc_HA g) (dc_BL g) (dc_KD g) (dc_SM g) (dc_AG g) (dc_TK g) d re nx nu ed se := by
  intro n
  induction n with
  | zero => intro t nu h1 h2; omega
  | succ n ih =>
    intro t nu ht hn hd hc
    have hle := dc_ct_le (dc_U nu) 6
    refine pk_le 7 t (fun h2 => absurd h2 (by omega)) (fun h2 => ?_)
    refine dc_y_np hW hd (fun b' nu' hp hf => ?_)
    rcases hp.2.2 with ⟨e1, e2⟩ | ⟨e1, e2⟩
    · subst e2
      exact br_t e1 (h nu' (dc_Nend hW hd (Or.inl hf)))
    · subst e1
      exact br_f (by decide) (nm_r (nI_1 t) (ih (t + 1) nu' (by omega) (by omega) hp.2.1 (by omega)))
theorem dc_y_cn2 (hW : dc_W g) {post : SY → Prop} (h : ∀ nu', (∀ m, dc_U nu' m ↔ dc_N g m) → post (dc_y g rc tc op cm d re nx nu' ed se)) : ∀ n c nu, c ≤ 6 → 6 - c < n → (∀ q, q < c → nu q = 0) → wY_computeNullable_2 post rc tc (nI (dc_R g)) (nI (dc_T g)) op cm n (nI c) (dc_HN g) (dc_HA g) (dc_BL g) (dc_KD g) (dc_SM g) (dc_AG g) (dc_TK g) d re nx nu ed se := by
  intro n
  induction n with
  | zero => intro c nu h1 h2; omega
  | succ n ih =>
    intro c nu hc hn hz
    refine pk_le 6 c (fun h1 => ?_) (fun h1 => ?_)
    · exact ⟨8, dc_y_cn23 hW h 8 0 nu (by omega) (by omega) (fun m z => absurd (hz m (by have := z.1; omega)) z.2) (by omega)⟩
    · exact ⟨vp_in_nI h1 (by omega), nm_r (e' := upd nu c 0) (by rw [nI_clamp (by omega), dc_nb0]) (nm_r (nI_1 c) (ih (c + 1) _ (by omega) (by omega) (dc_z_s hz)))⟩
theorem dc_y_cn (hW : dc_W g) {post : SY → Prop} (h : ∀ nu', (∀ m, dc_U nu' m ↔ dc_N g m) → post (dc_y g rc tc op cm d re nx nu' ed se)) : wpY_computeNullable post (dc_y g rc tc op cm d re nx nu ed se) :=
  ⟨7, dc_y_cn2 hW h 7 0 nu (by omega) (by omega) (fun q hq => by omega)⟩
end
