/-- the edges that the rules before r and the first k items of r show, as cells -/
def dc_es (g : dc_G) (r k c : Nat) : Prop := ∃ r' k', (r' < r ∨ (r' = r ∧ k' < k)) ∧ k' < dc_bl g r' ∧ dc_kd g (r' * 6 + k') = 1 ∧ dc_ok g (dc_N g) r' k' ∧ c = dc_hn g r' * 6 + dc_sy g (r' * 6 + k')
theorem dc_es_n {g : dc_G} {r k c : Nat} (h : ¬ (dc_kd g (r * 6 + k) = 1 ∧ dc_ok g (dc_N g) r k)) : dc_es g r k c ↔ dc_es g r (k + 1) c := by
  constructor
  · intro ⟨r', k', h1, h2⟩
    exact ⟨r', k', by omega, h2⟩
  · intro ⟨r', k', h1, h2, h3, h4, h5⟩
    by_cases e : r' = r ∧ k' = k
    · obtain ⟨rfl, rfl⟩ := e
      exact absurd ⟨h3, h4⟩ h
    · exact ⟨r', k', by omega, h2, h3, h4, h5⟩
theorem dc_es_y {g : dc_G} {r k c : Nat} (hk : k < dc_bl g r) (h1 : dc_kd g (r * 6 + k) = 1) (h2 : dc_ok g (dc_N g) r k) : (dc_es g r k c ∨ c = dc_hn g r * 6 + dc_sy g (r * 6 + k)) ↔ dc_es g r (k + 1) c := by
  constructor
  · intro z
    rcases z with ⟨r', k', h3, h4⟩ | z
    · exact ⟨r', k', by omega, h4⟩
    · exact ⟨r, k, by omega, hk, h1, h2, z⟩
  · intro ⟨r', k', h3, h4, h5, h6, h7⟩
    by_cases e : r' = r ∧ k' = k
    · obtain ⟨rfl, rfl⟩ := e
      exact Or.inr h7
    · exact Or.inl ⟨r', k', by omega, h4, h5, h6, h7⟩
theorem dc_es_r {g : dc_G} {r c : Nat} : dc_es g r (dc_bl g r) c ↔ dc_es g (r + 1) 0 c := by
  constructor
  · intro ⟨r', k', h1, h2⟩
    exact ⟨r', k', by omega, h2⟩
  · intro ⟨r', k', h1, h2, h3⟩
    by_cases e : r' = r
    · subst e
      exact ⟨r', k', by omega, h2, h3⟩
    · exact ⟨r', k', by omega, h2, h3⟩
theorem dc_es_E {g : dc_G} (hW : dc_W g) {a b : Nat} (hb : b < 6) : dc_es g (dc_R g) 0 (a * 6 + b) ↔ dc_E g a b := by
  constructor
  · intro ⟨r, k, h1, h2, h3, h4, h5⟩
    have h6 := dc_W_s1 hW h3
    exact ⟨r, k, by omega, by omega, h2, h3, h4, by omega⟩
  · intro ⟨r, k, h1, h2, h3, h4, h5, h6⟩
    exact ⟨r, k, by omega, h3, h4, h5, by rw [h2, h6]⟩
section
variable {g : dc_G} {rc tc op cm : Int32} {d re nx nu ed se : Nat → Int32}
theorem dc_y_er80 (hW : dc_W g) (hnu : ∀ m, dc_U nu m ↔ dc_N g m) {post : SY → Prop} {J : Int32 → Int32 → (Nat → Int32) → (Nat → Int32) → (Nat → Int32) → (Nat → Int32) → (Nat → Int32) → (Nat → Int32) → (Nat → Int32) → (Nat → Int32) → (Nat → Int32) → (Nat → Int32) → (Nat → Int32) → (Nat → Int32) → (Nat → Int32) → Prop} {x : Int32} {r k : Nat} (hq : r * 6 + k < 72) (h1 : dc_kd g (r * 6 + k) = 1) (hx : dc_bo (dc_ok g (dc_N g) r k) x) (hJ : ∀ x', dc_bo (dc_ok g (dc_N g) r (k + 1)) x' → J x' (nI (k + 1)) (dc_HN g) (dc_HA g) (dc_BL g) (dc_KD g) (dc_SM g) (dc_AG g) (dc_TK g) d re nx nu ed se) : wY_edgeRule_80 post J (nI r) x (nI k) (nI (r * 6 + k)) rc tc (nI (dc_R g)) (nI (dc_T g)) op cm (dc_HN g) (dc_HA g) (dc_BL g) (dc_KD g) (dc_SM g) (dc_AG g) (dc_TK g) d re nx nu ed se := by
  have h6 := dc_W_s1 hW h1
  have h2 : dc_kd g (r * 6 + k) ≠ 2 := by omega
  have e1 : dc_SM g (nI (r * 6 + k)).toNatClampNeg = nI (dc_sy g (r * 6 + k)) := dc_at (dc_SM g) (by omega)
  refine ⟨vp_in_nI hq (by omega), ?_⟩
  rw [e1]
  refine ⟨vp_in_nI h6 (by omega), ?_⟩
  rw [nI_clamp (show dc_sy g (r * 6 + k) < 2 ^ 31 by omega)]
  refine br_c (fun h7 => ?_) (fun h7 => ?_)
  · refine nm_r (nI_1 k) (hJ 0 (dc_bo_f ?_))
    rw [dc_ok_s h2]
    intro z
    exact ((hnu _).mpr z.2.2).2 h7
  · refine nm_r (nI_1 k) (hJ x (dc_bo_c ?_ hx))
    rw [dc_ok_s h2]
    exact ⟨fun z => ⟨z, h1, (hnu _).mp ⟨h6, h7⟩⟩, fun z => z.1⟩
theorem dc_y_er4 (hW : dc_W g) (hnu : ∀ m, dc_U nu m ↔ dc_N g m) {post : SY → Prop} {r : Nat} (hr : r < 12) (h : ∀ ed, dc_is ed 36 (dc_es g (r + 1) 0) → post (dc_y g rc tc op cm d re nx nu ed se)) : ∀ n k x ed, k ≤ dc_bl g r → dc_bl g r - k < n → dc_bo (dc_ok g (dc_N g) r k) x → dc_is ed 36 (dc_es g r k) → wY_edgeRule_4 post (nI r) rc tc (nI (dc_R g)) (nI (dc_T g)) op cm n x (nI k) (dc_HN g) (dc_HA g) (dc_BL g) (dc_KD g) (dc_SM g) (dc_AG g) (dc_TK g) d re nx nu ed se := by
  have hB := dc_W_bl hW r
  have hn6 := dc_W_hn hW r
  intro n
  induction n with
  | zero => intro k x ed h1 h2; omega
  | succ n ih =>
    intro k x ed hk hn hx hed
    refine ⟨vp_in_nI (by omega) (by omega), pk_le (dc_bl g r) k (fun h1 => ?_) (fun h1 => ?_) (dc_at (dc_BL g) (by omega))⟩
    · have e : k = dc_bl g r := by omega
      subst e
      exact h ed (dc_is_c hed (fun c _ => dc_es_r))
    · have hq : r * 6 + k < 72 := by omega
      have hkd := dc_W_kd hW (r * 6 + k)
      refine nm_r (dc_i6 r k) ⟨vp_in_nI hq (by omega), pk_eq (dc_kd g (r * 6 + k)) 2 (fun h2 => ?_) (fun h2 => ?_) (dc_at (dc_KD g) (by omega))⟩
      · exact nm_r (nI_1 k) (ih (k + 1) 1 ed (by omega) (by omega) (dc_bo_t (dc_ok_bar h2)) (dc_is_c hed (fun c _ => dc_es_n (fun z => by omega))))
      · refine ⟨vp_in_nI hq (by omega), pk_eq (dc_kd g (r * 6 + k)) 0 (fun h3 => ?_) (fun h3 => ?_) (dc_at (dc_KD g) (by omega))⟩
        · refine nm_r (nI_1 k) (ih (k + 1) 0 ed (by omega) (by omega) (dc_bo_f ?_) (dc_is_c hed (fun c _ => dc_es_n (fun z => by omega))))
          rw [dc_ok_s h2]
          intro z
          omega
        · have h4 : dc_kd g (r * 6 + k) = 1 := by omega
          have h6 := dc_W_s1 hW h4
          refine dc_if (dc_bo_0 hx) (fun h5 => ?_) (fun h5 => ?_)
          · exact dc_y_er80 hW hnu hq h4 hx (fun x' hx' => ih (k + 1) x' ed (by omega) (by omega) hx' (dc_is_c hed (fun c _ => dc_es_n (fun z => h5 z.2))))
          · have ec : dc_HN g (nI r).toNatClampNeg * 6 + dc_SM g (nI (r * 6 + k)).toNatClampNeg = nI (dc_hn g r * 6 + dc_sy g (r * 6 + k)) := by
              rw [dc_at (dc_HN g) (show r < 2 ^ 31 by omega), dc_at (dc_SM g) (show r * 6 + k < 2 ^ 31 by omega)]
              exact dc_i6 _ _
            refine ⟨vp_in_nI (by omega) (by omega), vp_in_nI hq (by omega), ?_⟩
            rw [ec]
            refine ⟨vp_in_nI (by omega) (by omega), nm_r (e' := upd ed (dc_hn g r * 6 + dc_sy g (r * 6 + k)) 1) (by rw [nI_clamp (by omega), dc_nb1]) ?_⟩
            exact dc_y_er80 hW hnu hq h4 hx (fun x' hx' => ih (k + 1) x' _ (by omega) (by omega) hx' (dc_is_c (dc_is_u hed) (fun c _ => dc_es_y h1 h4 (Classical.not_not.mp h5))))
theorem dc_y_er (hW : dc_W g) (hnu : ∀ m, dc_U nu m ↔ dc_N g m) {post : SY → Prop} {r : Nat} (hr : r < 12) (hed : dc_is ed 36 (dc_es g r 0)) (h : ∀ ed, dc_is ed 36 (dc_es g (r + 1) 0) → post (dc_y g rc tc op cm d re nx nu ed se)) : wpY_edgeRule post (dc_y g rc tc op cm d re nx nu ed se) (nI r) :=
  ⟨dc_bl g r + 1, dc_y_er4 hW hnu hr h _ 0 1 ed (by omega) (by omega) (dc_bo_t dc_ok_0) hed⟩
theorem dc_y_ce23 (hW : dc_W g) (hnu : ∀ m, dc_U nu m ↔ dc_N g m) {post : SY → Prop} (h : ∀ ed, dc_is ed 36 (dc_es g (dc_R g) 0) → post (dc_y g rc tc op cm d re nx nu ed se)) : ∀ n r ed, r ≤ dc_R g → dc_R g - r < n → dc_is ed 36 (dc_es g r 0) → wY_computeEdges_23 post n (nI r) rc tc (nI (dc_R g)) (nI (dc_T g)) op cm (dc_HN g) (dc_HA g) (dc_BL g) (dc_KD g) (dc_SM g) (dc_AG g) (dc_TK g) d re nx nu ed se := by
  have hR := dc_W_R hW
  intro n
  induction n with
  | zero => intro r ed h1 h2; omega
  | succ n ih =>
    intro r ed hr hn hed
    refine pk_le (dc_R g) r (fun h2 => ?_) (fun h2 => ?_)
    · have e : r = dc_R g := by omega
      subst e
      exact h ed hed
    · exact dc_y_er hW hnu (by omega) hed (fun ed' hed' => nm_r (nI_1 r) (ih (r + 1) ed' (by omega) (by omega) hed'))
theorem dc_y_ce2 (hW : dc_W g) (hnu : ∀ m, dc_U nu m ↔ dc_N g m) {post : SY → Prop} (h : ∀ ed, dc_is ed 36 (dc_es g (dc_R g) 0) → post (dc_y g rc tc op cm d re nx nu ed se)) : ∀ n c ed, c ≤ 36 → 36 - c < n → (∀ q, q < c → ed q = 0) → wY_computeEdges_2 post rc tc (nI (dc_R g)) (nI (dc_T g)) op cm n (nI c) (dc_HN g) (dc_HA g) (dc_BL g) (dc_KD g) (dc_SM g) (dc_AG g) (dc_TK g) d re nx nu ed se := by
  intro n
  induction n with
  | zero => intro c ed h1 h2; omega
  | succ n ih =>
    intro c ed hc hn hz
    refine pk_le 36 c (fun h1 => ?_) (fun h1 => ?_)
    · have e : c = 36 := by omega
      subst e
      exact ⟨dc_R g + 1, dc_y_ce23 hW hnu h _ 0 ed (by omega) (by omega) (dc_is_0 hz (fun q _ ⟨r', k', h2, _⟩ => by omega))⟩
    · exact ⟨vp_in_nI h1 (by omega), nm_r (e' := upd ed c 0) (by rw [nI_clamp (by omega), dc_nb0]) (nm_r (nI_1 c) (ih (c + 1) _ (by omega) (by omega) (dc_z_s hz)))⟩
theorem dc_y_ce (hW : dc_W g) (hnu : ∀ m, dc_U nu m ↔ dc_N g m) {post : SY → Prop} (h : ∀ ed, dc_is ed 36 (dc_es g (dc_R g) 0) → post (dc_y g rc tc op cm d re nx nu ed se)) : wpY_computeEdges post (dc_y g rc tc op cm d re nx nu ed se) :=
  ⟨37, dc_y_ce2 hW hnu h 37 0 ed (by omega) (by omega) (fun q hq => by omega)⟩
/-- one round of spreading from s0 to s, ahead of (a, b) -/
def dc_sp (g : dc_G) (m : Nat) (s0 s : Nat → Int32) (a b : Nat) : Prop := (∀ q, q < 6 → s q = 0 ∨ s q = 1) ∧ (∀ q, dc_U s0 q → dc_U s q) ∧ (∀ q, dc_U s q → dc_L g m q) ∧ (∀ a' b', (a' < a ∨ (a' = a ∧ b' < b)) → dc_U s0 a' → dc_E g a' b' → dc_U s b')
theorem dc_y_sp10 (hW : dc_W g) (hed : dc_is ed 36 (dc_es g (dc_R g) 0)) {m : Nat} {post : SY → Prop} {J : Int32 → (Nat → Int32) → (Nat → Int32) → (Nat → Int32) → (Nat → Int32) → (Nat → Int32) → (Nat → Int32) → (Nat → Int32) → (Nat → Int32) → (Nat → Int32) → (Nat → Int32) → (Nat → Int32) → (Nat → Int32) → (Nat → Int32) → Prop} {s0 : Nat → Int32} {a : Nat} (ha : a < 6) (hJ : ∀ se, dc_sp g m s0 se a 6 → J (nI (a + 1)) (dc_HN g) (dc_HA g) (dc_BL g) (dc_KD g) (dc_SM g) (dc_AG g) (dc_TK g) d re nx nu ed se) : ∀ n b se, b ≤ 6 → 6 - b < n → dc_sp g m s0 se a b → wY_spreadOnce_10 post J (nI a) rc tc (nI (dc_R g)) (nI (dc_T g)) op cm n (nI b) (dc_HN g) (dc_HA g) (dc_BL g) (dc_KD g) (dc_SM g) (dc_AG g) (dc_TK g) d re nx nu ed se := by
  intro n
  induction n with
  | zero => intro b se h1 h2; omega
  | succ n ih =>
    intro b se hb hn hs
    refine pk_le 6 b (fun h1 => ?_) (fun h1 => ?_)
    · have e : b = 6 := by omega
      subst e
      exact nm_r (nI_1 a) (hJ se hs)
    · have hsk : ¬ (dc_U s0 a ∧ dc_E g a b) → dc_sp g m s0 se a (b + 1) := by
        intro hz
        refine ⟨hs.1, hs.2.1, hs.2.2.1, ?_⟩
        intro a' b' hc hu he
        by_cases e : a' = a ∧ b' = b
        · obtain ⟨rfl, rfl⟩ := e
          exact absurd ⟨hu, he⟩ hz
        · exact hs.2.2.2 a' b' (by omega) hu he
      refine ⟨vp_in_nI ha (by omega), ?_⟩
      rw [nI_clamp (show a < 2 ^ 31 by omega)]
      refine br_c (fun h2 => ?_) (fun h2 => ?_)
      · exact nm_r (nI_1 b) (ih (b + 1) se (by omega) (by omega) (hsk (fun z => (hs.2.1 a z.1).2 h2)))
      · rw [dc_i6]
        have hc : a * 6 + b < 36 := by omega
        refine ⟨vp_in_nI hc (by omega), ?_⟩
        rw [nI_clamp (show a * 6 + b < 2 ^ 31 by omega)]
        refine dc_if (dc_bo_0 (dc_bo_c (dc_es_E hW h1) (hed _ hc))) (fun h3 => ?_) (fun h3 => ?_)
        · exact nm_r (nI_1 b) (ih (b + 1) se (by omega) (by omega) (hsk (fun z => h3 z.2)))
        · have hE := Classical.not_not.mp h3
          refine ⟨vp_in_nI h1 (by omega), nm_r (e' := upd se b 1) (by rw [nI_clamp (by omega), dc_nb1]) (nm_r (nI_1 b) (ih (b + 1) _ (by omega) (by omega) ⟨?_, ?_, ?_, ?_⟩))⟩
          · intro q hq
            by_cases e : q = b
            · rw [e, pk_us]; exact Or.inr rfl
            · rw [pk_un e]; exact hs.1 q hq
          · intro q hq; exact (dc_U_u h1).mpr (Or.inl (hs.2.1 q hq))
          · intro q hq
            rcases (dc_U_u h1).mp hq with z | z
            · exact hs.2.2.1 q z
            · rw [z]; exact dc_L_s (hs.2.2.1 a ⟨ha, h2⟩) hE
          · intro a' b' hc' hu he
            by_cases e : b' = b
            · exact (dc_U_u h1).mpr (Or.inr e)
            · exact (dc_U_u h1).mpr (Or.inl (hs.2.2.2 a' b' (by omega) hu he))
theorem dc_y_sp2 (hW : dc_W g) (hed : dc_is ed 36 (dc_es g (dc_R g) 0)) {m : Nat} {post : SY → Prop} {s0 : Nat → Int32} (h : ∀ se, dc_sp g m s0 se 6 0 → post (dc_y g rc tc op cm d re nx nu ed se)) : ∀ n a se, a ≤ 6 → 6 - a < n → dc_sp g m s0 se a 0 → wY_spreadOnce_2 post rc tc (nI (dc_R g)) (nI (dc_T g)) op cm n (nI a) (dc_HN g) (dc_HA g) (dc_BL g) (dc_KD g) (dc_SM g) (dc_AG g) (dc_TK g) d re nx nu ed se := by
  intro n
  induction n with
  | zero => intro a se h1 h2; omega
  | succ n ih =>
    intro a se ha hn hs
    refine pk_le 6 a (fun h1 => ?_) (fun h1 => ?_)
    · have e : a = 6 := by omega
      subst e
      exact h se hs
    · refine ⟨7, dc_y_sp10 hW hed h1 (fun se' hs' => ih (a + 1) se' (by omega) (by omega) ⟨hs'.1, hs'.2.1, hs'.2.2.1, ?_⟩) 7 0 se (by omega) (by omega) hs⟩
      intro a' b' hc hu he
      have := (dc_E_in hW he).2
      exact hs'.2.2.2 a' b' (by omega) hu he
theorem dc_y_sp (hW : dc_W g) (hed : dc_is ed 36 (dc_es g (dc_R g) 0)) {m : Nat} {post : SY → Prop} (h0 : ∀ q, q < 6 → se q = 0 ∨ se q = 1) (h1 : ∀ q, dc_U se q → dc_L g m q) (h : ∀ se', dc_sp g m se se' 6 0 → post (dc_y g rc tc op cm d re nx nu ed se')) : wpY_spreadOnce post (dc_y g rc tc op cm d re nx nu ed se) :=
  ⟨7, dc_y_sp2 hW hed h 7 0 se (by omega) (by omega) ⟨h0, fun _ z => z, h1, fun a' b' hc => by omega⟩⟩
theorem dc_y_cf33 (hW : dc_W g) (hed : dc_is ed 36 (dc_es g (dc_R g) 0)) {m : Nat} (hm : m < 6) {post : Int32 → SY → Prop} (h : ∀ b se', dc_bo (dc_L g m m) b → post b (dc_y g rc tc op cm d re nx nu ed se')) : ∀ n t se, t ≤ 6 → 6 - t < n → (∀ q, q < 6 → se q = 0 ∨ se q = 1) → (∀ b, dc_E g m b → dc_U se b) → (∀ b, dc_U se b → dc_L g m b) → (dc_LC g m (dc_U se) ∨ t ≤ dc_ct (dc_U se) 6) → wY_cycleFrom_33 post (nI m) n (nI t) rc tc (nI (dc_R g)) (nI (dc_T g)) op cm (dc_HN g) (dc_HA g) (dc_BL g) (dc_KD g) (dc_SM g) (dc_AG g) (dc_TK g) d re nx nu ed se := by
  intro n
  induction n with
  | zero => intro t se h1 h2; omega
  | succ n ih =>
    intro t se ht hn h0 h1 h2 h3
    refine pk_le 6 t (fun h4 => ?_) (fun h4 => ?_)
    · have e : t = 6 := by omega
      subst e
      have hl := dc_Lend hW h2 h3 m
      refine ⟨vp_in_nI hm (by omega), ?_⟩
      rw [nI_clamp (show m < 2 ^ 31 by omega)]
      refine ⟨dc_nar01 (h0 m hm), h _ se ?_⟩
      rcases h0 m hm with z | z
      · rw [z]; exact dc_bo_f (fun y => (hl.mpr y).2 z)
      · rw [z]; exact dc_bo_t (hl.mp ⟨hm, by rw [z]; decide⟩)
    · refine dc_y_sp hW hed h0 h2 (fun se' hs => nm_r (nI_1 t) (ih (t + 1) se' (by omega) (by omega) hs.1 ?_ hs.2.2.1 ?_))
      · intro b hb; exact hs.2.1 b (h1 b hb)
      · exact dc_Lstep hW hs.2.1 hs.2.2.1 h1 (fun a b ha he => hs.2.2.2 a b (Or.inl (dc_E_in hW he).1) ha he) h3
theorem dc_y_cf2 (hW : dc_W g) (hed : dc_is ed 36 (dc_es g (dc_R g) 0)) {m : Nat} (hm : m < 6) {post : Int32 → SY → Prop} (h : ∀ b se', dc_bo (dc_L g m m) b → post b (dc_y g rc tc op cm d re nx nu ed se')) : ∀ n c se, c ≤ 6 → 6 - c < n → (∀ q, q < c → dc_bo (dc_E g m q) (se q)) → wY_cycleFrom_2 post (nI m) rc tc (nI (dc_R g)) (nI (dc_T g)) op cm n (nI c) (dc_HN g) (dc_HA g) (dc_BL g) (dc_KD g) (dc_SM g) (dc_AG g) (dc_TK g) d re nx nu ed se := by
  intro n
  induction n with
  | zero => intro c se h1 h2; omega
  | succ n ih =>
    intro c se hc hn hz
    refine pk_le 6 c (fun h1 => ?_) (fun h1 => ?_)
    · have e : c = 6 := by omega
      subst e
      refine ⟨7, dc_y_cf33 hW hed hm h 7 0 se (by omega) (by omega) (fun q hq => dc_bo_01 (hz q hq)) ?_ ?_ (Or.inr (by omega))⟩
      · intro b hb
        have h6 := (dc_E_in hW hb).2
        exact ⟨h6, fun z => ((dc_bo_0 (hz b h6)).mp z) hb⟩
      · intro b hb
        exact dc_L_E (Classical.byContradiction fun z => hb.2 ((dc_bo_0 (hz b hb.1)).mpr z))
    · have hc6 : m * 6 + c < 36 := by omega
      have hbo := dc_bo_c (dc_es_E hW h1) (hed _ hc6)
      rw [dc_i6]
      refine ⟨vp_in_nI hc6 (by omega), vp_in_nI h1 (by omega), nm_r (e' := upd se c (ed (m * 6 + c))) (by rw [nI_clamp (show c < 2 ^ 31 by omega), nI_clamp (show m * 6 + c < 2 ^ 31 by omega), dc_nbo hbo]) (nm_r (nI_1 c) (ih (c + 1) _ (by omega) (by omega) ?_))⟩
      intro q hq
      by_cases e : q = c
      · rw [e, pk_us]; exact hbo
      · rw [pk_un e]; exact hz q (by omega)
theorem dc_y_cf (hW : dc_W g) (hed : dc_is ed 36 (dc_es g (dc_R g) 0)) {m : Nat} (hm : m < 6) {post : Int32 → SY → Prop} (h : ∀ b se', dc_bo (dc_L g m m) b → post b (dc_y g rc tc op cm d re nx nu ed se')) : wpY_cycleFrom post (dc_y g rc tc op cm d re nx nu ed se) (nI m) :=
  ⟨7, dc_y_cf2 hW hed hm h 7 0 se (by omega) (by omega) (fun q hq => by omega)⟩
end
