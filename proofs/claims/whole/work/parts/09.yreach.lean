/-- the boolean array a holds the set P below n -/
def dc_is (a : Nat → Int32) (n : Nat) (P : Nat → Prop) : Prop := ∀ q, q < n → dc_bo (P q) (a q)
theorem dc_is_c {a : Nat → Int32} {n : Nat} {P Q : Nat → Prop} (h : dc_is a n P) (e : ∀ q, q < n → (P q ↔ Q q)) : dc_is a n Q := fun q hq => dc_bo_c (e q hq) (h q hq)
theorem dc_is_u {a : Nat → Int32} {n k : Nat} {P : Nat → Prop} (h : dc_is a n P) : dc_is (upd a k 1) n (fun q => P q ∨ q = k) := by
  intro q hq
  by_cases e : q = k
  · rw [e, pk_us]; exact dc_bo_t (Or.inr rfl)
  · rw [pk_un e]
    exact dc_bo_c ⟨Or.inl, fun z => z.resolve_right e⟩ (h q hq)
theorem dc_is_0 {a : Nat → Int32} {n : Nat} {P : Nat → Prop} (h : ∀ q, q < n → a q = 0) (hP : ∀ q, q < n → ¬ P q) : dc_is a n P := by
  intro q hq
  rw [h q hq]
  exact dc_bo_f (hP q hq)
theorem dc_z_s {a : Nat → Int32} {k : Nat} (h : ∀ q, q < k → a q = 0) : ∀ q, q < k + 1 → upd a k 0 q = 0 := by
  intro q hq
  by_cases e : q = k
  · rw [e, pk_us]
  · rw [pk_un e]; exact h q (by omega)
theorem dc_nbo {P : Prop} {b : Int32} (h : dc_bo P b) : vp_nar .boolean b = b := by
  rcases h with ⟨rfl, _⟩ | ⟨rfl, _⟩ <;> rfl
section
variable {g : dc_G} {rc tc op cm : Int32} {d re nx nu ed se : Nat → Int32}
theorem dc_y_vl {post : Int32 → Prop} {u : SY} {c x0 x1 : Nat} (hc : c < 6) (h : post (nI (dc_vl c x0 x1))) : wpY_val post u (nI c) (nI x0) (nI x1) := by
  refine pk_le 4 c (fun e => pk_eq c 4 (fun e' => ?_) (fun e' => ?_)) (fun e => ?_)
  · subst e'; exact h
  · have e2 : c = 5 := by omega
    subst e2; exact h
  · unfold dc_vl at h
    rw [if_pos (by omega)] at h
    exact h
theorem dc_y_ix {post : Int32 → Prop} {u : SY} {m v i j : Nat} (h : post (nI (((m * 4 + v) * 9 + i) * 9 + j))) : wpY_idx post u (nI m) (nI v) (nI i) (nI j) := by
  unfold wpY_idx
  dsimp only
  rw [dc_i81]
  exact h
theorem dc_y_s177 {P : Nat → Prop} (hnx : dc_is nx 9 P) {post : SY → Prop} (h : ∀ re', dc_is re' 9 P → post (dc_y g rc tc op cm d re' nx nu ed se)) : ∀ n j re, j ≤ 9 → 9 - j < n → (∀ q, q < j → dc_bo (P q) (re q)) → wY_step_177 post rc tc (nI (dc_R g)) (nI (dc_T g)) op cm n (nI j) (dc_HN g) (dc_HA g) (dc_BL g) (dc_KD g) (dc_SM g) (dc_AG g) (dc_TK g) d re nx nu ed se := by
  intro n
  induction n with
  | zero => intro j re h1 h2; omega
  | succ n ih =>
    intro j re hj hn hr
    refine pk_le 9 j (fun h1 => ?_) (fun h1 => ?_)
    · have e : j = 9 := by omega
      subst e
      exact h re hr
    · refine ⟨vp_in_nI h1 (by omega), vp_in_nI h1 (by omega), nm_r (e' := upd re j (nx j)) (by rw [nI_clamp (by omega), dc_nbo (hnx j h1)]) (nm_r (nI_1 j) (ih (j + 1) _ (by omega) (by omega) ?_))⟩
      intro q hq
      by_cases e : q = j
      · rw [e, pk_us]; exact hnx j h1
      · rw [pk_un e]; exact hr q (by omega)
theorem dc_y_s121 (hW : dc_W g) {P : Nat → Prop} {post : SY → Prop} {J : Int32 → (Nat → Int32) → (Nat → Int32) → (Nat → Int32) → (Nat → Int32) → (Nat → Int32) → (Nat → Int32) → (Nat → Int32) → (Nat → Int32) → (Nat → Int32) → (Nat → Int32) → (Nat → Int32) → (Nat → Int32) → (Nat → Int32) → Prop} {q c p : Nat} (hq : q < 72) (hk : dc_kd g q = 1) (hc : c < 4) (hp : p ≤ dc_T g) (hJ : ∀ nx', dc_is nx' 9 (fun j => P j ∨ (p ≤ j ∧ j < dc_T g + 1 ∧ dc_SY d (dc_sy g q) c p j)) → J (nI (p + 1)) (dc_HN g) (dc_HA g) (dc_BL g) (dc_KD g) (dc_SM g) (dc_AG g) (dc_TK g) d re nx' nu ed se) : ∀ n j nx, p ≤ j → j ≤ dc_T g + 1 → dc_T g + 1 - j < n → dc_is nx 9 (fun j' => P j' ∨ (p ≤ j' ∧ j' < j ∧ dc_SY d (dc_sy g q) c p j')) → wY_step_121 post J (nI q) (nI c) (nI p) rc tc (nI (dc_R g)) (nI (dc_T g)) op cm n (nI j) (dc_HN g) (dc_HA g) (dc_BL g) (dc_KD g) (dc_SM g) (dc_AG g) (dc_TK g) d re nx nu ed se := by
  have hT := dc_W_T hW
  have h6 := dc_W_s1 hW hk
  intro n
  induction n with
  | zero => intro j nx h0 h1 h2; omega
  | succ n ih =>
    intro j nx hpj hj hn hnx
    refine pk_lt (dc_T g) j (fun h1 => ?_) (fun h1 => ?_)
    · have e : j = dc_T g + 1 := by omega
      subst e
      exact nm_r (nI_1 p) (hJ nx hnx)
    · refine ⟨vp_in_nI hq (by omega), ?_⟩
      rw [dc_at (dc_SM g) (show q < 2 ^ 31 by omega)]
      refine dc_y_ix ⟨vp_in_nI (by omega) (by omega), ?_⟩
      rw [nI_clamp (show ((dc_sy g q * 4 + c) * 9 + p) * 9 + j < 2 ^ 31 by omega)]
      refine br_c (fun hz => ?_) (fun hz => ?_)
      · refine nm_r (nI_1 j) (ih (j + 1) nx (by omega) (by omega) (by omega) (dc_is_c hnx ?_))
        intro j' _
        refine or_congr Iff.rfl ⟨fun z => ⟨z.1, by omega, z.2.2⟩, fun z => ⟨z.1, ?_, z.2.2⟩⟩
        by_cases e : j' = j
        · rw [e] at z; exact absurd hz z.2.2.2
        · omega
      · refine ⟨vp_in_nI (by omega) (by omega), nm_r (e' := upd nx j 1) (by rw [nI_clamp (by omega), dc_nb1]) (nm_r (nI_1 j) (ih (j + 1) _ (by omega) (by omega) (by omega) (dc_is_c (dc_is_u hnx) ?_)))⟩
        intro j' _
        have hS : dc_SY d (dc_sy g q) c p j := ⟨⟨h6, hc, by omega, by omega⟩, hz⟩
        constructor
        · intro z
          rcases z with (z | z) | z
          · exact Or.inl z
          · exact Or.inr ⟨z.1, by omega, z.2.2⟩
          · subst z; exact Or.inr ⟨hpj, by omega, hS⟩
        · intro z
          rcases z with z | z
          · exact Or.inl (Or.inl z)
          · by_cases e : j' = j
            · exact Or.inr e
            · exact Or.inl (Or.inr ⟨z.1, by omega, z.2.2⟩)
/-- what item q gives from place p -/
def dc_gv (g : dc_G) (S : dc_Q) (x0 x1 q p j : Nat) : Prop := (dc_kd g q = 0 ∧ p < dc_T g ∧ dc_tk g p = dc_sy g q ∧ j = p + 1) ∨ (dc_kd g q ≠ 0 ∧ p ≤ j ∧ j ≤ dc_T g ∧ S (dc_sy g q) (dc_vl (dc_ag g q) x0 x1) p j)
theorem dc_gv_st (g : dc_G) (S : dc_Q) (x0 x1 q : Nat) (P : Nat → Prop) (j : Nat) : (∃ p, p < dc_T g + 1 ∧ (P p ∧ dc_gv g S x0 x1 q p j)) ↔ dc_st g S x0 x1 q P j := by
  constructor
  · intro ⟨p, h1, h2, h3⟩
    rcases h3 with ⟨h4, h5, h6, h7⟩ | ⟨h4, h5, h6, h7⟩
    · exact Or.inl ⟨h4, p, h5, h2, h6, h7⟩
    · exact Or.inr ⟨h4, p, by omega, h2, h5, h6, h7⟩
  · intro h
    rcases h with ⟨h4, p, h5, h2, h6, h7⟩ | ⟨h4, p, h1, h2, h5, h6, h7⟩
    · exact ⟨p, by omega, h2, Or.inl ⟨h4, h5, h6, h7⟩⟩
    · exact ⟨p, by omega, h2, Or.inr ⟨h4, h5, h6, h7⟩⟩
theorem dc_y_s41 (hW : dc_W g) {P : Nat → Prop} (hre : dc_is re 9 P) {post : SY → Prop} {q x0 x1 : Nat} (hq : q < 72) (h2 : dc_kd g q ≠ 2) (h0 : x0 < 4) (h1 : x1 < 4) (h : ∀ re' nx', dc_is re' 9 (dc_st g (dc_SY d) x0 x1 q P) → post (dc_y g rc tc op cm d re' nx' nu ed se)) : ∀ n p nx, p ≤ dc_T g + 1 → dc_T g + 1 - p < n → dc_is nx 9 (fun j => ∃ p', p' < p ∧ (P p' ∧ dc_gv g (dc_SY d) x0 x1 q p' j)) → wY_step_41 post (nI q) (nI (dc_vl (dc_ag g q) x0 x1)) rc tc (nI (dc_R g)) (nI (dc_T g)) op cm n (nI p) (dc_HN g) (dc_HA g) (dc_BL g) (dc_KD g) (dc_SM g) (dc_AG g) (dc_TK g) d re nx nu ed se := by
  have hT := dc_W_T hW
  have hkd := dc_W_kd hW q
  have hsy := dc_W_sy hW q
  intro n
  induction n with
  | zero => intro p nx h1 h2; omega
  | succ n ih =>
    intro p nx hp hn hnx
    refine pk_lt (dc_T g) p (fun h3 => ?_) (fun h3 => ?_)
    · have e : p = dc_T g + 1 := by omega
      subst e
      exact ⟨10, dc_y_s177 (dc_is_c hnx (fun j _ => dc_gv_st g (dc_SY d) x0 x1 q P j)) (fun re' hre' => h re' nx hre') 10 0 re (by omega) (by omega) (fun q' hq' => by omega)⟩
    · have hp9 : p < 9 := by omega
      have hsk : ¬ P p → wY_step_41 post (nI q) (nI (dc_vl (dc_ag g q) x0 x1)) rc tc (nI (dc_R g)) (nI (dc_T g)) op cm n (nI (p + 1)) (dc_HN g) (dc_HA g) (dc_BL g) (dc_KD g) (dc_SM g) (dc_AG g) (dc_TK g) d re nx nu ed se :=
        fun hz => ih (p + 1) nx (by omega) (by omega) (dc_is_c hnx (fun j _ => dc_exn (fun z => hz z.1)))
      have h107 : ¬ (P p ∧ dc_kd g q = 0) → wY_step_107 post (wY_step_41 post (nI q) (nI (dc_vl (dc_ag g q) x0 x1)) rc tc (nI (dc_R g)) (nI (dc_T g)) op cm n) (nI q) (nI (dc_vl (dc_ag g q) x0 x1)) (nI p) rc tc (nI (dc_R g)) (nI (dc_T g)) op cm (dc_HN g) (dc_HA g) (dc_BL g) (dc_KD g) (dc_SM g) (dc_AG g) (dc_TK g) d re nx nu ed se := by
        intro hz
        refine ⟨vp_in_nI hp9 (by omega), ?_⟩
        rw [nI_clamp (show p < 2 ^ 31 by omega)]
        refine dc_if (dc_bo_0 (hre p hp9)) (fun h4 => nm_r (nI_1 p) (hsk h4)) (fun h4 => ?_)
        have hP : P p := Classical.not_not.mp h4
        have hk1 : dc_kd g q = 1 := by
          by_cases e : dc_kd g q = 0
          · exact absurd ⟨hP, e⟩ hz
          · omega
        refine ⟨dc_T g + 2, dc_y_s121 (P := fun j => ∃ p', p' < p ∧ (P p' ∧ dc_gv g (dc_SY d) x0 x1 q p' j)) hW hq hk1 (dc_vl4 h0 h1) (by omega) (fun nx' hnx' => ih (p + 1) nx' (by omega) (by omega) (dc_is_c hnx' ?_)) _ p nx (Nat.le_refl p) (by omega) (by omega) (dc_is_c hnx ?_)⟩
        · intro j _
          refine dc_exy ?_
          constructor
          · intro ⟨_, z⟩
            rcases z with z | z
            · omega
            · exact ⟨z.2.1, by omega, z.2.2.2⟩
          · intro z
            exact ⟨hP, Or.inr ⟨by omega, z.1, by omega, z.2.2⟩⟩
        · intro j _
          exact ⟨Or.inl, fun z => z.elim id (fun y => by omega)⟩
      refine ⟨vp_in_nI hp9 (by omega), ?_⟩
      rw [nI_clamp (show p < 2 ^ 31 by omega)]
      refine dc_if (dc_bo_0 (hre p hp9)) (fun h4 => h107 (fun z => h4 z.1)) (fun h4 => ?_)
      have hP : P p := Classical.not_not.mp h4
      refine ⟨vp_in_nI hq (by omega), pk_eq (dc_kd g q) 0 (fun h5 => ?_) (fun h5 => h107 (fun z => h5 z.2)) (dc_at (dc_KD g) (by omega))⟩
      refine pk_le (dc_T g) p (fun h6 => ?_) (fun h6 => ?_)
      · refine nm_r (nI_1 p) (ih (p + 1) nx (by omega) (by omega) (dc_is_c hnx (fun j _ => dc_exn ?_)))
        intro z
        rcases z.2 with y | y
        · omega
        · exact y.1 h5
      · have htk := dc_W_tk hW p
        refine ⟨vp_in_nI (by omega) (by omega), vp_in_nI hq (by omega), pk_eq (dc_tk g p) (dc_sy g q) (fun h7 => ?_) (fun h7 => ?_) rfl (dc_at (dc_SM g) (by omega))⟩
        · refine ⟨?_, nm_r (e' := upd nx (p + 1) 1) (by rw [nI_1, nI_clamp (by omega), dc_nb1]) (nm_r (nI_1 p) (ih (p + 1) _ (by omega) (by omega) (dc_is_c (dc_is_u hnx) (fun j _ => dc_exy ?_))))⟩
          · rw [nI_1]; exact vp_in_nI (by omega) (by omega)
          · constructor
            · intro ⟨_, z⟩
              rcases z with z | z
              · exact z.2.2.2
              · exact absurd h5 z.1
            · intro z
              exact ⟨hP, Or.inl ⟨h5, h6, h7, z⟩⟩
        · refine nm_r (nI_1 p) (ih (p + 1) nx (by omega) (by omega) (dc_is_c hnx (fun j _ => dc_exn ?_)))
          intro z
          rcases z.2 with y | y
          · exact h7 y.2.2.1
          · exact y.1 h5
theorem dc_y_s3 (hW : dc_W g) {P : Nat → Prop} (hre : dc_is re 9 P) {post : SY → Prop} {q x0 x1 : Nat} (hq : q < 72) (h2 : dc_kd g q ≠ 2) (h0 : x0 < 4) (h1 : x1 < 4) (h : ∀ re' nx', dc_is re' 9 (dc_st g (dc_SY d) x0 x1 q P) → post (dc_y g rc tc op cm d re' nx' nu ed se)) : ∀ n j nx, j ≤ 9 → 9 - j < n → (∀ q', q' < j → nx q' = 0) → wY_step_3 post (nI q) (nI x0) (nI x1) rc tc (nI (dc_R g)) (nI (dc_T g)) op cm n (nI j) (dc_HN g) (dc_HA g) (dc_BL g) (dc_KD g) (dc_SM g) (dc_AG g) (dc_TK g) d re nx nu ed se := by
  intro n
  induction n with
  | zero => intro p nx h1 h2; omega
  | succ n ih =>
    intro j nx hj hn hz
    refine pk_le 9 j (fun h3 => ?_) (fun h3 => ?_)
    · have e : j = 9 := by omega
      subst e
      refine ⟨vp_in_nI hq (by omega), ?_⟩
      rw [dc_at (dc_AG g) (show q < 2 ^ 31 by omega)]
      exact dc_y_vl (dc_W_ag hW q) ⟨dc_T g + 2, dc_y_s41 hW hre hq h2 h0 h1 h _ 0 nx (by omega) (by omega) (dc_is_0 hz (fun _ _ => dc_ex0))⟩
    · exact ⟨vp_in_nI h3 (by omega), nm_r (e' := upd nx j 0) (by rw [nI_clamp (by omega), dc_nb0]) (nm_r (nI_1 j) (ih (j + 1) _ (by omega) (by omega) (dc_z_s hz)))⟩
theorem dc_y_st (hW : dc_W g) {P : Nat → Prop} (hre : dc_is re 9 P) {post : SY → Prop} {q x0 x1 : Nat} (hq : q < 72) (h2 : dc_kd g q ≠ 2) (h0 : x0 < 4) (h1 : x1 < 4) (h : ∀ re' nx', dc_is re' 9 (dc_st g (dc_SY d) x0 x1 q P) → post (dc_y g rc tc op cm d re' nx' nu ed se)) : wpY_step post (dc_y g rc tc op cm d re nx nu ed se) (nI q) (nI x0) (nI x1) :=
  ⟨10, dc_y_s3 hW hre hq h2 h0 h1 h 10 0 nx (by omega) (by omega) (fun q' hq' => by omega)⟩
theorem dc_y_r35 (hW : dc_W g) {post : SY → Prop} {r x0 x1 i k s : Nat} (hr : r < 12) (h0 : x0 < 4) (h1 : x1 < 4) (hk : k ≤ 6) (hn2 : ∀ q, s ≤ q → q < k → dc_kd g (r * 6 + q) ≠ 2) (h : ∀ re' nx', dc_is re' 9 (dc_pl g (dc_SY d) r x0 x1 i k) → post (dc_y g rc tc op cm d re' nx' nu ed se)) : ∀ n t re nx, s ≤ t → t ≤ k → k - t < n → dc_is re 9 (dc_pl g (dc_SY d) r x0 x1 i t) → wY_spanReach_35 post (nI (r * 6 + k)) (nI x0) (nI x1) n (nI (r * 6 + t)) rc tc (nI (dc_R g)) (nI (dc_T g)) op cm (dc_HN g) (dc_HA g) (dc_BL g) (dc_KD g) (dc_SM g) (dc_AG g) (dc_TK g) d re nx nu ed se := by
  intro n
  induction n with
  | zero => intro t re nx h0 h1 h2; omega
  | succ n ih =>
    intro t re nx hst htk hn hre
    refine pk_le (r * 6 + k) (r * 6 + t) (fun h3 => ?_) (fun h3 => ?_)
    · have e : t = k := by omega
      subst e
      exact h re nx hre
    · have hb := hn2 t hst (by omega)
      refine dc_y_st hW hre (by omega) hb h0 h1 (fun re' nx' hre' => nm_r (nI_1 (r * 6 + t)) (ih (t + 1) re' nx' (by omega) (by omega) (by omega) (dc_is_c hre' ?_)))
      intro j _
      exact ⟨fun z => Or.inr ⟨hb, z⟩, fun z => z.elim (fun y => absurd y.1 hb) (fun y => y.2)⟩
/-- s begins an alternative of rule r -/
def dc_be (g : dc_G) (r s : Nat) : Prop := s = 0 ∨ ∃ t, s = t + 1 ∧ dc_kd g (r * 6 + t) = 2
theorem dc_be_pl {g : dc_G} {S : dc_Q} {r x0 x1 i s j : Nat} (h : dc_be g r s) : j = i ↔ dc_pl g S r x0 x1 i s j := by
  rcases h with rfl | ⟨t, rfl, h⟩
  · exact Iff.rfl
  · exact ⟨fun z => Or.inl ⟨h, z⟩, fun z => z.elim (fun y => y.2) (fun y => absurd h y.1)⟩
theorem dc_y_r3 (hW : dc_W g) {post : SY → Prop} {r x0 x1 i k s : Nat} (hr : r < 12) (h0 : x0 < 4) (h1 : x1 < 4) (hi : i < 9) (hk : k ≤ 6) (hs : s ≤ k) (hb : dc_be g r s) (hn2 : ∀ q, s ≤ q → q < k → dc_kd g (r * 6 + q) ≠ 2) (h : ∀ re' nx', dc_is re' 9 (dc_pl g (dc_SY d) r x0 x1 i k) → post (dc_y g rc tc op cm d re' nx' nu ed se)) : ∀ n j re, j ≤ 9 → 9 - j < n → (∀ q, q < j → re q = 0) → wY_spanReach_3 post (nI (r * 6 + s)) (nI (r * 6 + k)) (nI x0) (nI x1) (nI i) rc tc (nI (dc_R g)) (nI (dc_T g)) op cm n (nI j) (dc_HN g) (dc_HA g) (dc_BL g) (dc_KD g) (dc_SM g) (dc_AG g) (dc_TK g) d re nx nu ed se := by
  intro n
  induction n with
  | zero => intro p nx h1 h2; omega
  | succ n ih =>
    intro j re hj hn hz
    refine pk_le 9 j (fun h3 => ?_) (fun h3 => ?_)
    · have e : j = 9 := by omega
      subst e
      refine ⟨vp_in_nI hi (by omega), nm_r (e' := upd re i 1) (by rw [nI_clamp (by omega), dc_nb1]) ⟨k - s + 1, dc_y_r35 hW hr h0 h1 hk hn2 h _ s _ nx (Nat.le_refl s) hs (by omega) (dc_is_c (dc_is_u (dc_is_0 (P := fun _ => False) hz (fun _ _ z => z))) ?_)⟩⟩
      intro q _
      rw [false_or]
      exact dc_be_pl hb
    · exact ⟨vp_in_nI h3 (by omega), nm_r (e' := upd re j 0) (by rw [nI_clamp (by omega), dc_nb0]) (nm_r (nI_1 j) (ih (j + 1) _ (by omega) (by omega) (dc_z_s hz)))⟩
theorem dc_y_sr (hW : dc_W g) {post : SY → Prop} {r x0 x1 i k s : Nat} (hr : r < 12) (h0 : x0 < 4) (h1 : x1 < 4) (hi : i < 9) (hk : k ≤ 6) (hs : s ≤ k) (hb : dc_be g r s) (hn2 : ∀ q, s ≤ q → q < k → dc_kd g (r * 6 + q) ≠ 2) (h : ∀ re' nx', dc_is re' 9 (dc_pl g (dc_SY d) r x0 x1 i k) → post (dc_y g rc tc op cm d re' nx' nu ed se)) : wpY_spanReach post (dc_y g rc tc op cm d re nx nu ed se) (nI (r * 6 + s)) (nI (r * 6 + k)) (nI x0) (nI x1) (nI i) :=
  ⟨10, dc_y_r3 hW hr h0 h1 hi hk hs hb hn2 h 10 0 re (by omega) (by omega) (fun q hq => by omega)⟩
end
