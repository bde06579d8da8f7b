theorem dc_Nstep {g : dc_G} (hW : dc_W g) {A B : Nat → Prop} (hAB : ∀ m, A m → B m) (hB : ∀ m, B m → dc_N g m) (hph : ∀ r, r < dc_R g → dc_nr g A r → B (dc_hn g r)) {t : Nat} (h : dc_NC g A ∨ t ≤ dc_ct A 6) : dc_NC g B ∨ t + 1 ≤ dc_ct B 6 := by
  have key : (∀ m, B m → A m) → dc_NC g B := fun hBA r hr hn => hph r hr (dc_nr_mono hBA hn)
  rcases h with h | h
  · exact Or.inl (key fun m z => hB m z A h)
  · by_cases hBA : ∀ m, B m → A m
    · exact Or.inl (key hBA)
    · obtain ⟨m, hm⟩ := Classical.not_forall.mp hBA
      obtain ⟨h1, h2⟩ := Classical.not_imp.mp hm
      have h3 := dc_ct_lt (n := 6) (fun k _ => hAB k) (dc_N_in hW (hB m h1)) h1 h2
      exact Or.inr (by omega)
theorem dc_Nend {g : dc_G} (hW : dc_W g) {A : Nat → Prop} (hA : ∀ m, A m → dc_N g m) (h : dc_NC g A ∨ 6 ≤ dc_ct A 6) (m : Nat) : A m ↔ dc_N g m := by
  refine ⟨hA m, fun z => ?_⟩
  rcases h with h | h
  · exact z A h
  · exact dc_ct_full h m (dc_N_in hW z)
theorem dc_Lstep {g : dc_G} (hW : dc_W g) {m : Nat} {A B : Nat → Prop} (hAB : ∀ b, A b → B b) (hB : ∀ b, B b → dc_L g m b) (h0 : ∀ b, dc_E g m b → A b) (hph : ∀ a b, A a → dc_E g a b → B b) {t : Nat} (h : dc_LC g m A ∨ t ≤ dc_ct A 6) : dc_LC g m B ∨ t + 1 ≤ dc_ct B 6 := by
  have key : (∀ b, B b → A b) → dc_LC g m B := by
    intro hBA b hb
    rcases hb with hb | ⟨a, ha, hb⟩
    · exact hAB b (h0 b hb)
    · exact hph a b (hBA a ha) hb
  rcases h with h | h
  · exact Or.inl (key fun b z => hB b z A h)
  · by_cases hBA : ∀ b, B b → A b
    · exact Or.inl (key hBA)
    · obtain ⟨b, hb⟩ := Classical.not_forall.mp hBA
      obtain ⟨h1, h2⟩ := Classical.not_imp.mp hb
      have h3 := dc_ct_lt (n := 6) (fun k _ => hAB k) (dc_L_in hW (hB b h1)) h1 h2
      exact Or.inr (by omega)
theorem dc_Lend {g : dc_G} (hW : dc_W g) {m : Nat} {A : Nat → Prop} (hA : ∀ b, A b → dc_L g m b) (h : dc_LC g m A ∨ 6 ≤ dc_ct A 6) (b : Nat) : A b ↔ dc_L g m b := by
  refine ⟨hA b, fun z => ?_⟩
  rcases h with h | h
  · exact z A h
  · exact dc_ct_full h b (dc_L_in hW z)
/-- the first step of X: what one edge reaches is closed, or not empty -/
theorem dc_Lbeg {g : dc_G} {m : Nat} {A : Nat → Prop} (hA : ∀ b, A b ↔ dc_E g m b) (h6 : ∀ b, A b → b < 6) : dc_LC g m A ∨ 1 ≤ dc_ct A 6 := by
  by_cases h : ∃ b, A b
  · obtain ⟨b, hb⟩ := h
    exact Or.inr (dc_ct_one (h6 b hb) hb)
  · refine Or.inl fun b hb => ?_
    rcases hb with hb | ⟨a, ha, _⟩
    · exact (hA b).mpr hb
    · exact absurd ⟨a, ha⟩ h
theorem dc_L_E {g : dc_G} {m b : Nat} (h : dc_E g m b) : dc_L g m b := dc_L_cl g m b (Or.inl h)
theorem dc_L_s {g : dc_G} {m a b : Nat} (h : dc_L g m a) (h' : dc_E g a b) : dc_L g m b := dc_L_cl g m b (Or.inr ⟨a, h, h'⟩)
