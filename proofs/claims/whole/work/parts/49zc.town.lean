/-! ===== town, of both ===== -/
section BO
variable {g : am_G} {σ : aS}
theorem mdBo {g' : am_G} (h : m_fr sMd g g') : m_fr sBo g g' := h.mono fun c j q => Or.inr q
theorem L_town (d : Nat) (h : rBo g σ) {t : Nat} (ht : t < fN (aF σ)) (x : Int32) (hx : 0 ≤ x ∧ x < 10) : ∃ (g1 g2 : am_G) (v : Int32), am_call (d + 9) 102 [.inr (.inr (0, 0)), .inl (nI t), .inl x] g = some (some (.inl v), g1) ∧ am_call (d + 9) 199 [.inr (.inr (29, 0)), .inl (nI t), .inl x] g1 = some (some (.inl v), g2) ∧ g2 131 0 0 = 0 ∧ rBo g2 σ ∧ m_fr sBo g g2 := by
  obtain ⟨g1, a1, a2, a3⟩ := A_town d h.1 h.2.2 ht x hx
  obtain ⟨g2, b1, b2, b3, b4⟩ := P_town_t d (h.2.1.C a3) h.2.2 ht x hx
  exact ⟨g1, g2, _, a1, b1, b3, ⟨a2.M b4, b2, h.2.2⟩, (a3.mono fun c j q => Or.inl q).tr (mdBo b4)⟩
theorem L_town1 (d : Nat) (h : rBo g σ) {x : Int32} (hx : ¬ isT (fN (aF σ)) x) (y : Int32) : ∃ g2, am_call (d + 9) 199 [.inr (.inr (29, 0)), .inl x, .inl y] g = some (some (.inl 0), g2) ∧ g2 131 0 0 = 1 ∧ rBo g2 σ ∧ m_fr sBo g g2 := by
  obtain ⟨g2, b1, b2, b3, b4⟩ := P_town_1 d h.2.1 h.2.2 hx y
  exact ⟨g2, b1, b3, ⟨h.1.M b4, b2, h.2.2⟩, mdBo b4⟩
theorem L_town2 (d : Nat) (h : rBo g σ) {t : Nat} (ht : t < fN (aF σ)) {x : Int32} (hx : ¬ (0 ≤ x ∧ x < 10)) : ∃ g2, am_call (d + 9) 199 [.inr (.inr (29, 0)), .inl (nI t), .inl x] g = some (some (.inl 0), g2) ∧ g2 131 0 0 = 2 ∧ rBo g2 σ ∧ m_fr sBo g g2 := by
  obtain ⟨g2, b1, b2, b3, b4⟩ := P_town_2 d h.2.1 h.2.2 ht hx
  exact ⟨g2, b1, b3, ⟨h.1.M b4, b2, h.2.2⟩, mdBo b4⟩
/-- which of the three -/
theorem town_cs (h : rBo g σ) (x y : Int32) : (¬ isT (fN (aF σ)) x) ∨ (∃ t, t < fN (aF σ) ∧ x = nI t ∧ ¬ (0 ≤ y ∧ y < 10)) ∨ ∃ t, t < fN (aF σ) ∧ x = nI t ∧ 0 ≤ y ∧ y < 10 := by
  rcases tw_cs _ h.2.2.1.1 x with ⟨-, h2⟩ | ⟨t, h1, h2, -⟩
  · exact Or.inl h2
  · by_cases e : 0 ≤ y ∧ y < 10
    · exact Or.inr (Or.inr ⟨t, h1, h2, e⟩)
    · exact Or.inr (Or.inl ⟨t, h1, h2, e⟩)
end BO
