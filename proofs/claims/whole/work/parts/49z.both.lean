/-! ===== class and model side by side ===== -/
def rBo (g : am_G) (σ : aS) : Prop := rA g σ ∧ rMo g σ ∧ a_ok σ
def sBo : Nat → Nat → Prop := fun c j => sCm c j ∨ sMd c j
def a_new : aS := ([], tS0.1, ([], 0), [], none, none, (0, -1))
theorem ok_new : a_ok a_new := ⟨tS0_ok.1, rfl, fun G hG => (by cases hG), fun G hG => (by cases hG), ⟨0, by omega, rfl⟩, Nat.zero_le _, Nat.zero_le _, fun l hl => (by cases hl)⟩
section BO
variable {g : am_G} {σ : aS}
theorem rA.M {g' : am_G} (h : rA g σ) (hf : m_fr sMd g g') : rA g' σ := h.fr hf fun c j hp q => by
  unfold fp fc at hp
  unfold sMd at q
  omega
theorem rMo.C {g' : am_G} (h : rMo g σ) (hf : m_fr sCm g g') : rMo g' σ := by
  obtain ⟨⟨a1, a2⟩, ⟨⟨b1, b2⟩, b3, b4, b5⟩, ⟨c1, c2⟩, ⟨d1, d2⟩, ⟨e1, e2⟩, ⟨f1, f2⟩, ⟨h1, h2⟩, i1⟩ := h
  have z : ∀ c, (29 ≤ c ∧ c ≤ 35) ∨ (130 ≤ c ∧ c ≤ 149) → g' c 0 = g c 0 := fun c hc => hf c 0 (fun q => by unfold sCm at q; omega)
  have hk : ∀ (b : Nat) (F : fF), rMk g b F → rMk g' b F := fun b F q => ⟨by rw [z 32 (by omega)]; exact q.1, fun t ht => by rw [z 32 (by omega)]; exact q.2 t ht⟩
  exact ⟨⟨by rw [z _ (by omega)]; exact a1, fun k x hk => by rw [z _ (by omega)]; exact a2 k x hk⟩, ⟨hk _ _ ⟨b1, b2⟩, by rw [z _ (by omega)]; exact b3, b4, by rw [z _ (by omega)]; exact b5⟩, ⟨fun k x hk => by rw [z _ (by omega)]; exact c1 k x hk, by rw [z _ (by omega)]; exact c2⟩, ⟨by rw [z _ (by omega)]; exact d1, fun j G hj => hk _ _ (d2 j G hj)⟩, ⟨by rw [z _ (by omega)]; exact e1, fun G hG => hk _ _ (e2 G hG)⟩, ⟨by rw [z _ (by omega)]; exact f1, fun l hl k x hx => by rw [z _ (by omega)]; exact f2 l hl k x hx⟩, ⟨by rw [z _ (by omega)]; exact h1, by rw [z _ (by omega)]; exact h2⟩, fun k x hk => by rw [z _ (by omega)]; exact i1 k x hk⟩
/-- a call of both, the class first -/
theorem both_CM {r : Int32 × aS} {oC oM : am_G → Option am_R} (h : rBo g σ) (hk : a_ok r.2) (hC : SimC (oC g) g r) (hM : ∀ g', rMo g' σ → SimM (oM g') g' r) : ∃ g1 g2, oC g = some (some (.inl r.1), g1) ∧ oM g1 = some (some (.inl r.1), g2) ∧ rBo g2 r.2 ∧ m_fr sBo g g2 := by
  obtain ⟨g1, a1, a2, a3⟩ := hC
  obtain ⟨g2, b1, b2, b3⟩ := hM g1 (h.2.1.C a3)
  exact ⟨g1, g2, a1, b1, ⟨a2.M b3, b2, hk⟩, (a3.mono fun c j q => Or.inl q).tr (b3.mono fun c j q => Or.inr q)⟩
/-- a call of both, the model first -/
theorem both_MC {r : Int32 × aS} {oC oM : am_G → Option am_R} (h : rBo g σ) (hk : a_ok r.2) (hM : SimM (oM g) g r) (hC : ∀ g', rA g' σ → SimC (oC g') g' r) : ∃ g1 g2, oM g = some (some (.inl r.1), g1) ∧ oC g1 = some (some (.inl r.1), g2) ∧ rBo g2 r.2 ∧ m_fr sBo g g2 := by
  obtain ⟨g1, a1, a2, a3⟩ := hM
  obtain ⟨g2, b1, b2, b3⟩ := hC g1 (h.1.M a3)
  exact ⟨g1, g2, a1, b1, ⟨b2, a2.C b3, hk⟩, (a3.mono fun c j q => Or.inr q).tr (b3.mono fun c j q => Or.inl q)⟩
end BO
