/-! ===== fresh objects ===== -/
section BO
variable {g : am_G}
theorem new_A (h : ∀ c, c = 100 ∨ c = 101 ∨ c = 102 ∨ c = 103 ∨ c = 104 ∨ c = 105 ∨ c = 106 ∨ c = 108 ∨ c = 117 ∨ c = 118 ∨ c = 120 → g c 0 0 = 0) (h9 : g 109 0 0 = -1) : rA g a_new := by
  have e : ∀ (k : Nat) (x : Int32), ([] : List Int32)[k]? = some x → False := fun k x q => by simp at q
  have e2 : ∀ (k : Nat) (x : fF), ([] : List fF)[k]? = some x → False := fun k x q => by simp at q
  exact ⟨⟨h _ (by omega), fun k x q => (e k x q).elim⟩, ⟨h _ (by omega), h _ (by omega), fun t ht => absurd ht (Nat.not_lt_zero _)⟩, ⟨false, by decide, h _ (by omega), fun k x q => (e k x q).elim, h _ (by omega), h _ (by omega)⟩, ⟨by decide, 0, by omega, h _ (by omega), h _ (by omega), fun k x q => (e2 k x q).elim⟩, ⟨h _ (by omega), fun G hG => (by cases hG)⟩, ⟨h _ (by omega), fun l hl => (by cases hl)⟩, h _ (by omega), h9⟩
theorem new_M (h : ∀ c, c = 130 ∨ c = 132 ∨ c = 139 ∨ c = 140 ∨ c = 141 ∨ c = 142 ∨ c = 143 ∨ c = 148 → g c 0 0 = 0) (h3 : g 133 0 0 = -1) (h32 : g 32 0 120 = 0) (hw : ∀ (k : Nat) (x : Int32), kwl[k]? = some x → g 31 0 k = x) : rMo g a_new := by
  have e : ∀ (k : Nat) (x : Int32), ([] : List Int32)[k]? = some x → False := fun k x q => by simp at q
  have e2 : ∀ (k : Nat) (x : fF), ([] : List fF)[k]? = some x → False := fun k x q => by simp at q
  exact ⟨⟨h _ (by omega), fun k x q => (e k x q).elim⟩, ⟨⟨h32, fun t ht => absurd ht (Nat.not_lt_zero _)⟩, h _ (by omega), by omega, h _ (by omega)⟩, ⟨fun k x q => (e k x q).elim, h _ (by omega)⟩, ⟨h _ (by omega), fun k x q => (e2 k x q).elim⟩, ⟨h _ (by omega), fun G hG => (by cases hG)⟩, ⟨h _ (by omega), fun l hl => (by cases hl)⟩, ⟨h _ (by omega), h3⟩, hw⟩
end BO
