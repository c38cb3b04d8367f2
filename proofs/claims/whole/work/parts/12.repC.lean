/-! ===== a Forest object's memory ===== -/
def f_wf (F : fF) : Prop := fN F ≤ 24 ∧ f_ok (fN F) (fP F) ∧ (∀ t q, t < fN F → fQ F t = some q → q < fN F ∧ fP F q = some t) ∧ ∀ t, t < fN F → fP F t ≠ none → 1 ≤ fL F t ∧ fL F t ≤ 9999 ∧ fC F t ≤ 9999
def rC (g : am_G) (i : Nat) (F : fF) : Prop := g 102 i 0 = nI (fN F) ∧ g 103 i 0 = fS F ∧ ∀ t, t < fN F → g 2 i t = eC (fP F t) ∧ g 3 i t = eC (fQ F t) ∧ (fP F t ≠ none → g 4 i t = nI (fL F t) ∧ g 5 i t = nI (fC F t)) ∧ g 6 i t = fV F t
/-- a Forest object's cells -/
def sF (i : Nat) : Nat → Nat → Prop := fun c j => j = i ∧ (2 ≤ c ∧ c ≤ 7 ∨ c = 102 ∨ c = 103)
theorem f_wf.p {F : fF} (h : f_wf F) {t p : Nat} (ht : t < fN F) (hp : fP F t = some p) : p < fN F := h.2.1.1 t p ht hp
section RC
variable {g : am_G} {i : Nat} {F : fF}
theorem rC.p (h : rC g i F) {t : Nat} (ht : t < fN F) : g 2 i t = eC (fP F t) := (h.2.2 t ht).1
theorem rC.q (h : rC g i F) {t : Nat} (ht : t < fN F) : g 3 i t = eC (fQ F t) := (h.2.2 t ht).2.1
theorem rC.l (h : rC g i F) {t : Nat} (ht : t < fN F) (hp : fP F t ≠ none) : g 4 i t = nI (fL F t) := ((h.2.2 t ht).2.2.1 hp).1
theorem rC.c (h : rC g i F) {t : Nat} (ht : t < fN F) (hp : fP F t ≠ none) : g 5 i t = nI (fC F t) := ((h.2.2 t ht).2.2.1 hp).2
theorem rC.v (h : rC g i F) {t : Nat} (ht : t < fN F) : g 6 i t = fV F t := (h.2.2 t ht).2.2.2
theorem q24 {n t : Nat} (h : n ≤ 24) (ht : t < n) : t < 2 ^ 31 := by omega
theorem C_has (d : Nat) (h : rC g i F) (hw : f_wf F) (x : Int32) : am_call (d + 1) 3 [.inr (.inr (1, i)), .inl x] g = some (some (.inl (if 0 ≤ x ∧ x < nI (fN F) then 1 else 0)), g) := by
  show am_run (am_call d) 3 100000 0 [some (.inr (.inr (1, i))), some (.inl x)] [] g = _
  rw [eF_has_0, h.1]
  by_cases h1 : x < 0
  · have : ¬ 0 ≤ x := by rw [q_le]; rw [q_lt] at h1; omega
    simp only [if_pos h1, this, false_and, if_false]
  · have h0 : 0 ≤ x := by rw [q_le]; rw [q_lt] at h1; omega
    by_cases h2 : nI (fN F) ≤ x
    · have : ¬ x < nI (fN F) := by rw [q_lt]; rw [q_le] at h2; omega
      simp only [if_neg h1, if_pos h2, this, and_false, if_false]
    · have : x < nI (fN F) := by rw [q_lt]; rw [q_le] at h2; omega
      simp only [if_neg h1, if_neg h2, h0, this, and_self, if_true]
theorem C_has_t (d : Nat) (h : rC g i F) (hw : f_wf F) {t : Nat} (ht : t < fN F) : am_call (d + 1) 3 [.inr (.inr (1, i)), .inl (nI t)] g = some (some (.inl 1), g) := by
  rw [C_has d h hw, if_pos]
  exact ⟨nI_pos' (q24 hw.1 ht), nI_lt ht (by have := hw.1; omega)⟩
theorem C_has_f (d : Nat) (h : rC g i F) (hw : f_wf F) {x : Int32} (hx : ¬ (0 ≤ x ∧ x < nI (fN F))) : am_call (d + 1) 3 [.inr (.inr (1, i)), .inl x] g = some (some (.inl 0), g) := by
  rw [C_has d h hw, if_neg hx]
theorem C_rootOf_loop (ct : am_T) (h : rC g i F) (hw : f_wf F) (x1 : Int32) : ∀ (k t step : Nat), t < fN F → step + (f_a (fP F) t).length ≤ 24 → (f_a (fP F) t).length ≤ k →
    am_run ct 11 k 4 [some (.inr (.inr (1, i))), some (.inl x1), some (.inl (nI t)), some (.inl (nI step))] [] g = some (some (.inl (nI (f_r (fP F) t))), g)
  | 0, t, step, ht, h1, h2 => by have := f_a_pos (fP F) t; omega
  | k + 1, t, step, ht, h1, h2 => by
    have hl := f_a_pos (fP F) t
    have h31 := q24 hw.1 ht
    rw [eF_rootOf_4]
    have hs : ¬ (24 : Int32) ≤ nI step := nI_ge (by omega) (by omega)
    have hin := q_in (n := 24) (Nat.lt_of_lt_of_le ht hw.1) (by omega)
    rw [if_neg hs, hin, nI_clamp h31, h.p ht]
    cases hp : fP F t with
    | none => rw [f_r_none hw.2.1 hw.1 ht hp]; rfl
    | some p =>
      have hpn := hw.p ht hp
      have hne : ¬ eC (some p) = -1 := q_ne1 (q24 hw.1 hpn)
      rw [f_a_some hw.2.1 hw.1 ht hp, List.length_cons] at h1 h2
      show (if eC (some p) = -1 then _ else _) = _
      rw [if_neg hne, f_r_some hw.2.1 hw.1 ht hp]
      show am_run ct 11 k 4 [_, _, some (.inl (nI p)), some (.inl (nI step + 1))] [] g = _
      rw [nI_1]
      exact C_rootOf_loop ct h hw x1 k p (step + 1) hpn (by omega) (by omega)
theorem C_rootOf (d : Nat) (h : rC g i F) (hw : f_wf F) {t : Nat} (ht : t < fN F) : am_call (d + 1) 11 [.inr (.inr (1, i)), .inl (nI t)] g = some (some (.inl (nI (f_r (fP F) t))), g) := by
  show am_run (am_call d) 11 100000 0 [some (.inr (.inr (1, i))), some (.inl (nI t)), none, none] [] g = _
  rw [eF_rootOf_0]
  have := f_a_len hw.2.1 ht
  exact C_rootOf_loop _ h hw _ 99999 t 0 ht (by have := hw.1; omega) (by have := hw.1; omega)
end RC
