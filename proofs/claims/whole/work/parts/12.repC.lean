/-! ===== a Forest object's memory ===== -/
def f_wf (F : fF) : Prop := fN F ≤ 24 ∧ f_ok (fN F) (fP F) ∧ (∀ t q, t < fN F → fQ F t = some q → q < fN F ∧ fP F q = some t) ∧ ∀ t, t < fN F → fP F t ≠ none → 1 ≤ fL F t ∧ fL F t ≤ 9999 ∧ fC F t ≤ 9999
def rC (g : am_G) (i : Nat) (F : fF) : Prop := g 102 i 0 = nI (fN F) ∧ g 103 i 0 = fS F ∧ ∀ t, t < fN F → g 2 i t = eC (fP F t) ∧ g 3 i t = eC (fQ F t) ∧ (fP F t ≠ none → g 4 i t = nI (fL F t) ∧ g 5 i t = nI (fC F t)) ∧ g 6 i t = fV F t
/-- a Forest object's cells -/
def sF (i : Nat) : Nat → Nat → Prop := fun c j => j = i ∧ (2 ≤ c ∧ c ≤ 7 ∨ c = 102 ∨ c = 103)
theorem f_wf.p {F : fF} (h : f_wf F) {t p : Nat} (ht : t < fN F) (hp : fP F t = some p) : p < fN F := h.2.1.1 t p ht hp
theorem f_wf.p31 {F : fF} (h : f_wf F) {t : Nat} (ht : t < fN F) : ∀ p, fP F t = some p → p < 2 ^ 31 := fun p hp => q24 h.1 (h.p ht hp)
theorem f_wf.q31 {F : fF} (h : f_wf F) {t : Nat} (ht : t < fN F) : ∀ p, fQ F t = some p → p < 2 ^ 31 := fun p hp => q24 h.1 (h.2.2.1 t p ht hp).1
theorem f_wf.an {F : fF} (h : f_wf F) {t : Nat} (ht : t < fN F) (hp : fP F t = none) : f_a (fP F) t = [t] := f_a_none h.2.1 h.1 ht hp
theorem f_wf.as {F : fF} (h : f_wf F) {t p : Nat} (ht : t < fN F) (hp : fP F t = some p) : f_a (fP F) t = t :: f_a (fP F) p := f_a_some h.2.1 h.1 ht hp
theorem f_wf.al {F : fF} (h : f_wf F) {t : Nat} (ht : t < fN F) : (f_a (fP F) t).length ≤ 24 := Nat.le_trans (f_a_len h.2.1 ht) h.1
section RC
variable {g : am_G} {i : Nat} {F : fF}
theorem rC.p (h : rC g i F) {t : Nat} (ht : t < fN F) : g 2 i t = eC (fP F t) := (h.2.2 t ht).1
theorem rC.q (h : rC g i F) {t : Nat} (ht : t < fN F) : g 3 i t = eC (fQ F t) := (h.2.2 t ht).2.1
theorem rC.l (h : rC g i F) {t : Nat} (ht : t < fN F) (hp : fP F t ≠ none) : g 4 i t = nI (fL F t) := ((h.2.2 t ht).2.2.1 hp).1
theorem rC.c (h : rC g i F) {t : Nat} (ht : t < fN F) (hp : fP F t ≠ none) : g 5 i t = nI (fC F t) := ((h.2.2 t ht).2.2.1 hp).2
theorem rC.v (h : rC g i F) {t : Nat} (ht : t < fN F) : g 6 i t = fV F t := (h.2.2 t ht).2.2.2
/-- a town: what has() asks -/
def isT (n : Nat) (x : Int32) : Prop := 0 ≤ x ∧ x < nI n
theorem isT_nI {n t : Nat} (hn : n ≤ 24) (ht : t < n) : isT n (nI t) := ⟨nI_pos' (q24 hn ht), nI_lt ht (by omega)⟩
theorem isT_of {n : Nat} {x : Int32} (hn : n ≤ 24) (h : isT n x) : ∃ t, t < n ∧ x = nI t := (q_town x (by omega)).resolve_left (fun q => q h)
theorem C_has (d : Nat) (h : rC g i F) (x : Int32) [Decidable (isT (fN F) x)] : am_call (d + 1) 3 [.inr (.inr (1, i)), .inl x] g = some (some (.inl (if isT (fN F) x then 1 else 0)), g) := by
  rw [cF_has, eF_has_0, h.1]
  by_cases h1 : x < 0
  · have : ¬ isT (fN F) x := fun q => by have := q.1; rw [q_le] at this; rw [q_lt] at h1; omega
    rw [if_pos h1, if_neg this]
  · have h0 : 0 ≤ x := by rw [q_le]; rw [q_lt] at h1; omega
    by_cases h2 : nI (fN F) ≤ x
    · have : ¬ isT (fN F) x := fun q => by have := q.2; rw [q_lt] at this; rw [q_le] at h2; omega
      rw [if_neg h1, if_pos h2, if_neg this]
    · have : x < nI (fN F) := by rw [q_lt]; rw [q_le] at h2; omega
      rw [if_neg h1, if_neg h2, if_pos ⟨h0, this⟩]
theorem C_has_t (d : Nat) (h : rC g i F) (hw : f_wf F) {t : Nat} (ht : t < fN F) : am_call (d + 1) 3 [.inr (.inr (1, i)), .inl (nI t)] g = some (some (.inl 1), g) := by
  haveI := Classical.propDecidable (isT (fN F) (nI t))
  rw [C_has d h, if_pos (isT_nI hw.1 ht)]
theorem C_has_f (d : Nat) (h : rC g i F) {x : Int32} (hx : ¬ isT (fN F) x) : am_call (d + 1) 3 [.inr (.inr (1, i)), .inl x] g = some (some (.inl 0), g) := by
  haveI := Classical.propDecidable (isT (fN F) x)
  rw [C_has d h, if_neg hx]
theorem C_hasBoth_t (d : Nat) (h : rC g i F) (hw : f_wf F) {a b : Nat} (ha : a < fN F) (hb : b < fN F) : am_call (d + 2) 4 [.inr (.inr (1, i)), .inl (nI a), .inl (nI b)] g = some (some (.inl 1), g) := by
  rw [cF_hasBoth, eF_hasBoth_0, C_has_t d h hw ha, bi_some, if_neg (by decide), C_has_t d h hw hb, bi_some, if_neg (by decide)]
theorem C_hasBoth_f (d : Nat) (h : rC g i F) (hw : f_wf F) {x y : Int32} (hx : ¬ (isT (fN F) x ∧ isT (fN F) y)) : am_call (d + 2) 4 [.inr (.inr (1, i)), .inl x, .inl y] g = some (some (.inl 0), g) := by
  rw [cF_hasBoth, eF_hasBoth_0]
  by_cases h1 : isT (fN F) x
  · have h2 : ¬ isT (fN F) y := fun q => hx ⟨h1, q⟩
    obtain ⟨t, ht, rfl⟩ := isT_of hw.1 h1
    rw [C_has_t d h hw ht, bi_some, if_neg (by decide), C_has_f d h h2, bi_some, if_pos rfl]
  · rw [C_has_f d h h1, bi_some, if_pos rfl]
theorem C_rootOf_loop (ct : am_T) (h : rC g i F) (hw : f_wf F) (x1 : Int32) : ∀ (k t step : Nat), t < fN F → step + (f_a (fP F) t).length ≤ 24 → (f_a (fP F) t).length ≤ k →
    am_run ct 11 k 4 [some (.inr (.inr (1, i))), some (.inl x1), some (.inl (nI t)), some (.inl (nI step))] [] g = some (some (.inl (nI (f_r (fP F) t))), g)
  | 0, t, step, ht, h1, h2 => by have := f_a_pos (fP F) t; omega
  | k + 1, t, step, ht, h1, h2 => by
    have hl := f_a_pos (fP F) t
    rw [eF_rootOf_4, if_neg (q_s24 (by omega)), q_c24 hw.1 ht, nI_clamp (q24 hw.1 ht), h.p ht]
    cases hp : fP F t with
    | none => rw [f_r_none hw.2.1 hw.1 ht hp]; rfl
    | some p =>
      have hpn := hw.p ht hp
      rw [hw.as ht hp, List.length_cons] at h1 h2
      rw [cond_true, eC_some, if_neg (q_ne1 (q24 hw.1 hpn)), cond_true, f_r_some hw.2.1 hw.1 ht hp]
      rw [nI_1]
      exact C_rootOf_loop ct h hw x1 k p (step + 1) hpn (by omega) (by omega)
theorem C_rootOf (d : Nat) (h : rC g i F) (hw : f_wf F) {t : Nat} (ht : t < fN F) : am_call (d + 1) 11 [.inr (.inr (1, i)), .inl (nI t)] g = some (some (.inl (nI (f_r (fP F) t))), g) := by
  rw [cF_rootOf, eF_rootOf_0]
  have := hw.al ht
  exact C_rootOf_loop _ h hw _ 99999 t 0 ht (by omega) (by omega)
theorem C_depthOf_loop (ct : am_T) (h : rC g i F) (hw : f_wf F) (x1 : Int32) : ∀ (k t step dp : Nat), t < fN F → step + (f_a (fP F) t).length ≤ 24 → (f_a (fP F) t).length ≤ k →
    am_run ct 12 k 6 [some (.inr (.inr (1, i))), some (.inl x1), some (.inl (nI t)), some (.inl (nI dp)), some (.inl (nI step))] [] g = some (some (.inl (nI (dp + ((f_a (fP F) t).length - 1)))), g)
  | 0, t, step, dp, ht, h1, h2 => by have := f_a_pos (fP F) t; omega
  | k + 1, t, step, dp, ht, h1, h2 => by
    have hl := f_a_pos (fP F) t
    rw [eF_depthOf_6, if_neg (q_s24 (by omega)), q_c24 hw.1 ht, nI_clamp (q24 hw.1 ht), h.p ht]
    cases hp : fP F t with
    | none => rw [hw.an ht hp]; rfl
    | some p =>
      have hpn := hw.p ht hp
      have hl2 := f_a_pos (fP F) p
      rw [hw.as ht hp, List.length_cons] at h1 h2 ⊢
      rw [cond_true, eC_some, if_neg (q_ne1 (q24 hw.1 hpn)), cond_true]
      rw [nI_1, nI_1, C_depthOf_loop ct h hw x1 k p (step + 1) (dp + 1) hpn (by omega) (by omega)]
      rw [show dp + 1 + ((f_a (fP F) p).length - 1) = dp + ((f_a (fP F) p).length + 1 - 1) by omega]
/-- the depth -/
def f_d (par : Nat → Option Nat) (t : Nat) : Nat := (f_a par t).length - 1
theorem C_depthOf (d : Nat) (h : rC g i F) (hw : f_wf F) {t : Nat} (ht : t < fN F) : am_call (d + 1) 12 [.inr (.inr (1, i)), .inl (nI t)] g = some (some (.inl (nI (f_d (fP F) t))), g) := by
  rw [cF_depthOf, eF_depthOf_0]
  have := hw.al ht
  have e := C_depthOf_loop (am_call d) h hw (nI t) 99999 t 0 0 ht (by omega) (by omega)
  rw [Nat.zero_add] at e
  exact e
/-- the k-th above, at most the root -/
def f_cl (par : Nat → Option Nat) : Nat → Nat → Nat
  | 0, t => t
  | k + 1, t => match par t with
    | none => t
    | some p => f_cl par k p
theorem C_climb_loop (ct : am_T) (h : rC g i F) (hw : f_wf F) (x1 : Int32) {K : Nat} (hK : K < 2 ^ 31) : ∀ (k t step : Nat), t < fN F → step + (f_a (fP F) t).length ≤ 24 → (f_a (fP F) t).length ≤ k →
    am_run ct 13 k 4 [some (.inr (.inr (1, i))), some (.inl x1), some (.inl (nI K)), some (.inl (nI t)), some (.inl (nI step))] [] g = some (some (.inl (nI (f_cl (fP F) (K - step) t))), g)
  | 0, t, step, ht, h1, h2 => by have := f_a_pos (fP F) t; omega
  | k + 1, t, step, ht, h1, h2 => by
    have hl := f_a_pos (fP F) t
    rw [eF_climb_4, if_neg (q_s24 (by omega))]
    by_cases hk : K ≤ step
    · rw [if_pos (nI_le hk (by omega)), show K - step = 0 by omega]
      rfl
    · rw [if_neg (nI_ge (by omega) hK), q_c24 hw.1 ht, nI_clamp (q24 hw.1 ht), h.p ht, show K - step = (K - (step + 1)) + 1 by omega, f_cl]
      cases hp : fP F t with
      | none => rfl
      | some p =>
        have hpn := hw.p ht hp
        rw [hw.as ht hp, List.length_cons] at h1 h2
        rw [cond_true, eC_some, if_neg (q_ne1 (q24 hw.1 hpn)), cond_true]
        rw [nI_1]
        exact C_climb_loop ct h hw x1 hK k p (step + 1) hpn (by omega) (by omega)
theorem C_climb (d : Nat) (h : rC g i F) (hw : f_wf F) {t K : Nat} (ht : t < fN F) (hK : K < 2 ^ 31) : am_call (d + 1) 13 [.inr (.inr (1, i)), .inl (nI t), .inl (nI K)] g = some (some (.inl (nI (f_cl (fP F) K t))), g) := by
  rw [cF_climb, eF_climb_0]
  have := hw.al ht
  exact C_climb_loop _ h hw _ hK 99999 t 0 ht (by omega) (by omega)
theorem C_climb_neg (d : Nat) (h : rC g i F) (hw : f_wf F) {t : Nat} {x : Int32} (ht : t < fN F) (hx : x ≤ 0) : am_call (d + 1) 13 [.inr (.inr (1, i)), .inl (nI t), .inl x] g = some (some (.inl (nI t)), g) := by
  rw [cF_climb, eF_climb_0, eF_climb_4, if_neg (by decide), if_pos hx]
theorem C_isOver_loop (ct : am_T) (h : rC g i F) (hw : f_wf F) (x2 : Int32) {T : Nat} (hT : T < 2 ^ 31) : ∀ (k t step : Nat), t < fN F → step + (f_a (fP F) t).length ≤ 24 → (f_a (fP F) t).length < k →
    am_run ct 14 k 4 [some (.inr (.inr (1, i))), some (.inl (nI T)), some (.inl x2), some (.inl (nI t)), some (.inl (nI step))] [] g = some (some (.inl (if T ∈ f_a (fP F) t then 1 else 0)), g)
  | 0, t, step, ht, h1, h2 => by have := f_a_pos (fP F) t; omega
  | k + 1, t, step, ht, h1, h2 => by
    have hl := f_a_pos (fP F) t
    have h31 := q24 hw.1 ht
    rw [eF_isOver_4, if_neg (q_s24 (by omega)), if_neg (q_ne1 h31)]
    by_cases e : t = T
    · subst e
      rw [if_pos rfl, if_pos (f_a_self _ _)]
    · rw [if_neg (by rw [nI_eq h31 hT]; exact e), q_c24 hw.1 ht, nI_clamp h31, h.p ht]
      have e2 : ¬ T = t := fun q => e q.symm
      cases hp : fP F t with
      | none =>
        rw [hw.an ht hp] at h1 h2 ⊢
        simp only [List.length_cons, List.length_nil] at h1 h2
        obtain ⟨k, rfl⟩ : ∃ k', k = k' + 1 := ⟨k - 1, by omega⟩
        simp only [List.mem_singleton, if_neg e2]
        rw [cond_true, eC_none, eF_isOver_4]
        by_cases h5 : (24 : Int32) ≤ nI step + 1
        · rw [if_pos h5]
        · rw [if_neg h5, if_pos rfl]
      | some p =>
        have hpn := hw.p ht hp
        rw [hw.as ht hp] at h1 h2 ⊢
        rw [List.length_cons] at h1 h2
        simp only [List.mem_cons, e2, false_or]
        rw [cond_true, eC_some, nI_1]
        exact C_isOver_loop ct h hw x2 hT k p (step + 1) hpn (by omega) (by omega)
theorem C_isOver (d : Nat) (h : rC g i F) (hw : f_wf F) {t T : Nat} (ht : t < fN F) (hT : T < 2 ^ 31) : am_call (d + 1) 14 [.inr (.inr (1, i)), .inl (nI T), .inl (nI t)] g = some (some (.inl (if T ∈ f_a (fP F) t then 1 else 0)), g) := by
  rw [cF_isOver, eF_isOver_0]
  have := hw.al ht
  exact C_isOver_loop _ h hw _ hT 99999 t 0 ht (by omega) (by omega)
theorem C_hangTogether (d : Nat) (h : rC g i F) (hw : f_wf F) {a b : Nat} (ha : a < fN F) (hb : b < fN F) : am_call (d + 2) 15 [.inr (.inr (1, i)), .inl (nI a), .inl (nI b)] g = some (some (.inl (if f_r (fP F) a = f_r (fP F) b then 1 else 0)), g) := by
  have h1 := q24 hw.1 (f_r_lt hw.2.1 hw.1 a ha).1
  have h2 := q24 hw.1 (f_r_lt hw.2.1 hw.1 b hb).1
  rw [cF_hangTogether, eF_hangTogether_0, C_rootOf d h hw ha, bi_some, C_rootOf d h hw hb, bi_some]
  by_cases e : f_r (fP F) a = f_r (fP F) b
  · rw [if_pos (by rw [e]), if_pos e]
  · rw [if_neg (by rw [nI_eq h1 h2]; exact e), if_neg e]
/-- the lower end of the link between two towns -/
def f_lo (par : Nat → Option Nat) (a b : Nat) : Option Nat := if par a = some b then some a else if par b = some a then some b else none
theorem C_lowerOf (d : Nat) (h : rC g i F) (hw : f_wf F) {a b : Nat} (ha : a < fN F) (hb : b < fN F) : am_call (d + 1) 17 [.inr (.inr (1, i)), .inl (nI a), .inl (nI b)] g = some (some (.inl (eC (f_lo (fP F) a b))), g) := by
  rw [cF_lowerOf, eF_lowerOf_0, q_c24 hw.1 ha, q_c24 hw.1 hb, nI_clamp (q24 hw.1 ha), nI_clamp (q24 hw.1 hb), h.p ha, h.p hb]
  simp only [cond_true, eC_inj (hw.p31 ha) (q24 hw.1 hb), eC_inj (hw.p31 hb) (q24 hw.1 ha)]
  unfold f_lo
  by_cases h1 : fP F a = some b
  · rw [if_pos h1, if_pos h1]; rfl
  · rw [if_neg h1, if_neg h1]
    by_cases h2 : fP F b = some a
    · rw [if_pos h2, if_pos h2]; rfl
    · rw [if_neg h2, if_neg h2]; rfl
end RC
