/-! ===== Names, Gamble's draws ===== -/
def b01 (b : Bool) : Int32 := if b then 1 else 0
def rN (g : am_G) (i : Nat) (L : List Int32) (s : Int32) (b : Bool) : Prop := L.length ≤ 24 ∧ g 104 i 0 = nI L.length ∧ (∀ (k : Nat) (x : Int32), L[k]? = some x → g 9 i k = x) ∧ g 105 i 0 = s ∧ g 106 i 0 = b01 b
def sN (i : Nat) : Nat → Nat → Prop := fun c j => j = i ∧ (c = 9 ∨ c = 104 ∨ c = 105 ∨ c = 106)
def n_find (L : List Int32) (x : Int32) : Option Nat := ff (fun t => decide (L[t]? = some x)) 0 L.length
theorem n_find_lt {L : List Int32} {x : Int32} {t : Nat} (h : n_find L x = some t) : t < L.length := by
  have := ff_lt h
  omega
theorem rN.fr {g g' : am_G} {i : Nat} {L : List Int32} {s : Int32} {b : Bool} {S : Nat → Nat → Prop} (h : rN g i L s b) (hf : m_fr S g g') (h1 : ∀ c, (c = 9 ∨ c = 104 ∨ c = 105 ∨ c = 106) → ¬ S c i) : rN g' i L s b := by
  obtain ⟨e0, e1, e2, e3, e4⟩ := h
  refine ⟨e0, ?_, ?_, ?_, ?_⟩
  · rw [hf 104 i (h1 104 (by omega))]; exact e1
  · rw [hf 9 i (h1 9 (by omega))]; exact e2
  · rw [hf 105 i (h1 105 (by omega))]; exact e3
  · rw [hf 106 i (h1 106 (by omega))]; exact e4
theorem am_01_b (b : Bool) : am_01 (b01 b) = true := by cases b <;> rfl
section NM
variable {g : am_G} {i j : Nat} {L : List Int32} {s : Int32} {b : Bool}
theorem N_clear (d : Nat) : ∃ g', am_call (d + 1) 41 [.inr (.inr (8, i))] g = some (none, g') ∧ rN g' i [] 0 false ∧ m_fr (sN i) g g' := by
  rw [cN_clear, eN_clear_0]
  refine ⟨_, rfl, ⟨by simp, ?_, fun k x hk => by simp at hk, ?_, m_put _ _ _ _ _⟩, ((m_fr.rf.put ⟨rfl, by omega⟩).put ⟨rfl, by omega⟩).put ⟨rfl, by omega⟩⟩
  · rw [m_put_ne (by simp), m_put_ne (by simp), m_put]; rfl
  · rw [m_put_ne (by simp), m_put]
theorem N_copyFrom (d : Nat) (h : rN g j L s b) (hij : i ≠ j) : ∃ g', am_call (d + 1) 42 [.inr (.inr (8, i)), .inr (.inr (8, j))] g = some (none, g') ∧ rN g' i L s b ∧ m_fr (sN i) g g' := by
  have hji : j ≠ i := fun e => hij e.symm
  obtain ⟨e0, e1, e2, e3, e4⟩ := h
  rw [cN_copyFrom, eN_copyFrom_0]
  simp only [m_put_ne (show ¬ ((106 : Nat) = 105 ∧ j = i) by simp), m_put_ne (show ¬ ((106 : Nat) = 104 ∧ j = i) by simp), m_set_ne (show ¬ ((106 : Nat) = 9 ∧ j = i) by simp), m_put_ne (show ¬ ((105 : Nat) = 104 ∧ j = i) by simp), m_set_ne (show ¬ ((105 : Nat) = 9 ∧ j = i) by simp), m_set_ne (show ¬ ((104 : Nat) = 9 ∧ j = i) by simp), e1, e3, e4, am_01_b, cond_true]
  refine ⟨_, rfl, ⟨e0, ?_, fun k x hk => ?_, ?_, m_put _ _ _ _ _⟩, (((m_fr.rf.set ⟨rfl, by omega⟩).put ⟨rfl, by omega⟩).put ⟨rfl, by omega⟩).put ⟨rfl, by omega⟩⟩
  · rw [m_put_ne (by simp), m_put_ne (by simp), m_put]
  · have hk2 := (List.getElem?_eq_some_iff.mp hk).1
    rw [m_put_ne (by simp), m_put_ne (by simp), m_put_ne (by simp), m_set, va_cpy24 _ _ (by omega)]
    exact e2 k x hk
  · rw [m_put_ne (by simp), m_put]
theorem N_add (d : Nat) (h : rN g i L s b) (hl : L.length < 24) (x : Int32) : ∃ g', am_call (d + 1) 43 [.inr (.inr (8, i)), .inl x] g = some (none, g') ∧ rN g' i (L ++ [x]) s b ∧ m_fr (sN i) g g' := by
  obtain ⟨e0, e1, e2, e3, e4⟩ := h
  rw [cN_add, eN_add_0, e1, if_neg (q_s24 hl), q_c24 (Nat.le_refl 24) hl, cond_true, nI_clamp (by omega), m_sto_ne (by simp), e1, nI_1]
  refine ⟨_, rfl, ⟨by rw [List.length_append, List.length_singleton]; omega, ?_, fun k y hk => ?_, ?_, ?_⟩, (m_fr.rf.sto ⟨rfl, by omega⟩).put ⟨rfl, by omega⟩⟩
  · rw [m_put, List.length_append, List.length_singleton]
  · rw [m_put_ne (by simp), m_sto]
    rw [List.getElem?_append] at hk
    by_cases hk2 : k < L.length
    · rw [if_pos hk2] at hk
      rw [if_neg (by omega)]
      exact e2 k y hk
    · rw [if_neg hk2] at hk
      have ek : k = L.length := by
        have := (List.getElem?_eq_some_iff.mp hk).1
        simp at this
        omega
      subst ek
      rw [Nat.sub_self] at hk
      cases hk
      rw [if_pos rfl]
  · rw [m_put_ne (by simp), m_sto_ne (by simp)]; exact e3
  · rw [m_put_ne (by simp), m_sto_ne (by simp)]; exact e4
theorem N_find (d : Nat) (h : rN g i L s b) (x : Int32) : am_call (d + 1) 44 [.inr (.inr (8, i)), .inl x] g = some (some (.inl (eC (n_find L x))), g) := by
  obtain ⟨e0, e1, e2, e3, e4⟩ := h
  rw [cN_find, eN_find_0]
  have := for_find (fun k t => am_run (am_call d) 44 k 2 [some (.inr (.inr (8, i))), some (.inl x), some (.inl (nI t))] [] g) L.length (fun t => decide (L[t]? = some x)) (fun t => some (some (.inl (nI t)), g)) (some (some (.inl (-1)), g)) (fun k t ht => by
    obtain ⟨y, hy⟩ : ∃ y, L[t]? = some y := ⟨_, List.getElem?_eq_getElem ht⟩
    rw [eN_find_2, e1, if_neg (nI_ge ht (by omega)), q_c24 e0 ht, cond_true, nI_clamp (q24 e0 ht), e2 t y hy, nI_1, hy]
    by_cases hyx : y = x
    · rw [if_pos hyx, if_pos (by rw [hyx]; simp)]
    · rw [if_neg hyx, if_neg (by simpa using hyx)]) (fun k => by
    rw [eN_find_2, e1, if_pos (nI_le (Nat.le_refl _) (by omega))]) L.length 0 99999 (by omega) (by omega)
  rw [show (0 : Int32) = nI 0 from rfl, this]
  unfold n_find
  cases ff (fun t => decide (L[t]? = some x)) 0 L.length with
  | none => rfl
  | some t => rfl
end NM
/-- the next number by chance -/
def dw (l : Nat) : Nat := (l * 1103515245 + 12345) % 2147483648
def dv (l n : Nat) : Nat := dw l / 65536 % n
theorem dw_lt (l : Nat) : dw l < 2 ^ 31 := Nat.mod_lt _ (by omega)
theorem dw_mod (z : Nat) : (nI z).toBitVec.toNat % 2 ^ 31 = z % 2147483648 := by
  have hz : (nI z).toBitVec.toNat = z % 2 ^ 32 := rfl
  rw [hz]
  omega
theorem dw_gen (l a b : Nat) : (nI l * nI a + nI b) &&& (2147483647 : Int32) = nI ((l * a + b) % 2147483648) := by
  rw [pk_mul, nI_add, pk_and _ 31 (by decide), dw_mod]
theorem dw_a : (1103515245 : Int32) = nI 1103515245 := rfl
theorem dw_b : (12345 : Int32) = nI 12345 := rfl
theorem dw_eq (l : Nat) : ((nI l * (1103515245 : Int32)) + (12345 : Int32)) &&& (2147483647 : Int32) = nI (dw l) := by
  rw [dw_a, dw_b, dw_gen, dw]
theorem B_draw {g : am_G} (d : Nat) {l n : Nat} (h : g 122 0 0 = nI l) (hn : 0 < n) (hn2 : n < 2 ^ 31) : am_call (d + 1) 36 [.inr (.inr (28, 0)), .inl (nI n)] g = some (some (.inl (nI (dv l n))), am_put g 122 0 (nI (dw l))) := by
  rw [cB_draw, eB_draw_0, h, dw_eq, if_neg (nI_nle hn hn2), if_neg (nI_ne0 hn hn2), m_put, pk_shrN (dw_lt l) _ 16 (by decide), pk_rem (by have := dw_lt l; omega) hn hn2]
  rfl
