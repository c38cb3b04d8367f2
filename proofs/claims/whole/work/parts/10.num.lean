/-! ===== numbers, memory ===== -/
theorem q_n0 : (0 : Int32) = nI 0 := rfl
theorem q_n1 : (1 : Int32) = nI 1 := rfl
theorem q_n2 : (2 : Int32) = nI 2 := rfl
theorem q_n3 : (3 : Int32) = nI 3 := rfl
theorem q_n24 : (24 : Int32) = nI 24 := rfl
theorem q_toInt {k : Nat} (h : k < 2 ^ 31) : (nI k).toInt = (k : Int) := nI_toInt h
theorem q_m1 : (-1 : Int32).toInt = -1 := by decide
theorem q_m2 : (-2 : Int32).toInt = -2 := by decide
theorem q_m3 : (-3 : Int32).toInt = -3 := by decide
theorem q_lt (a b : Int32) : a < b ↔ a.toInt < b.toInt := Int32.lt_iff_toInt_lt
theorem q_le (a b : Int32) : a ≤ b ↔ a.toInt ≤ b.toInt := Int32.le_iff_toInt_le
theorem q_eq (a b : Int32) : a = b ↔ a.toInt = b.toInt := Int32.toInt_inj.symm
theorem q_ne1 {k : Nat} (h : k < 2 ^ 31) : ¬ nI k = -1 := by
  rw [q_eq, nI_toInt h, q_m1]; omega
theorem q_ne2 {k : Nat} (h : k < 2 ^ 31) : ¬ nI k = -2 := by
  rw [q_eq, nI_toInt h, q_m2]; omega
theorem q_nn {k : Nat} (h : k < 2 ^ 31) : ¬ nI k < 0 := nI_pos h
theorem q_0le {k : Nat} (h : k < 2 ^ 31) : 0 ≤ nI k := nI_pos' h
theorem q_inj {a b : Nat} (ha : a < 2 ^ 31) (hb : b < 2 ^ 31) : nI a = nI b ↔ a = b := nI_eq ha hb
theorem q_in {k n : Nat} (h : k < n) (hn : n < 2 ^ 31) : am_in (nI k) n = true := by
  unfold am_in
  rw [nI_toInt (by omega)]
  simp
  omega
theorem q_in_of {x : Int32} {n : Nat} (h : am_in x n = true) (hn : n < 2 ^ 31) : ∃ k, k < n ∧ x = nI k := vp_in_of (by
  unfold am_in at h
  rw [Bool.and_eq_true] at h
  exact vp_in_iff.mpr ⟨of_decide_eq_true h.1, of_decide_eq_true h.2⟩) hn
/-- an int that is a town, or not -/
theorem q_town (x : Int32) {n : Nat} (hn : n < 2 ^ 31) : (¬ (0 ≤ x ∧ x < nI n)) ∨ ∃ k, k < n ∧ x = nI k := by
  by_cases h : 0 ≤ x ∧ x < nI n
  · right
    obtain ⟨j, h1, h2⟩ := nI_of (x := x) (by rw [q_lt]; have := (q_le 0 x).mp h.1; omega)
    refine ⟨j, ?_, h2⟩
    have := h.2
    rw [h2, q_lt, nI_toInt h1, nI_toInt hn] at this
    omega
  · exact Or.inl h
/-- none is -1, -2 -/
def eC (o : Option Nat) : Int32 := match o with
  | none => -1
  | some p => nI p
def eM (o : Option Nat) : Int32 := match o with
  | none => -2
  | some p => nI p
theorem eC_none : eC none = -1 := rfl
theorem eC_some (p : Nat) : eC (some p) = nI p := rfl
theorem eM_none : eM none = -2 := rfl
theorem eM_some (p : Nat) : eM (some p) = nI p := rfl
theorem eC_inj {o : Option Nat} {q : Nat} (ho : ∀ p, o = some p → p < 2 ^ 31) (hq : q < 2 ^ 31) : eC o = nI q ↔ o = some q := by
  cases o with
  | none => simp only [eC_none]; constructor
            · intro h; exact absurd h.symm (q_ne1 hq)
            · intro h; cases h
  | some p => rw [eC_some, nI_eq (ho p rfl) hq, Option.some_inj]
theorem eM_inj {o : Option Nat} {q : Nat} (ho : ∀ p, o = some p → p < 2 ^ 31) (hq : q < 2 ^ 31) : eM o = nI q ↔ o = some q := by
  cases o with
  | none => simp only [eM_none]; constructor
            · intro h; exact absurd h.symm (q_ne2 hq)
            · intro h; cases h
  | some p => rw [eM_some, nI_eq (ho p rfl) hq, Option.some_inj]
theorem eC_m1 {o : Option Nat} (ho : ∀ p, o = some p → p < 2 ^ 31) : eC o = -1 ↔ o = none := by
  cases o with
  | none => simp [eC_none]
  | some p => simp only [eC_some]; constructor
              · intro h; exact absurd h (q_ne1 (ho p rfl))
              · intro h; cases h
theorem eM_neg {o : Option Nat} (ho : ∀ p, o = some p → p < 2 ^ 31) : eM o < 0 ↔ o = none := by
  cases o with
  | none => simp only [eM_none]; constructor
            · intro _; trivial
            · intro _; decide
  | some p => simp only [eM_some]; constructor
              · intro h; exact absurd h (nI_pos (ho p rfl))
              · intro h; cases h
theorem eM_pos {o : Option Nat} (ho : ∀ p, o = some p → p < 2 ^ 31) : 0 ≤ eM o ↔ ¬ o = none := by
  cases o with
  | none => simp only [eM_none]; constructor
            · intro h; exact absurd h (by decide)
            · intro h; exact absurd trivial h
  | some p => simp only [eM_some]; constructor
              · intro _ h; cases h
              · intro _; exact nI_pos' (ho p rfl)
theorem m_sto (g : am_G) (c i k : Nat) (x : Int32) (j : Nat) : am_sto g c i k x c i j = if j = k then x else g c i j := by
  unfold am_sto am_set
  rw [if_pos ⟨rfl, rfl⟩]
  rfl
theorem m_sto_ne {g : am_G} {c i k c' i' : Nat} {x : Int32} (h : ¬ (c' = c ∧ i' = i)) : am_sto g c i k x c' i' = g c' i' := if_neg h
theorem m_put (g : am_G) (c i : Nat) (x : Int32) (j : Nat) : am_put g c i x c i j = x := by
  unfold am_put am_set
  rw [if_pos ⟨rfl, rfl⟩]
theorem m_put_ne {g : am_G} {c i c' i' : Nat} {x : Int32} (h : ¬ (c' = c ∧ i' = i)) : am_put g c i x c' i' = g c' i' := if_neg h
theorem m_set (g : am_G) (c i : Nat) (f : Nat → Int32) : am_set g c i f c i = f := if_pos ⟨rfl, rfl⟩
theorem m_set_ne {g : am_G} {c i c' i' : Nat} {f : Nat → Int32} (h : ¬ (c' = c ∧ i' = i)) : am_set g c i f c' i' = g c' i' := if_neg h
/-- all but S stays -/
def m_fr (S : Nat → Nat → Prop) (g g' : am_G) : Prop := ∀ c i, ¬ S c i → g' c i = g c i
theorem m_fr.rf {S : Nat → Nat → Prop} {g : am_G} : m_fr S g g := fun _ _ _ => rfl
theorem m_fr.tr {S : Nat → Nat → Prop} {g g1 g2 : am_G} (h1 : m_fr S g g1) (h2 : m_fr S g1 g2) : m_fr S g g2 := fun c i h => (h2 c i h).trans (h1 c i h)
theorem m_fr.mono {S T : Nat → Nat → Prop} {g g' : am_G} (h : m_fr S g g') (hs : ∀ c i, S c i → T c i) : m_fr T g g' := fun c i hn => h c i (fun q => hn (hs c i q))
theorem m_fr.sto {S : Nat → Nat → Prop} {g g' : am_G} {c i k : Nat} {x : Int32} (h : m_fr S g g') (hs : S c i) : m_fr S g (am_sto g' c i k x) := fun c' i' hn => by
  rw [m_sto_ne (fun q => hn (by rw [q.1, q.2]; exact hs))]
  exact h c' i' hn
theorem m_fr.put {S : Nat → Nat → Prop} {g g' : am_G} {c i : Nat} {x : Int32} (h : m_fr S g g') (hs : S c i) : m_fr S g (am_put g' c i x) := fun c' i' hn => by
  rw [m_put_ne (fun q => hn (by rw [q.1, q.2]; exact hs))]
  exact h c' i' hn
theorem m_fr.set {S : Nat → Nat → Prop} {g g' : am_G} {c i : Nat} {f : Nat → Int32} (h : m_fr S g g') (hs : S c i) : m_fr S g (am_set g' c i f) := fun c' i' hn => by
  rw [m_set_ne (fun q => hn (by rw [q.1, q.2]; exact hs))]
  exact h c' i' hn
theorem bi_some {α : Type} (x : Int32) (g : am_G) (k : Int32 → am_G → Option α) : am_bi (some (some (.inl x), g)) k = k x g := rfl
theorem bv_some {α : Type} (g : am_G) (k : am_G → Option α) : am_bv (some (none, g)) k = k g := rfl
theorem fb_holes : ∀ (m n : Nat) (f : Nat → Nat), (∀ i, i < n → f i < m) → (∀ i j, i < j → j < n → f i ≠ f j) → n ≤ m := by
  intro m
  induction m with
  | zero =>
    intro n f h1 _
    rcases Nat.eq_zero_or_pos n with h | h
    · omega
    · exact absurd (h1 0 h) (Nat.not_lt_zero _)
  | succ m ih =>
    intro n f h1 h2
    by_cases hx : ∃ i, i < n ∧ f i = m
    · obtain ⟨a, ha, hfa⟩ := hx
      have hg := ih (n - 1) (fun i => if i < a then f i else f (i + 1)) (by
        intro i hi
        by_cases q : i < a
        · simp only [if_pos q]
          have b1 := h1 i (by omega)
          have b2 := h2 i a q ha
          omega
        · simp only [if_neg q]
          have b1 := h1 (i + 1) (by omega)
          have b2 := h2 a (i + 1) (by omega) (by omega)
          omega) (by
        intro i j hij hj
        by_cases q : i < a
        · by_cases r : j < a
          · simp only [if_pos q, if_pos r]
            exact h2 i j hij (by omega)
          · simp only [if_pos q, if_neg r]
            exact h2 i (j + 1) (by omega) (by omega)
        · have r : ¬ j < a := by omega
          simp only [if_neg q, if_neg r]
          exact h2 (i + 1) (j + 1) (by omega) (by omega))
      omega
    · have hg := ih n f (fun i hi => by
        have b1 := h1 i hi
        have b2 : f i ≠ m := fun e => hx ⟨i, hi, e⟩
        omega) h2
      omega
theorem q_s24 {k : Nat} (h : k < 24) : ¬ (24 : Int32) ≤ nI k := nI_ge (a := k) (b := 24) h (by omega)
theorem q_c24 {n t : Nat} (hn : n ≤ 24) (ht : t < n) : am_in (nI t) 24 = true := q_in (Nat.lt_of_lt_of_le ht hn) (by omega)
theorem q24 {n t : Nat} (h : n ≤ 24) (ht : t < n) : t < 2 ^ 31 := by omega
theorem q24e {n t : Nat} (h : n ≤ 24) (ht : t ≤ n) : t < 2 ^ 31 := by omega
theorem q_ge {a b : Nat} (h : a ≤ b) (hb : b < 2 ^ 31) : nI a ≤ nI b := nI_le h hb
