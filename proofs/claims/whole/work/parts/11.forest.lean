/-! ===== forests: towns 0 .. n-1, of each at most one parent ===== -/
/-- towns, parent, preferred, length, cap, value, switches -/
abbrev fF : Type := Nat × (Nat → Option Nat) × (Nat → Option Nat) × (Nat → Nat) × (Nat → Nat) × (Nat → Int32) × Int32
abbrev fN (F : fF) : Nat := F.1
abbrev fP (F : fF) : Nat → Option Nat := F.2.1
abbrev fQ (F : fF) : Nat → Option Nat := F.2.2.1
abbrev fL (F : fF) : Nat → Nat := F.2.2.2.1
abbrev fC (F : fF) : Nat → Nat := F.2.2.2.2.1
abbrev fV (F : fF) : Nat → Int32 := F.2.2.2.2.2.1
abbrev fS (F : fF) : Int32 := F.2.2.2.2.2.2
def uo {α : Type} (f : Nat → α) (k : Nat) (x : α) : Nat → α := fun j => if j = k then x else f j
theorem uo_eq {α : Type} (f : Nat → α) (k : Nat) (x : α) : uo f k x k = x := if_pos rfl
theorem uo_ne {α : Type} {f : Nat → α} {k j : Nat} {x : α} (h : j ≠ k) : uo f k x j = f j := if_neg h
/-- parents are towns; no cycles -/
def f_ok (n : Nat) (par : Nat → Option Nat) : Prop := (∀ t p, t < n → par t = some p → p < n) ∧ ∃ d : Nat → Nat, ∀ t p, t < n → par t = some p → d p < d t
def f_an (par : Nat → Option Nat) : Nat → Nat → List Nat
  | 0, t => [t]
  | k + 1, t => t :: (match par t with
    | none => []
    | some p => f_an par k p)
/-- a town and all above it -/
def f_a (par : Nat → Option Nat) (t : Nat) : List Nat := f_an par 24 t
theorem f_ind {n : Nat} {par : Nat → Option Nat} (h : f_ok n par) {P : Nat → Prop} (hs : ∀ t, t < n → (∀ p, par t = some p → P p) → P t) : ∀ t, t < n → P t := by
  obtain ⟨h1, d, h2⟩ := h
  have key : ∀ k t, t < n → d t < k → P t := by
    intro k
    induction k with
    | zero => intro t _ h; exact absurd h (Nat.not_lt_zero _)
    | succ k ih =>
      intro t ht hk
      refine hs t ht fun p hp => ih p (h1 t p ht hp) ?_
      have := h2 t p ht hp
      omega
  exact fun t ht => key (d t + 1) t ht (Nat.lt_succ_self _)
theorem f_an_mem {n : Nat} {par : Nat → Option Nat} {d : Nat → Nat} (h1 : ∀ t p, t < n → par t = some p → p < n) (h2 : ∀ t p, t < n → par t = some p → d p < d t) : ∀ k t, t < n → ∀ x ∈ f_an par k t, x < n ∧ (x = t ∨ d x < d t)
  | 0, t, ht, x, hx => by
    have : x = t := by simpa [f_an] using hx
    subst this
    exact ⟨ht, Or.inl rfl⟩
  | k + 1, t, ht, x, hx => by
    unfold f_an at hx
    rcases List.mem_cons.mp hx with rfl | hx
    · exact ⟨ht, Or.inl rfl⟩
    · cases hp : par t with
      | none => rw [hp] at hx; cases hx
      | some p =>
        rw [hp] at hx
        obtain ⟨h3, h4⟩ := f_an_mem h1 h2 k p (h1 t p ht hp) x hx
        have h5 := h2 t p ht hp
        refine ⟨h3, Or.inr ?_⟩
        rcases h4 with rfl | h4
        · exact h5
        · omega
theorem f_an_nd {n : Nat} {par : Nat → Option Nat} {d : Nat → Nat} (h1 : ∀ t p, t < n → par t = some p → p < n) (h2 : ∀ t p, t < n → par t = some p → d p < d t) : ∀ k t, t < n → (f_an par k t).Nodup
  | 0, t, ht => by simp [f_an]
  | k + 1, t, ht => by
    unfold f_an
    cases hp : par t with
    | none => simp
    | some p =>
      have hpn := h1 t p ht hp
      refine List.nodup_cons.mpr ⟨fun hx => ?_, f_an_nd h1 h2 k p hpn⟩
      have h5 := h2 t p ht hp
      rcases (f_an_mem h1 h2 k p hpn t hx).2 with h6 | h6
      · subst h6; omega
      · omega
theorem nd_len {l : List Nat} {n : Nat} (hn : l.Nodup) (hl : ∀ x ∈ l, x < n) : l.length ≤ n := by
  refine fb_holes n l.length (fun i => l.getD i 0) (fun i hi => ?_) (fun i j hij hj => ?_)
  · rw [List.getD_eq_getElem?_getD, List.getElem?_eq_getElem hi]
    exact hl _ (List.getElem_mem hi)
  · rw [List.getD_eq_getElem?_getD, List.getD_eq_getElem?_getD, List.getElem?_eq_getElem hj, List.getElem?_eq_getElem (Nat.lt_trans hij hj)]
    intro e
    have h := (List.getElem?_inj (Nat.lt_trans hij hj) hn (j := j)).mp (by rw [List.getElem?_eq_getElem hj, List.getElem?_eq_getElem (Nat.lt_trans hij hj)]; exact congrArg some e)
    omega
theorem f_an_len {n : Nat} {par : Nat → Option Nat} (h : f_ok n par) (k t : Nat) (ht : t < n) : (f_an par k t).length ≤ n := by
  obtain ⟨h1, d, h2⟩ := h
  exact nd_len (f_an_nd h1 h2 k t ht) (fun x hx => (f_an_mem h1 h2 k t ht x hx).1)
theorem f_an_st {par : Nat → Option Nat} : ∀ k t, (f_an par k t).length ≤ k → f_an par (k + 1) t = f_an par k t
  | 0, t, h => by simp [f_an] at h
  | k + 1, t, h => by
    rw [f_an, f_an]
    cases hp : par t with
    | none => rfl
    | some p =>
      unfold f_an at h
      rw [hp] at h
      simp only [List.length_cons] at h
      show t :: f_an par (k + 1) p = t :: f_an par k p
      rw [f_an_st k p (by omega)]
section FO
variable {n : Nat} {par : Nat → Option Nat}
theorem f_a_eq (h : f_ok n par) (hn : n ≤ 24) {t : Nat} (ht : t < n) : f_a par t = t :: (match par t with
    | none => []
    | some p => f_a par p) := by
  have hl := f_an_len h 24 t ht
  unfold f_a
  rw [f_an]
  cases hp : par t with
  | none => rfl
  | some p =>
    unfold f_an at hl
    rw [hp] at hl
    simp only [List.length_cons] at hl
    show t :: f_an par 23 p = t :: f_an par 24 p
    rw [f_an_st 23 p (by omega)]
theorem f_a_none (h : f_ok n par) (hn : n ≤ 24) {t : Nat} (ht : t < n) (hp : par t = none) : f_a par t = [t] := by
  rw [f_a_eq h hn ht, hp]
theorem f_a_some (h : f_ok n par) (hn : n ≤ 24) {t p : Nat} (ht : t < n) (hp : par t = some p) : f_a par t = t :: f_a par p := by
  rw [f_a_eq h hn ht, hp]
theorem f_a_lt (h : f_ok n par) {t x : Nat} (ht : t < n) (hx : x ∈ f_a par t) : x < n := by
  obtain ⟨h1, d, h2⟩ := h
  exact (f_an_mem h1 h2 24 t ht x hx).1
theorem f_a_nd (h : f_ok n par) {t : Nat} (ht : t < n) : (f_a par t).Nodup := by
  obtain ⟨h1, d, h2⟩ := h
  exact f_an_nd h1 h2 24 t ht
theorem f_a_len (h : f_ok n par) {t : Nat} (ht : t < n) : (f_a par t).length ≤ n := f_an_len h 24 t ht
theorem f_a_self (par : Nat → Option Nat) (t : Nat) : t ∈ f_a par t := by
  unfold f_a f_an
  exact List.mem_cons_self
theorem f_a_pos (par : Nat → Option Nat) (t : Nat) : 0 < (f_a par t).length := List.length_pos_of_mem (f_a_self par t)
/-- above one that is above -/
theorem f_a_suf (h : f_ok n par) (hn : n ≤ 24) : ∀ t, t < n → ∀ x ∈ f_a par t, ∃ pre, f_a par t = pre ++ f_a par x := by
  refine f_ind h fun t ht ih x hx => ?_
  cases hp : par t with
  | none =>
    rw [f_a_none h hn ht hp] at hx
    have : x = t := by simpa using hx
    subst this
    exact ⟨[], rfl⟩
  | some p =>
    rw [f_a_some h hn ht hp] at hx ⊢
    rcases List.mem_cons.mp hx with rfl | hx
    · exact ⟨[], by rw [f_a_some h hn ht hp]; rfl⟩
    · obtain ⟨pre, e⟩ := ih p hp x hx
      exact ⟨t :: pre, by rw [e]; rfl⟩
theorem f_a_tr (h : f_ok n par) (hn : n ≤ 24) {t x y : Nat} (ht : t < n) (hx : x ∈ f_a par t) (hy : y ∈ f_a par x) : y ∈ f_a par t := by
  obtain ⟨pre, e⟩ := f_a_suf h hn t ht x hx
  rw [e]
  exact List.mem_append_right _ hy
end FO
/-- the root -/
def f_r (par : Nat → Option Nat) (t : Nat) : Nat := (f_a par t).getLastD t
section FO
variable {n : Nat} {par : Nat → Option Nat}
theorem f_r_none (h : f_ok n par) (hn : n ≤ 24) {t : Nat} (ht : t < n) (hp : par t = none) : f_r par t = t := by
  unfold f_r
  rw [f_a_none h hn ht hp]
  rfl
theorem getLastD_cons_ne {l : List Nat} {a b : Nat} (h : 0 < l.length) : (a :: l).getLastD b = l.getLastD b := by
  cases l with
  | nil => cases h
  | cons c l => simp [List.getLastD_cons]
theorem getLastD_any {l : List Nat} {a b : Nat} (h : 0 < l.length) : l.getLastD a = l.getLastD b := by
  cases l with
  | nil => cases h
  | cons c l => rw [List.getLastD_cons, List.getLastD_cons]
theorem f_r_some (h : f_ok n par) (hn : n ≤ 24) {t p : Nat} (ht : t < n) (hp : par t = some p) : f_r par t = f_r par p := by
  unfold f_r
  rw [f_a_some h hn ht hp, getLastD_cons_ne (f_a_pos par p)]
  exact getLastD_any (f_a_pos par p)
theorem f_r_lt (h : f_ok n par) (hn : n ≤ 24) : ∀ t, t < n → f_r par t < n ∧ par (f_r par t) = none ∧ f_r par t ∈ f_a par t := by
  refine f_ind h fun t ht ih => ?_
  cases hp : par t with
  | none => rw [f_r_none h hn ht hp]; exact ⟨ht, hp, f_a_self par t⟩
  | some p =>
    rw [f_r_some h hn ht hp, f_a_some h hn ht hp]
    obtain ⟨h1, h2, h3⟩ := ih p hp
    exact ⟨h1, h2, List.mem_cons_of_mem _ h3⟩
theorem f_r_up (h : f_ok n par) (hn : n ≤ 24) : ∀ t, t < n → ∀ x ∈ f_a par t, f_r par x = f_r par t := by
  refine f_ind h fun t ht ih x hx => ?_
  cases hp : par t with
  | none =>
    rw [f_a_none h hn ht hp] at hx
    have : x = t := by simpa using hx
    rw [this]
  | some p =>
    rw [f_a_some h hn ht hp] at hx
    rcases List.mem_cons.mp hx with rfl | hx
    · rfl
    · rw [f_r_some h hn ht hp]
      exact ih p hp x hx
end FO
