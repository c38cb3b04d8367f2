/-! ===== one instruction of the machine is one of the JVM's: the step ===== -/
section SND
variable {α : Type}
theorem am_i1_of {st : List am_V} {k : Int32 → List am_V → Option α} {a : α} (h : am_i1 st k = some a) : ∃ x r, st = .inl x :: r ∧ k x r = some a := by
  match st, h with
  | .inl x :: r, h => exact ⟨x, r, rfl, h⟩
  | [], h => cases h
  | .inr _ :: _, h => cases h
theorem am_i2_of {st : List am_V} {k : Int32 → Int32 → List am_V → Option α} {a : α} (h : am_i2 st k = some a) : ∃ x y r, st = .inl y :: .inl x :: r ∧ k x y r = some a := by
  match st, h with
  | .inl y :: .inl x :: r, h => exact ⟨x, y, r, rfl, h⟩
  | [], h => cases h
  | .inr _ :: _, h => cases h
  | [.inl _], h => cases h
  | .inl _ :: .inr _ :: _, h => cases h
theorem am_l1_of {st : List am_V} {k : Int64 → List am_V → Option α} {a : α} (h : am_l1 st k = some a) : ∃ x r, st = .inr (.inl x) :: r ∧ k x r = some a := by
  match st, h with
  | .inr (.inl x) :: r, h => exact ⟨x, r, rfl, h⟩
  | [], h => cases h
  | .inl _ :: _, h => cases h
  | .inr (.inr _) :: _, h => cases h
theorem am_l2_of {st : List am_V} {k : Int64 → Int64 → List am_V → Option α} {a : α} (h : am_l2 st k = some a) : ∃ x y r, st = .inr (.inl y) :: .inr (.inl x) :: r ∧ k x y r = some a := by
  match st, h with
  | .inr (.inl y) :: .inr (.inl x) :: r, h => exact ⟨x, y, r, rfl, h⟩
  | [], h => cases h
  | .inl _ :: _, h => cases h
  | .inr (.inr _) :: _, h => cases h
  | [.inr (.inl _)], h => cases h
  | .inr (.inl _) :: .inl _ :: _, h => cases h
  | .inr (.inl _) :: .inr (.inr _) :: _, h => cases h
theorem am_r1_of {st : List am_V} {k : Nat → Nat → List am_V → Option α} {a : α} (h : am_r1 st k = some a) : ∃ c i r, st = .inr (.inr (c, i)) :: r ∧ k c i r = some a := by
  match st, h with
  | .inr (.inr (c, i)) :: r, h => exact ⟨c, i, r, rfl, h⟩
  | [], h => cases h
  | .inl _ :: _, h => cases h
  | .inr (.inl _) :: _, h => cases h
theorem am_ldi_of {ls : am_L} {j : Nat} {k : Int32 → Option α} {a : α} (h : am_ldi ls j k = some a) : ∃ x, am_nth ls j = some (some (.inl x)) ∧ k x = some a := by
  unfold am_ldi at h
  cases hj : am_nth ls j with
  | none => rw [hj] at h; cases h
  | some o =>
    rw [hj] at h
    match o, h with
    | some (.inl x), h => exact ⟨x, rfl, h⟩
    | none, h => cases h
    | some (.inr _), h => cases h
theorem am_ldr_of {ls : am_L} {j : Nat} {k : Nat → Nat → Option α} {a : α} (h : am_ldr ls j k = some a) : ∃ c i, am_nth ls j = some (some (.inr (.inr (c, i)))) ∧ k c i = some a := by
  unfold am_ldr at h
  cases hj : am_nth ls j with
  | none => rw [hj] at h; cases h
  | some o =>
    rw [hj] at h
    match o, h with
    | some (.inr (.inr (c, i))), h => exact ⟨c, i, rfl, h⟩
    | none, h => cases h
    | some (.inl _), h => cases h
    | some (.inr (.inl _)), h => cases h
theorem am_stl_of {ls : am_L} {j : Nat} {v : am_V} {k : am_L → Option α} {a : α} (h : am_stl ls j v k = some a) : j < ls.length ∧ k (ls.set j (some v)) = some a := by
  unfold am_stl at h
  cases hj : am_nth ls j with
  | none => rw [hj] at h; cases h
  | some o => rw [hj] at h; exact ⟨am_nth_lt hj, h⟩
theorem am_obj_of {y : Option am_Y} {ci : Nat} {k : List (Nat × Nat × Nat) → Option α} {a : α} (h : am_obj y ci k = some a) : ∃ fs, y = some (.inl (ci, fs)) ∧ k fs = some a := by
  match y, h with
  | some (.inl (cj, fs)), h =>
    have h2 : (bif cj == ci then k fs else none) = some a := h
    cases hc : cj == ci with
    | false => rw [hc] at h2; cases h2
    | true =>
      rw [hc] at h2
      have e := eq_of_beq hc
      exact ⟨fs, by rw [e], h2⟩
  | none, h => cases h
  | some (.inr _), h => cases h
theorem am_arr_of {y : Option am_Y} {k : Nat → Option α} {a : α} (h : am_arr y k = some a) : ∃ n, y = some (.inr (.inl n)) ∧ k n = some a := by
  match y, h with
  | some (.inr (.inl n)), h => exact ⟨n, rfl, h⟩
  | none, h => cases h
  | some (.inl _), h => cases h
  | some (.inr (.inr _)), h => cases h
theorem am_rar_of {y : Option am_Y} {k : Nat → Nat → Nat → Option α} {a : α} (h : am_rar y k = some a) : ∃ n c o, y = some (.inr (.inr (n, c, o))) ∧ k n c o = some a := by
  match y, h with
  | some (.inr (.inr (n, c, o))), h => exact ⟨n, c, o, rfl, h⟩
  | none, h => cases h
  | some (.inl _), h => cases h
  | some (.inr (.inl _)), h => cases h
theorem am_bif {b : Bool} {x : Option α} {a : α} (h : (bif b then x else none) = some a) : b = true ∧ x = some a := by
  cases b with
  | false => cases h
  | true => exact ⟨rfl, h⟩
theorem am_sw_of {x : Int32} {d : Nat} {k : Nat → Option α} {a : α} : ∀ {l : List (Int32 × Nat)}, am_sw l d x k = some a → (∃ (j : Nat) (t : Nat), l[j]? = some (x, t) ∧ (∀ i, i < j → ∀ v t2, l[i]? = some (v, t2) → x ≠ v) ∧ k t = some a) ∨ ((∀ (j : Nat) v t, l[j]? = some (v, t) → x ≠ v) ∧ k d = some a)
  | [], h => Or.inr ⟨fun j v t h => by simp at h, h⟩
  | (v, t) :: r, h => by
    unfold am_sw at h
    by_cases e : x = v
    · rw [if_pos e] at h
      subst e
      exact Or.inl ⟨0, t, rfl, fun i hi => absurd hi (Nat.not_lt_zero i), h⟩
    · rw [if_neg e] at h
      have cons : ∀ {P : Nat → Prop}, P 0 → (∀ j, P (j + 1)) → ∀ j, P j := fun h0 h1 j => by
        cases j with
        | zero => exact h0
        | succ j => exact h1 j
      rcases am_sw_of h with ⟨j, t2, h1, h2, h3⟩ | ⟨h1, h2⟩
      · refine Or.inl ⟨j + 1, t2, h1, fun i hi => ?_, h3⟩
        cases i with
        | zero => intro v2 t3 h4; cases h4; exact e
        | succ i => exact h2 i (Nat.lt_of_succ_lt_succ hi)
      · refine Or.inr ⟨fun j => ?_, h2⟩
        cases j with
        | zero => intro v2 t3 h4; cases h4; exact e
        | succ j => exact h1 j
theorem am_ckt_of {code : List am_E} {b : Nat} : ∀ {offs : List Int} {sw : List (Int32 × Nat)} {lo : Int}, am_ckt code b lo offs sw = true → sw.length = offs.length ∧ ∀ (j : Nat) (v : Int32) (t : Nat), sw[j]? = some (v, t) → v.toInt = lo + j ∧ ∃ o, offs[j]? = some o ∧ (b : Int) + o = (am_bp code t : Int)
  | [], [], lo, _ => ⟨rfl, fun j v t h => by simp at h⟩
  | o :: r, (x, t) :: r2, lo, h => by
    unfold am_ckt at h
    simp only [Bool.and_eq_true, decide_eq_true_eq] at h
    obtain ⟨h1, h2, h3⟩ := h
    obtain ⟨h4, h5⟩ := am_ckt_of h3
    refine ⟨by simp [h4], fun j v t2 hj => ?_⟩
    cases j with
    | zero => cases hj; exact ⟨by rw [h1]; simp, o, rfl, h2⟩
    | succ j =>
      obtain ⟨h6, h7⟩ := h5 j v t2 hj
      exact ⟨by rw [h6]; omega, h7⟩
  | [], _ :: _, _, h => by cases h
  | _ :: _, [], _, h => by cases h
theorem am_ckl_of {code : List am_E} {b : Nat} {x : Int32} {d : Nat} {dflt : Int} {k : Nat → Option α} {a : α} (hd : (b : Int) + dflt = (am_bp code d : Int)) : ∀ {ps : List (Int × Int)} {sw : List (Int32 × Nat)}, am_ckl code b ps sw = true → am_sw sw d x k = some a →
    ∃ t, (b : Int) + Op.lookupswitch.offset ps dflt x.toInt = (am_bp code t : Int) ∧ k t = some a
  | [], [], _, h => ⟨d, hd, h⟩
  | (v, o) :: r, (y, t) :: r2, hc, h => by
    unfold am_ckl at hc
    simp only [Bool.and_eq_true, decide_eq_true_eq] at hc
    obtain ⟨h1, h2, h3⟩ := hc
    unfold am_sw at h
    by_cases e : x = y
    · rw [if_pos e] at h
      subst e
      refine ⟨t, ?_, h⟩
      rw [Op.lookupswitch.offset_cons, if_pos (by rw [h1])]
      exact h2
    · rw [if_neg e] at h
      obtain ⟨t2, h4, h5⟩ := am_ckl_of hd h3 h
      refine ⟨t2, ?_, h5⟩
      rw [lv_osw e h1]
      exact h4
  | [], _ :: _, hc, _ => by cases hc
  | _ :: _, [], hc, _ => by cases hc
end SND
