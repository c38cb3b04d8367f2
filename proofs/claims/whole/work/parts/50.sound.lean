/-! ===== the machine's run is the JVM's: the words ===== -/
theorem am_nth_eq {α : Type} : ∀ (l : List α) (n : Nat), am_nth l n = l[n]?
  | [], n => by simp [am_nth]
  | a :: l, 0 => by simp [am_nth]
  | a :: l, n + 1 => by simp [am_nth, am_nth_eq l n]
def am_tr (ad : Nat → Nat → Nat) : am_V → Value
  | .inl x => .int x
  | .inr (.inl y) => .long y
  | .inr (.inr (c, i)) => .ref (ad c i)
def am_fv (ad : Nat → Nat → Nat) (g : am_G) (i : Nat) (f : Nat × Nat × Nat) : Value := match f with
  | (0, c, _) => .int (g c i 0)
  | (1, c, _) => .ref (ad c i)
  | (2, c, b) => .ref (ad c b)
  | (3, c, _) => .long (g c i 0).toInt64
  | (4, c, _) => .ref (if g c i 0 = 0 then ad 12 0 else ad 13 0)
  | (_, c, _) => .int (g c i 0)
/-- a cell as the JVM's heap holds it -/
def am_cell (ad : Nat → Nat → Nat) (ca : Nat → ClassId) (g : am_G) (c i : Nat) : va_E := match am_lay c with
  | some (.inl (ci, fs)) => .inr (ci, fs.map (am_fv ad g i))
  | some (.inr (.inl n)) => .inl (ca c, n, .inl (g c i))
  | some (.inr (.inr (n, c', o))) => .inl (ca c, n, .inr (.inr (.inr (.inr (fun k => some (ad c' (o + k)))))))
  | none => .inr (0, [])
def am_ws (rs : List (Nat × Nat)) (ad : Nat → Nat → Nat) (ca : Nat → ClassId) (g : am_G) : va_W := rs.map (fun r => (ad r.1 r.2, am_cell ad ca g r.1 r.2))
/-- the cells of a world are apart, and what they name is among them -/
def am_rsok (rs : List (Nat × Nat)) : Bool := decide rs.Nodup && rs.all (fun r => match am_lay r.1 with
  | some (.inl (_, fs)) => fs.all (fun f => match f with
    | (1, c, _) => decide ((c, r.2) ∈ rs)
    | (2, c, b) => decide ((c, b) ∈ rs)
    | (4, _, _) => decide ((13, 0) ∈ rs)
    | _ => true)
  | some (.inr (.inl _)) => true
  | some (.inr (.inr (n, c, o))) => (List.range n).all (fun k => decide ((c, o + k) ∈ rs))
  | none => false)
/-- the cell of code c reads the memory of code k -/
def am_rd (c k : Nat) : Bool := match am_lay c with
  | some (.inl (_, fs)) => fs.any (fun f => !(f.1 == 1) && (!(f.1 == 2) && f.2.1 == k))
  | some (.inr (.inl _)) => c == k
  | _ => false
def am_only (c k : Nat) : Bool := (List.range 36).all (fun c1 => !am_rd c1 k || c1 == c)
def am_tag (t : Nat) (ty : FieldType) : Bool := match t with
  | 0 => decide (ty = .int)
  | 3 => decide (ty = .long)
  | 4 => decide (ty = .array .int)
  | 5 => decide (ty = .boolean)
  | 1 => true
  | 2 => true
  | _ => false
/-- the layout: a field's memory is read by its own cell alone, at one place; its kind is its type -/
def am_layok : Bool := (List.range 36).all (fun c => match am_lay c with
  | some (.inl (ci, fs)) => decide ((am_cs[ci]?.map (fun q => q.2.2)) = some fs.length) && (List.range fs.length).all (fun k => match fs[k]? with
    | some f => am_tag f.1 (am_ty ci k) && (f.1 == 1 || f.1 == 2 || (am_only c f.2.1 && (List.range fs.length).all (fun j => j == k || match fs[j]? with
      | some f2 => f2.1 == 1 || (f2.1 == 2 || !(f2.2.1 == f.2.1))
      | none => true)))
    | none => true)
  | some (.inr (.inl _)) => am_only c c
  | _ => true)
set_option maxRecDepth 20000 in
theorem am_layok_t : am_layok = true := by decide +kernel
theorem am_lay_lt {c : Nat} {y : am_Y} (h : am_lay c = some y) : c < 36 := by
  unfold am_lay at h
  rw [am_nth_eq] at h
  exact (List.getElem?_eq_some_iff.mp h).1
theorem am_rd_lt {c k : Nat} (h : am_rd c k = true) : c < 36 := by
  unfold am_rd at h
  cases hl : am_lay c with
  | none => rw [hl] at h; cases h
  | some y => exact am_lay_lt hl
theorem am_only_of {c k c1 : Nat} (h : am_only c k = true) (h1 : am_rd c1 k = true) : c1 = c := by
  have h2 := List.all_eq_true.mp h c1 (List.mem_range.mpr (am_rd_lt h1))
  rw [h1] at h2
  simpa using h2
theorem am_set_ne {g : am_G} {c i c' i' : Nat} {f : Nat → Int32} (h : ¬ (c' = c ∧ i' = i)) : am_set g c i f c' i' = g c' i' := if_neg h
theorem am_set_eq {g : am_G} {c i : Nat} {f : Nat → Int32} : am_set g c i f c i = f := if_pos ⟨rfl, rfl⟩
theorem am_fv_ne {ad : Nat → Nat → Nat} {g : am_G} {i j k : Nat} {x : Nat → Int32} {f : Nat × Nat × Nat} (h : (!(f.1 == 1) && (!(f.1 == 2) && f.2.1 == k)) = false ∨ i ≠ j) : am_fv ad (am_set g k j x) i f = am_fv ad g i f := by
  obtain ⟨t, c, b⟩ := f
  have e : t = 1 ∨ t = 2 ∨ am_set g k j x c i = g c i := by
    rcases h with h | h
    · by_cases h1 : t = 1
      · exact Or.inl h1
      · by_cases h2 : t = 2
        · exact Or.inr (Or.inl h2)
        · refine Or.inr (Or.inr (am_set_ne fun q => ?_))
          simp [h1, h2, q.1] at h
    · exact Or.inr (Or.inr (am_set_ne fun q => h q.2))
  rcases e with rfl | rfl | e
  · rfl
  · rfl
  · match t with
    | 0 => simp only [am_fv, e]
    | 1 => rfl
    | 2 => rfl
    | 3 => simp only [am_fv, e]
    | 4 => simp only [am_fv, e]
    | t + 5 => simp only [am_fv, e]
theorem am_cell_ne {ad : Nat → Nat → Nat} {ca : Nat → ClassId} {g : am_G} {c i j k : Nat} {x : Nat → Int32} (h : am_rd c k = false ∨ i ≠ j) : am_cell ad ca (am_set g k j x) c i = am_cell ad ca g c i := by
  unfold am_cell
  unfold am_rd at h
  cases hl : am_lay c with
  | none => rfl
  | some y =>
    rw [hl] at h
    match y, h with
    | .inl (ci, fs), h =>
      show Sum.inr (ci, _) = Sum.inr (ci, _)
      congr 2
      refine List.map_congr_left fun f hf => am_fv_ne ?_
      rcases h with h | h
      · exact Or.inl (by simpa using List.any_eq_false.mp h f hf)
      · exact Or.inr h
    | .inr (.inl n), h =>
      show Sum.inl (ca c, n, Sum.inl _) = Sum.inl (ca c, n, Sum.inl _)
      rw [am_set_ne]
      intro q
      rcases h with h | h
      · simp [q.1] at h
      · exact h q.2
    | .inr (.inr (n, c', o)), h => rfl
theorem am_ws_at {rs : List (Nat × Nat)} {ad : Nat → Nat → Nat} {ca : Nat → ClassId} {g : am_G} {q c i : Nat} (h : rs[q]? = some (c, i)) : (am_ws rs ad ca g)[q]? = some (ad c i, am_cell ad ca g c i) := by
  unfold am_ws
  rw [List.getElem?_map, h]
  rfl
theorem am_ws_set {rs : List (Nat × Nat)} {ad : Nat → Nat → Nat} {ca : Nat → ClassId} {g : am_G} {q c i k : Nat} {x : Nat → Int32} (hn : rs.Nodup) (h : rs[q]? = some (c, i)) (hu : ∀ c1, am_rd c1 k = true → c1 = c) :
    (am_ws rs ad ca g).set q (ad c i, am_cell ad ca (am_set g k i x) c i) = am_ws rs ad ca (am_set g k i x) := by
  apply List.ext_getElem?
  intro j
  rw [List.getElem?_set]
  have hlt : q < rs.length := (List.getElem?_eq_some_iff.mp h).1
  by_cases hj : q = j
  · subst hj
    rw [if_pos rfl, if_pos (by unfold am_ws; rw [List.length_map]; exact hlt), am_ws_at h]
  · rw [if_neg hj]
    unfold am_ws
    rw [List.getElem?_map, List.getElem?_map]
    cases hr : rs[j]? with
    | none => rfl
    | some r =>
      obtain ⟨c1, i1⟩ := r
      show some _ = some _
      refine congrArg some (congrArg (Prod.mk _) (am_cell_ne ?_).symm)
      by_cases hc : am_rd c1 k = true
      · refine Or.inr fun hi => ?_
        have e := hu c1 hc
        subst e; subst hi
        exact hj ((List.getElem?_inj hlt hn).mp (h.trans hr.symm))
      · exact Or.inl (by simpa using hc)
