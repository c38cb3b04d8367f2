/-! ===== one instruction of the machine is one of the JVM's ===== -/
/-- what may lie in a local, on the stack -/
def am_vl (rs : List (Nat × Nat)) (v : am_V) : Prop := match v with
  | .inl _ => True
  | .inr (.inl _) => False
  | .inr (.inr r) => r ∈ rs
def am_vs (rs : List (Nat × Nat)) (v : am_V) : Prop := match v with
  | .inr (.inr r) => r ∈ rs
  | _ => True
theorem am_vl_vs {rs : List (Nat × Nat)} {v : am_V} (h : am_vl rs v) : am_vs rs v := by
  match v, h with
  | .inl _, _ => trivial
  | .inr (.inr r), h => exact h
def am_LR (rs : List (Nat × Nat)) (ad : Nat → Nat → Nat) (nL : Nat) (lsA : Array Slot) (ls : am_L) : Prop :=
  lsA.size = nL ∧ ls.length = nL ∧ lv_wf lsA ∧ ∀ (j : Nat) (v : am_V), am_nth ls j = some (some v) → lsA[j]? = some (.val (am_tr ad v)) ∧ am_vl rs v
def am_Hp (D : va_G) (rs : List (Nat × Nat)) (ad : Nat → Nat → Nat) (ca : Nat → ClassId) (A : Nat → Prop) (H0 : Heap) (g : am_G) (H : Heap) (locs : List Loc) : Prop :=
  va_P D am_cs (am_ws rs ad ca g) H ∧ va_D A (am_ws rs ad ca g) ∧ va_S A H0 H locs
def am_aty (c : Nat) : FieldType := match c with
  | 15 => .object "TownForest$Forest"
  | 24 => .array .int
  | _ => .int
def am_isA (c : Nat) : Bool := match am_lay c with
  | some (.inr _) => true
  | _ => false
/-- a nest mate's private methods, as the tables have them -/
def am_Nx (U : State) : Prop := ∀ (a : String) (i : Nat) (x : MethodName) (h : String), Cond.methodLinkNest a i x h ∈ lw_tbl → va_Nw (.methodLinkNest a i x h) U
theorem am_Nx.warm {s U : State} (hW : s.WarmedH U.vm) (h : am_Nx s) : am_Nx U := fun a i x q hm => va_Nw.warmM hW (h a i x q hm)
def am_Kx (D : va_G) (rs : List (Nat × Nat)) (ca : Nat → ClassId) (tys : List (ClassId × FieldType)) (s : State) : Prop :=
  am_rsok rs = true ∧ va_K D am_cs tys s ∧ (∀ r ∈ rs, am_isA r.1 = true → ∃ t0 : Nat, tys[t0]? = some (ca r.1, am_aty r.1)) ∧ am_Nx s
theorem am_cat {rs : List (Nat × Nat)} {ad : Nat → Nat → Nat} {v : am_V} (h : am_vl rs v) : (am_tr ad v).category = 1 := by
  match v, h with
  | .inl _, _ => rfl
  | .inr (.inr _), _ => rfl
theorem am_cat2 {ad : Nat → Nat → Nat} (v : am_V) : (am_tr ad v).category ≤ 2 := by
  match v with
  | .inl _ => exact Nat.le_of_ble_eq_true rfl
  | .inr (.inl _) => exact Nat.le_of_ble_eq_true rfl
  | .inr (.inr _) => exact Nat.le_of_ble_eq_true rfl
theorem am_cats {ad : Nat → Nat → Nat} : ∀ (st : List am_V), ((st.map (am_tr ad)).map fun v => v.category).sum ≤ 2 * st.length
  | [] => by simp
  | v :: r => by
    have h1 := am_cats (ad := ad) r
    have h2 := am_cat2 (ad := ad) v
    simp only [List.map_cons, List.sum_cons, List.length_cons]
    omega
/-- the listed locals -/
def am_lv (ad : Nat → Nat → Nat) (ls : am_L) : List (Nat × Value) := (List.range ls.length).filterMap (fun j => match am_nth ls j with
  | some (some v) => some (j, am_tr ad v)
  | _ => none)
theorem am_lv_mem {ad : Nat → Nat → Nat} {ls : am_L} {q : Nat × Value} : q ∈ am_lv ad ls ↔ ∃ v, am_nth ls q.1 = some (some v) ∧ q.2 = am_tr ad v := by
  unfold am_lv
  rw [List.mem_filterMap]
  constructor
  · rintro ⟨j, -, h⟩
    cases hj : am_nth ls j with
    | none => rw [hj] at h; cases h
    | some o =>
      cases o with
      | none => rw [hj] at h; cases h
      | some v =>
        rw [hj] at h
        have h := Option.some.inj h
        subst h
        exact ⟨v, hj, rfl⟩
  · rintro ⟨v, h, e⟩
    refine ⟨q.1, List.mem_range.mpr ?_, ?_⟩
    · rw [am_nth_eq] at h
      exact (List.getElem?_eq_some_iff.mp h).1
    · rw [h]
      show some (q.1, am_tr ad v) = some q
      rw [← e]
theorem am_LR.has {rs : List (Nat × Nat)} {ad : Nat → Nat → Nat} {nL : Nat} {lsA : Array Slot} {ls : am_L} (h : am_LR rs ad nL lsA ls) : lv_has lsA nL (am_lv ad ls) := by
  refine ⟨h.1, h.2.2.1, fun q hq => ?_⟩
  obtain ⟨v, h1, h2⟩ := am_lv_mem.mp hq
  rw [h2]
  exact (h.2.2.2 q.1 v h1).1
theorem am_nth_lt {α : Type} {l : List α} {n : Nat} {a : α} (h : am_nth l n = some a) : n < l.length := by
  rw [am_nth_eq] at h
  exact (List.getElem?_eq_some_iff.mp h).1
theorem am_LR.set {rs : List (Nat × Nat)} {ad : Nat → Nat → Nat} {nL : Nat} {lsA lsB : Array Slot} {ls : am_L} (h : am_LR rs ad nL lsA ls) {j : Nat} {v : am_V} (hv : am_vl rs v) (hj : j < nL)
    (hB : lv_has lsB nL ((j, am_tr ad v) :: (am_lv ad ls).filter (fun q => !(q.1 == j) && !(q.1 + 1 == j && q.2.category == 2)))) : am_LR rs ad nL lsB (ls.set j (some v)) := by
  refine ⟨hB.1, by rw [List.length_set]; exact h.2.1, hB.2.1, fun k w hk => ?_⟩
  rw [am_nth_eq, List.getElem?_set] at hk
  by_cases e : j = k
  · subst e
    rw [if_pos rfl] at hk
    split at hk
    · cases hk
      exact ⟨hB.2.2 (j, am_tr ad v) List.mem_cons_self, hv⟩
    · cases hk
  · rw [if_neg e, ← am_nth_eq] at hk
    have hw := (h.2.2.2 k w hk).2
    refine ⟨hB.2.2 (k, am_tr ad w) (List.mem_cons_of_mem _ (List.mem_filter.mpr ⟨am_lv_mem.mpr ⟨w, hk, rfl⟩, ?_⟩)), hw⟩
    have hc := am_cat (ad := ad) hw
    simp [hc, Ne.symm e]
theorem am_mem_at {rs : List (Nat × Nat)} {r : Nat × Nat} (h : r ∈ rs) : ∃ q : Nat, rs[q]? = some r := List.getElem?_of_mem h
theorem am_rsok_nd {rs : List (Nat × Nat)} (h : am_rsok rs = true) : rs.Nodup := by
  unfold am_rsok at h
  rw [Bool.and_eq_true] at h
  exact of_decide_eq_true h.1
theorem am_vin {j : Int32} {n : Nat} (h : am_in j n = true) : vp_in j n := by
  unfold am_in at h
  rw [Bool.and_eq_true] at h
  exact vp_in_iff.mpr ⟨of_decide_eq_true h.1, of_decide_eq_true h.2⟩
/-- the fields of an object of a world -/
theorem am_obj_fld {rs : List (Nat × Nat)} (h : am_rsok rs = true) {c i ci k : Nat} {fs : List (Nat × Nat × Nat)} {f : Nat × Nat × Nat} (hr : (c, i) ∈ rs) (hl : am_lay c = some (.inl (ci, fs))) (hf : fs[k]? = some f) :
    (f.1 = 1 → (f.2.1, i) ∈ rs) ∧ (f.1 = 2 → (f.2.1, f.2.2) ∈ rs) ∧ (f.1 = 4 → ((13, 0) : Nat × Nat) ∈ rs) := by
  unfold am_rsok at h
  rw [Bool.and_eq_true] at h
  have h1 := List.all_eq_true.mp h.2 (c, i) hr
  try dsimp only at h1
  rw [hl] at h1
  have h2 := List.all_eq_true.mp h1 f (List.mem_of_getElem? hf)
  obtain ⟨t, a, b⟩ := f
  refine ⟨fun e => ?_, fun e => ?_, fun e => ?_⟩
  · dsimp only at e; subst e; exact of_decide_eq_true h2
  · dsimp only at e; subst e; exact of_decide_eq_true h2
  · dsimp only at e; subst e; exact of_decide_eq_true h2
theorem am_rar_in {rs : List (Nat × Nat)} (h : am_rsok rs = true) {c i n c' o k : Nat} (hr : (c, i) ∈ rs) (hl : am_lay c = some (.inr (.inr (n, c', o)))) (hk : k < n) : (c', o + k) ∈ rs := by
  unfold am_rsok at h
  rw [Bool.and_eq_true] at h
  have h1 := List.all_eq_true.mp h.2 (c, i) hr
  try dsimp only at h1
  rw [hl] at h1
  exact of_decide_eq_true (List.all_eq_true.mp h1 k (List.mem_range.mpr hk))
/-- what the layout says of an object's field -/
theorem am_lay_fld {c ci k : Nat} {fs : List (Nat × Nat × Nat)} {f : Nat × Nat × Nat} (hl : am_lay c = some (.inl (ci, fs))) (hf : fs[k]? = some f) :
    am_tag f.1 (am_ty ci k) = true ∧ (∀ q, am_cs[ci]? = some q → q.2.2 = fs.length) ∧ (f.1 = 1 ∨ f.1 = 2 ∨ ((∀ c1, am_rd c1 f.2.1 = true → c1 = c) ∧ ∀ (j : Nat) (f2 : Nat × Nat × Nat), j ≠ k → fs[j]? = some f2 → (!(f2.1 == 1) && (!(f2.1 == 2) && f2.2.1 == f.2.1)) = false)) := by
  have h := am_layok_t
  unfold am_layok at h
  have h1 := List.all_eq_true.mp h c (List.mem_range.mpr (am_lay_lt hl))
  try dsimp only at h1
  rw [hl] at h1
  try dsimp only at h1
  rw [Bool.and_eq_true] at h1
  obtain ⟨h2, h3⟩ := h1
  have h2 := of_decide_eq_true h2
  have hk : k < fs.length := (List.getElem?_eq_some_iff.mp hf).1
  have h4 := List.all_eq_true.mp h3 k (List.mem_range.mpr hk)
  rw [hf] at h4
  try dsimp only at h4
  rw [Bool.and_eq_true] at h4
  refine ⟨h4.1, fun q hq => ?_, ?_⟩
  · rw [hq] at h2
    exact Option.some.inj h2
  · have h5 := h4.2
    simp only [Bool.or_eq_true, beq_iff_eq, Bool.and_eq_true] at h5
    rcases h5 with (h5 | h5) | ⟨h5, h6⟩
    · exact Or.inl h5
    · exact Or.inr (Or.inl h5)
    · refine Or.inr (Or.inr ⟨fun c1 h1 => am_only_of h5 h1, fun j f2 hj hf2 => ?_⟩)
      have h7 := List.all_eq_true.mp h6 j (List.mem_range.mpr (List.getElem?_eq_some_iff.mp hf2).1)
      rw [hf2] at h7
      simp only [Bool.or_eq_true, beq_iff_eq, Bool.not_eq_true'] at h7
      rcases h7 with h7 | h7 | h7 | h7
      · exact absurd h7 hj
      · simp [h7]
      · simp [h7]
      · simp [h7]
theorem am_lay_arr {c n : Nat} (hl : am_lay c = some (.inr (.inl n))) : ∀ c1, am_rd c1 c = true → c1 = c := by
  have h := am_layok_t
  unfold am_layok at h
  have h1 := List.all_eq_true.mp h c (List.mem_range.mpr (am_lay_lt hl))
  try dsimp only at h1
  rw [hl] at h1
  exact fun c1 h2 => am_only_of h1 h2
/-- an object's cell behind a write of a field -/
theorem am_cell_put {ad : Nat → Nat → Nat} {ca : Nat → ClassId} {g : am_G} {c i ci k : Nat} {fs : List (Nat × Nat × Nat)} {f : Nat × Nat × Nat} {x : Int32} {v : Value} (hl : am_lay c = some (.inl (ci, fs))) (hf : fs[k]? = some f)
    (hv : am_fv ad (am_put g f.2.1 i x) i f = v) (hne : ∀ (j : Nat) (f2 : Nat × Nat × Nat), j ≠ k → fs[j]? = some f2 → (!(f2.1 == 1) && (!(f2.1 == 2) && f2.2.1 == f.2.1)) = false) :
    am_cell ad ca (am_put g f.2.1 i x) c i = .inr (ci, (fs.map (am_fv ad g i)).set k v) := by
  unfold am_cell
  rw [hl]
  show Sum.inr (ci, _) = Sum.inr (ci, _)
  congr 2
  apply List.ext_getElem?
  intro j
  rw [List.getElem?_set, List.getElem?_map, List.getElem?_map, List.length_map]
  by_cases hj : k = j
  · subst hj
    rw [if_pos rfl, if_pos (List.getElem?_eq_some_iff.mp hf).1, hf]
    exact congrArg some hv
  · rw [if_neg hj]
    cases hf2 : fs[j]? with
    | none => rfl
    | some f2 => exact congrArg some (am_fv_ne (Or.inl (hne j f2 (fun e => hj e.symm) hf2)))
