/-! ===== rows of rows: new int[24][24] ===== -/
/-- the classes of int[], of Forest[], of int[][] -/
abbrev ct_K3 : Type := ClassId × ClassId × ClassId
def ct_MO (k : ct_K3) (U : State) : Prop := ∃ (kA kI : Class) (cz : ClassId), U.vm.classes[k.2.2]? = some kA ∧ kA.kind = .array k.1 (.array .int) ∧ U.vm.findClass "[[I" = some k.2.2 ∧ U.vm.classes[k.1]? = some kI ∧ kI.kind = .array cz .int
theorem ct_MO.moved {k : ct_K3} {u U : State} (hvm : u.vm.Alike U.vm) (h : ct_MO k u) : ct_MO k U := by
  obtain ⟨kA, kI, cz, h1, h2, h3, h4, h5⟩ := h
  obtain ⟨k1, a1, a2⟩ := hvm.2.2 _ _ h1
  obtain ⟨k2, b1, b2⟩ := hvm.2.2 _ _ h4
  exact ⟨k1, k2, cz, a1, by rw [a2]; exact h2, by rw [hvm.findClass]; exact h3, b1, by rw [b2]; exact h5⟩
/-- the outer row, when i of its rows are there -/
def mn_row (h i : Nat) : Nat → Value := fun j => va_rf (if j < i then some (h + 1 + j) else none)
def mn_st (T : State) (cA cI : ClassId) (N M : Nat) : Nat → State
  | 0 => T.pushCell (arrV cA N (mn_row T.heap.size 0))
  | i + 1 => ((mn_st T cA cI N M i).pushCell (arrV cI M (fun _ => .int 0))).setCell T.heap.size (arrV cA N (mn_row T.heap.size (i + 1)))
theorem mn_row_up (h i : Nat) : updV (mn_row h i) i (.ref (h + 1 + i)) = mn_row h (i + 1) := by
  funext j
  unfold updV mn_row
  by_cases e : j = i
  · subst e
    rw [if_pos rfl, if_pos (Nat.lt_succ_self j)]
    rfl
  · rw [if_neg e]
    by_cases hj : j < i
    · rw [if_pos hj, if_pos (by omega)]
    · rw [if_neg hj, if_neg (by omega)]
theorem mn_facts (T : State) (cA cI : ClassId) (N M : Nat) : ∀ i, (mn_st T cA cI N M i).heap.size = T.heap.size + 1 + i ∧ (mn_st T cA cI N M i).heap[T.heap.size]? = some (arrV cA N (mn_row T.heap.size i)) ∧ (mn_st T cA cI N M i).vm = T.vm ∧ (mn_st T cA cI N M i).slotsUsed = T.slotsUsed + N + i * M ∧
    (∀ a, a < T.heap.size → (mn_st T cA cI N M i).heap[a]? = T.heap[a]?) ∧ ∀ j, j < i → (mn_st T cA cI N M i).heap[T.heap.size + 1 + j]? = some (arrV cI M (fun _ => .int 0))
  | 0 => by
    refine ⟨by simp [mn_st], by simp [mn_st], rfl, ?_, fun a ha => State.heap_pushCell_of_lt _ _ ha, fun j hj => absurd hj (Nat.not_lt_zero _)⟩
    show (T.pushCell (arrV cA N (mn_row T.heap.size 0))).slotsUsed = _
    have := arrV_size cA N (mn_row T.heap.size 0)
    simp [this]
  | i + 1 => by
    obtain ⟨a1, a2, a3, a4, a5, a6⟩ := mn_facts T cA cI N M i
    have hlt : T.heap.size < (mn_st T cA cI N M i).heap.size := by omega
    have hc : ((mn_st T cA cI N M i).pushCell (arrV cI M (fun _ => .int 0))).heap[T.heap.size]? = some (arrV cA N (mn_row T.heap.size i)) := by rw [State.heap_pushCell_of_lt (h := hlt)]; exact a2
    refine ⟨?_, State.heap_setCell_self hc, ?_, ?_, fun a ha => ?_, fun j hj => ?_⟩
    · simp [mn_st, State.setCell, a1]
      omega
    · simp [mn_st, a3]
    · have := arrV_size cI M (fun _ => Value.int 0)
      simp [mn_st, a4, this, Nat.succ_mul]
      omega
    · show (((mn_st T cA cI N M i).pushCell (arrV cI M (fun _ => .int 0))).setCell T.heap.size _).heap[a]? = _
      have hlt2 : a < (mn_st T cA cI N M i).heap.size := by omega
      rw [State.heap_setCell_other (Nat.ne_of_gt ha), State.heap_pushCell_of_lt (h := hlt2)]
      exact a5 a ha
    · show (((mn_st T cA cI N M i).pushCell (arrV cI M (fun _ => .int 0))).setCell T.heap.size _).heap[T.heap.size + 1 + j]? = _
      rw [State.heap_setCell_other (show T.heap.size ≠ T.heap.size + 1 + j by omega)]
      rcases Nat.lt_or_ge j i with h | h
      · have hlt2 : T.heap.size + 1 + j < (mn_st T cA cI N M i).heap.size := by omega
        rw [State.heap_pushCell_of_lt (h := hlt2)]
        exact a6 j h
      · have e : j = i := by omega
        subst e
        rw [← a1]
        exact State.heap_pushCell_size _ _
theorem mn_top (T : State) (f : JFrame) (cA cI : ClassId) (N M : Nat) : ∀ i, mn_st (T.setTop f) cA cI N M i = (mn_st T cA cI N M i).setTop f
  | 0 => rfl
  | i + 1 => by simp only [mn_st, mn_top T f cA cI N M i, State.heap_setTop, State.pushCell_setTop, State.setCell_setTop]
section MN
variable {E : CtlPost} {e : Env} {d : Bool} {acts : List Action} {s : State}
theorem mn_newArray {c comp : ClassId} {k : Class} {type : FieldType} {len : Nat} {init : Value} (hk : s.vm.classes[c]? = some k) (hkind : k.kind = .array comp type)
    (hlimit : ¬ len > e.platform.arrayLengthLimit) (hheap : ¬ len * componentBytes type > e.platform.maxHeapBytes) (hfit : fits type init = true) (hdef : init.isDefault = true) {Q : Addr → Pre}
    (h1 : s.heap.size < e.platform.maxCells) (h2 : s.slotsUsed + len ≤ e.platform.maxSlots) (hq : Q s.heap.size d acts (s.pushCell (arrV c len (fun _ => init)))) : wp (Jvm.newArray c len init) Q E e d acts s := by
  rw [← arrV_new] at hq
  have hfits : ∀ i v, (Array.replicate len init)[i]? = some v → s.fitsSlot c .none i v = true := by
    intro i v hv
    rw [Array.getElem?_replicate] at hv
    by_cases hi : i < len
    · rw [if_pos hi] at hv
      cases hv
      simp [State.fitsSlot, State.slotType?, hk, hkind, hfit]
    · rw [if_neg hi] at hv
      cases hv
  have hda : allocActs (Array.replicate len init) s.heap.size acts = acts := by
    unfold allocActs
    refine if_pos ?_
    rw [Array.all_replicate]
    split <;> simp [hdef]
  simp only [Jvm.newArray, Jvm.arrayFits, wp_bind', W.ask, W.ite, hlimit, if_false, wp_pure', W.theClass, hk, hkind, hheap, W.alloc, W.stop, Option.some.injEq, exists_eq_left', Array.size_replicate, hda]
  rw [if_neg (by omega)]
  exact ⟨h1, h2, hfits, hq⟩
theorem mn_make {cA cI cz : ClassId} {kA kI : Class} (hA : s.vm.classes[cA]? = some kA) (hAk : kA.kind = .array cI (.array .int)) (hI : s.vm.classes[cI]? = some kI) (hIk : kI.kind = .array cz .int) (hl : ¬ 24 > e.platform.arrayLengthLimit) (hh : ¬ 24 * 4 > e.platform.maxHeapBytes)
    (hc : s.heap.size + 25 ≤ e.platform.maxCells) (hs : s.slotsUsed + 600 ≤ e.platform.maxSlots) {Q : Addr → Pre} (hq : ∀ d' acts', Q s.heap.size d' acts' (mn_st s cA cI 24 24 24)) : wp (multianewarray.make cA [24, 24]) Q E e d acts s := by
  have c24 : (24 : Int32).toNatClampNeg = 24 := by decide
  have hn : ¬ (24 : Int32) < 0 := by decide
  have hfind : ([(24 : Int32)].find? (· < 0)) = none := by decide
  have e0 : mn_row s.heap.size 0 = fun _ => Value.null := by
    funext j
    unfold mn_row
    rw [if_neg (Nat.not_lt_zero j)]
    rfl
  rw [multianewarray.make]
  simp only [wp_bind', W.ite, hn, if_false, wp_pure', W.theClass, hA, hAk, Option.some.injEq, exists_eq_left', c24]
  refine mn_newArray hA hAk hl hh rfl rfl (by omega) (by omega) ?_
  simp only [hfind]
  rw [ite_self, wp_bind', Std.Legacy.Range.forIn_eq_forIn_range']
  have hsz : ([:24] : Std.Legacy.Range).size = 24 := by decide
  rw [hsz]
  show wp (forIn (List.range' 0 24 1) PUnit.unit _) _ E e d acts _
  refine wp_forIn_inv (fun rest s' => ∃ i, i ≤ 24 ∧ rest = List.range' i (24 - i) ∧ s' = mn_st s cA cI 24 24 i) _ _ ⟨0, Nat.zero_le _, rfl, by rw [mn_st, e0]⟩ ?_ ?_
  · rintro x rest s' d' acts' Q' ⟨i, hi, hr, rfl⟩ hnext
    have hlt : i < 24 := by
      rcases Nat.lt_or_ge i 24 with h | h
      · exact h
      · rw [show 24 - i = 0 by omega] at hr
        simp at hr
    rw [show 24 - i = (24 - (i + 1)) + 1 by omega, List.range'_succ] at hr
    obtain ⟨rfl, hrest⟩ := List.cons.inj hr
    obtain ⟨f1, f2, f3, f4, -, -⟩ := mn_facts s cA cI 24 24 x
    simp only [wp_bind']
    rw [multianewarray.make]
    simp only [wp_bind', W.ite, hn, if_false, wp_pure', W.theClass, f3, hI, hIk, Option.some.injEq, exists_eq_left', c24]
    refine mn_newArray (by rw [f3]; exact hI) hIk hl hh rfl rfl (by omega) (by omega) ?_
    have hlt0 : s.heap.size < (mn_st s cA cI 24 24 x).heap.size := by omega
    simp only [wp_bind', W.writeLoc, wp_pure']
    refine ⟨arrV cA 24 (mn_row s.heap.size x), by rw [State.heap_pushCell_of_lt (h := hlt0)]; exact f2, by simp [arrV], by rw [arrV_size]; exact hlt, ?_, hnext _ _ _ ⟨x + 1, hlt, hrest, ?_⟩⟩
    · simp [arrV, State.fitsSlot, State.slotType?, f3, hA, hAk]
      rfl
    · rw [f1, arrV_store, mn_row_up]
      rfl
  · rintro s' d' acts' ⟨i, hi, hr, rfl⟩
    have hi : i = 24 := by
      rcases Nat.lt_or_ge i 24 with h | h
      · rw [show 24 - i = (24 - (i + 1)) + 1 by omega, List.range'_succ] at hr
        cases hr
      · omega
    subst hi
    simp only [wp_pure']
    exact hq _ _
end MN
section MW
variable {p : Program} {l : Launch} {e : Env} {R : Room} {s : State} {m : MethodId} {args : Array Value} {below : List Frame} {meth : Method} {c : Code} {T : State} {H : Heap} {locs : List Loc} {cells slots : Nat} {Q : State → Prop}
theorem mn_stand (X : Stand p l e R s m args below meth c T locs cells slots) (cA cI : ClassId) (N M : Nat) : ∀ i, Stand p l e R s m args below meth c (mn_st T cA cI N M i) (locs ++ (List.range i).map (fun j => (⟨T.heap.size, j⟩ : Loc))) (cells + 1 + i) (slots + N + i * M)
  | 0 => by
    have h := X.pushed (arrV cA N (mn_row T.heap.size 0))
    rw [arrV_size] at h
    simpa [mn_st] using h
  | i + 1 => by
    have Xi := mn_stand X cA cI N M i
    obtain ⟨f1, f2, -, -, -, -⟩ := mn_facts T cA cI N M i
    have hlt : T.heap.size < (mn_st T cA cI N M i).heap.size := by omega
    have hc : ((mn_st T cA cI N M i).pushCell (arrV cI M (fun _ => .int 0))).heap[T.heap.size]? = some (arrV cA N (mn_row T.heap.size i)) := by rw [State.heap_pushCell_of_lt (h := hlt)]; exact f2
    have h := (Xi.pushed (arrV cI M (fun _ => .int 0))).stored hc i (.ref (T.heap.size + 1 + i))
    rw [arrV_size, arrV_store, mn_row_up] at h
    have e2 : (locs ++ (List.range (i + 1)).map fun j => (⟨T.heap.size, j⟩ : Loc)) = (locs ++ (List.range i).map fun j => (⟨T.heap.size, j⟩ : Loc)) ++ [⟨T.heap.size, i⟩] := by simp [List.range_succ, List.append_assoc]
    have e3 : slots + N + (i + 1) * M = slots + N + i * M + M := by rw [Nat.succ_mul]; omega
    rw [e2, e3]
    exact h
theorem mn_W {cc : ByteArray} {pc : Nat} {ls : Array Slot} {rest : List Value} {own : String} {idx : Nat} {k : ct_K3} (hexec : p.tables.exec = Jvm.exec) (hb : c.code = cc) (hown : s.vm.findClass own = some m.cls) (hclink : (Cond.classLink own idx "[[I").before args s = true) (hmo : ct_MO k s) (hdg : decode cc pc = .ok (.multianewarray idx 2, 4)) (hcells : cells + 25 ≤ R.cells) (hslots : slots + 600 ≤ R.slots)
    (kk : ∀ (H1 : Heap) (locs1 : List Loc), H1.size = H.size + 25 → H1[H.size]? = some (arrV k.2.2 24 (mn_row H.size 24)) → (∀ a, a < H.size → H1[a]? = H[a]?) → (∀ j, j < 24 → H1[H.size + 1 + j]? = some (arrV k.1 24 (fun _ => .int 0))) → (∀ z ∈ locs1, z ∈ locs ∨ z.base = H.size) →
      W p l e R s m args below meth c H1 locs1 (cells + 25) (slots + 600) Q (F0 m (pc + 4) ls (.ref H.size :: rest))) : W p l e R s m args below meth c H locs cells slots Q (F0 m pc ls (.int 24 :: .int 24 :: rest)) := by
  intro T hT X
  subst hT; subst hb
  have hpl : e.platform.magicAccessors = ({} : Platform).magicAccessors := by rw [X.admits.platform]
  obtain ⟨kA, kI, cz, h1, h2, h3, h4, h5⟩ := hmo
  obtain ⟨c0, hfc0, hcl⟩ := Cond.classLink_spec hown hclink e.platform hpl
  have ec : c0 = k.2.2 := Option.some.inj (hfc0.symm.trans h3)
  subst ec
  obtain ⟨hg₁, hwarm₁, hready₁⟩ := State.classEntry (e := e) X.warmed hcl
  generalize T.vm.noted m.cls idx (.cls k.2.2) = vm₁ at hg₁ hwarm₁ hready₁
  obtain ⟨kA₁, a1, a2⟩ := hwarm₁.alike.2.2 _ _ h1
  obtain ⟨kI₁, b1, b2⟩ := hwarm₁.alike.2.2 _ _ h4
  have a3 : kA₁.kind = .array k.1 (.array .int) := by rw [a2]; exact h2
  have b3 : kI₁.kind = .array cz .int := by rw [b2]; exact h5
  have X₁ := X.noted hwarm₁
  obtain ⟨hr1, hr2⟩ := X.roomAbove hcells hslots
  have XF := mn_stand X₁ k.2.2 k.1 24 24 24
  obtain ⟨f1, f2, f3, f4, f5, f6⟩ := mn_facts (T.setVm vm₁) k.2.2 k.1 24 24 24
  have hl : ¬ 24 > e.platform.arrayLengthLimit := by rw [Launch.admits_arrayLengthLimit X.admits]; omega
  have hh : ¬ 24 * 4 > e.platform.maxHeapBytes := by rw [Launch.admits_maxHeapBytes X.admits]; omega
  obtain ⟨t, w1, w2⟩ := kk (mn_st (T.setVm vm₁) k.2.2 k.1 24 24 24).heap _ f1 f2 f5 f6 (fun z hz => by
    rcases List.mem_append.mp hz with h | h
    · exact Or.inl h
    · obtain ⟨j, -, rfl⟩ := List.mem_map.mp h
      exact Or.inr rfl) _ rfl XF
  refine ⟨t, ?_, w2⟩
  jvm_step X.here [hexec, hdg]
  simp only [multianewarray.sem, wp_bind', W.resolveClassAt_links (State.method?_setTop (F0 m pc ls (.int 24 :: .int 24 :: rest)) X.here.top) hg₁]
  rw [W.popN, if_neg (by decide)]
  refine ⟨F0 m pc ls (.int 24 :: .int 24 :: rest), State.topJava?_setTop' (s := T.setVm vm₁) _ X.here.top, [.int 24, .int 24], rest, rfl, rfl, ?_⟩
  simp only [List.mapM_cons, List.mapM_nil, wp_bind', wp_pure']
  refine mn_make (kA := kA₁) (kI := kI₁) (cA := k.2.2) (cI := k.1) (cz := cz) a1 a3 b1 b3 hl hh (by show T.heap.size + 25 ≤ _; omega) (by show T.slotsUsed + 600 ≤ _; omega) (fun d' acts' => ?_)
  have eS : ((T.setTop (F0 m pc ls (.int 24 :: .int 24 :: rest))).setVm vm₁).setTop { F0 m pc ls (.int 24 :: .int 24 :: rest) with stack := rest } = (T.setVm vm₁).setTop { F0 m pc ls (.int 24 :: .int 24 :: rest) with stack := rest } := by
    show ((T.setVm vm₁).setTop _).setTop _ = _
    rw [State.setTop_setTop]
  rw [eS, mn_top]
  simp only [wp_bind', W.mark, W.pushRef, State.topJava?_setTop' _ XF.here.top, Option.some.injEq, exists_eq_left', State.setTop_setTop, State.heap_setTop]
  intro acts
  simp [jvm, XF.here.top]
  exact w1
end MW
