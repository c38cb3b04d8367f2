/-! ===== the step ===== -/
def am_rm (d : Nat) : Room := { frames := d, cells := 0, slots := 0, locals := 38 * d }
def am_Pc (D : va_G) (rs : List (Nat × Nat)) (ad : Nat → Nat → Nat) (ca : Nat → ClassId) (A : Nat → Prop) (tys : List (ClassId × FieldType)) (as : List am_V) (g : am_G) : Array Value → State → Prop :=
  va_Pc (as.map (am_tr ad)) (fun U => va_P D am_cs (am_ws rs ad ca g) U.heap ∧ va_D A (am_ws rs ad ca g) ∧ va_K D am_cs tys U ∧ am_Nx U)
def am_Qc (D : va_G) (rs : List (Nat × Nat)) (ad : Nat → Nat → Nat) (ca : Nat → ClassId) (A : Nat → Prop) (r : Option am_V) (g : am_G) : Array Value → State → Outcome → State → Prop :=
  fun _ st oc t => oc = .returned (r.map (am_tr ad)) ∧ va_P D am_cs (am_ws rs ad ca g) t.heap ∧ va_D A (am_ws rs ad ca g) ∧ va_F A st t
/-- the methods that a call reaches keep to the machine -/
def am_Ct (l : Launch) (D : va_G) (rs : List (Nat × Nat)) (ad : Nat → Nat → Nat) (ca : Nat → ClassId) (tys : List (ClassId × FieldType)) (A : Nat → Prop) (d : Nat) (ct : am_T) : Prop :=
  ∀ (mi : Nat) (as : List am_V) (g : am_G) (r : Option am_V) (g' : am_G), ct mi as g = some (r, g') → (∀ v ∈ as, am_vl rs v) →
    ∃ (y : MethodName) (cc : ByteArray) (maxL : Nat) (ret : Option FieldType) (ps : List Nat), am_nth am_inf mi = some (y, cc, maxL, ret, ps) ∧ am_ckm (y, cc, maxL, ret, ps) = true ∧
      Met l y (Cond.code y cc maxL ret :: am_tb) (am_rm d) (am_Pc D rs ad ca A tys as g) (am_Qc D rs ad ca A r g') 0 0 A
theorem am_Pc_blind {D : va_G} {rs : List (Nat × Nat)} {ad : Nat → Nat → Nat} {ca : Nat → ClassId} {A : Nat → Prop} {tys : List (ClassId × FieldType)} {as : List am_V} {g : am_G} : FrameBlind (am_Pc D rs ad ca A tys as g) := fun a U g mk q => by
  obtain ⟨q1, q2, q3, q4, q5⟩ := q
  exact ⟨q1, q2, q3, va_K.moved (u := U) (U := U.calling g mk a) (Vm.Alike.refl U.vm) q4, fun b i x h hm => va_Nw.same (u := U) (U := U.calling g mk a) rfl rfl (q5 b i x h hm)⟩
theorem am_goodIn {y : MethodName} {cc : ByteArray} {maxL : Nat} {ret : Option FieldType} {p0 : Nat} (h : lw_tbl[p0]? = some (.code y cc maxL ret)) : GoodIn am_tb (Cond.code y cc maxL ret :: am_tb) := by
  intro w hw
  have hm : w ∈ am_tb := by
    rcases List.mem_cons.mp hw with rfl | hw
    · exact am_tb_at h rfl
    · exact hw
  exact ⟨hm, good_of_word (List.mem_filter.mp hm).2⟩
section ST
variable {p : Program} {l : Launch} {e : Env} {R : Room} {s : State} {m : MethodId} {args : Array Value} {below : List Frame} {meth : Method} {c : Code} {cells slots : Nat} {Q : State → Prop}
variable {D : va_G} {rs : List (Nat × Nat)} {ad : Nat → Nat → Nat} {ca : Nat → ClassId} {tys : List (ClassId × FieldType)} {A : Nat → Prop}
def am_Wt (p : Program) (l : Launch) (e : Env) (R : Room) (s : State) (m : MethodId) (args : Array Value) (below : List Frame) (meth : Method) (c : Code) (cells slots : Nat) (Q : State → Prop) (D : va_G) (rs : List (Nat × Nat)) (ad : Nat → Nat → Nat) (ca : Nat → ClassId) (A : Nat → Prop) (nL b : Nat) (ls : am_L) (st : List am_V) (g : am_G) : Prop :=
  ∀ (H : Heap) (locs : List Loc) (lsA : Array Slot), am_Hp D rs ad ca A s.heap g H locs → am_LR rs ad nL lsA ls → (∀ v ∈ st, am_vs rs v) → W p l e R s m args below meth c H locs cells slots Q (F0 m b lsA (st.map (am_tr ad)))
theorem am_back {H : Heap} {locs : List Loc} {pc : Nat} {lsA : Array Slot} {st0 rest : List Value} {v : Option Value} {ws : va_W}
    (hr : va_Run p l e R s m args below meth c H locs cells slots 0 0 (F0 m pc lsA st0) rest (fun st oc t => oc = .returned v ∧ va_P D am_cs ws t.heap ∧ va_D A ws ∧ va_F A st t) A) (hS : va_S A s.heap H locs)
    (kk : ∀ (H1 : Heap) (locs1 : List Loc), va_P D am_cs ws H1 → va_D A ws → va_S A s.heap H1 locs1 → W p l e R s m args below meth c H1 locs1 cells slots Q (F0 m (pc + 3) lsA (v.toList ++ rest))) : W p l e R s m args below meth c H locs cells slots Q (F0 m pc lsA st0) := by
  intro T hT X
  obtain ⟨v2, st₀, t, T', L, h0, X', hL, e1, e2, ⟨hv, hP, hD, hz, hk⟩, st⟩ := hr T hT X
  cases hv
  rw [h0] at hz hk
  obtain ⟨t2, a1, b1⟩ := kk T'.heap (locs ++ L) (by rw [e1]; exact hP) hD ⟨Nat.le_trans hS.1 (by rw [e1]; exact hz), fun q h1 h2 => by rw [e1, hk q (Nat.lt_of_lt_of_le h1 hS.1) h2]; exact hS.2.1 q h1 h2, fun q hq => by
      rcases List.mem_append.mp hq with h | h
      · exact hS.2.2 q h
      · exact hL q h⟩ T' rfl X'
  exact ⟨t2, st t2 a1, b1⟩
theorem am_bk_of {α : Type} {rt : Nat} {o : Option am_R} {rest : List am_V} {k : List am_V → am_G → Option α} {a : α} (h : am_bk rt o rest k = some a) : ∃ r g, o = some (r, g) ∧ (∀ v ∈ r.toList, am_vs rs v) ∧ k (r.toList ++ rest) g = some a := by
  match rt, h with
  | 0, h =>
    match o, h with
    | some (none, g), h => exact ⟨none, g, rfl, fun v hv => (by cases hv), h⟩
    | none, h => cases h
    | some (some _, _), h => cases h
  | rt + 1, h =>
    match o, h with
    | some (some (.inl x), g), h => exact ⟨some (.inl x), g, rfl, fun v hv => by
        rw [Option.toList_some, List.mem_singleton] at hv
        subst hv
        trivial, h⟩
    | none, h => cases h
    | some (none, _), h => cases h
    | some (some (.inr _), _), h => cases h
theorem am_nl_vl {v : am_V} (h : am_vs rs v) (hn : am_nl v = true) : am_vl rs v := by
  match v, h, hn with
  | .inl _, _, _ => trivial
  | .inr (.inr r), h, _ => exact h
theorem am_st_map {st : List am_V} (n : Nat) : st.map (am_tr ad) = (((st.take n).reverse).map (am_tr ad)).reverse ++ (st.drop n).map (am_tr ad) := by
  rw [← List.map_reverse, List.reverse_reverse, ← List.map_append, List.take_append_drop]
theorem am_call_v {α : Type} {cc : ByteArray} {nL d : Nat} {own : String} {ct : am_T} (fx : CallFix p m c cc nL s args am_tb own) (kx : am_Kx D rs ca tys s) (hR : d + 1 ≤ R.frames ∧ 38 * d + 38 ≤ R.locals) (hcs : cells ≤ R.cells ∧ slots ≤ R.slots) (hct : am_Ct l D rs ad ca tys A d ct)
    {b idx : Nat} {aux : List Nat} {ls : am_L} {st : List am_V} {g : am_G} {K : List am_V → am_G → Option α} {a : α} (ck : am_ckv am_inf own idx aux = true) (hd : decode cc b = .ok (.invokevirtual idx, 3)) (h : am_cl am_lay ct aux st g K = some a)
    (hK : ∀ st' g', K st' g' = some a → am_Wt p l e R s m args below meth c cells slots Q D rs ad ca A nL (b + 3) ls st' g') : am_Wt p l e R s m args below meth c cells slots Q D rs ad ca A nL b ls st g := by
  match aux, ck, h with
  | mi :: (n + 1) :: rt :: (ci + 1) :: pl :: _, ck, h =>
    unfold am_cl at h
    obtain ⟨hb1, h⟩ := am_bif h
    obtain ⟨c0, i0, r, hst, h⟩ := am_r1_of h
    obtain ⟨fs, hl, h⟩ := am_obj_of h
    obtain ⟨rv, g', ho, hrv, h⟩ := am_bk_of (rs := rs) h
    simp only [Bool.and_eq_true, decide_eq_true_eq] at hb1
    intro H locs lsA hH hL hv
    have hmem : ∀ v ∈ st.take n, am_vl rs v := fun v hv2 => am_nl_vl (hv v (List.mem_of_mem_take hv2)) (List.all_eq_true.mp hb1.2 v hv2)
    have hthis : (c0, i0) ∈ rs := hv (.inr (.inr (c0, i0))) (List.mem_of_mem_drop (i := n) (by rw [hst]; exact List.mem_cons_self))
    have hr : ∀ v ∈ r, am_vs rs v := fun v hv2 => hv v (List.mem_of_mem_drop (i := n) (by rw [hst]; exact List.mem_cons_of_mem _ hv2))
    obtain ⟨y, cy, maxL, ret, ps, hi, hm, hM⟩ := hct _ _ _ _ _ ho (fun v hv2 => by
      rcases List.mem_cons.mp hv2 with rfl | hv2
      · exact hthis
      · exact hmem v (List.mem_reverse.mp hv2))
    unfold am_ckv at ck
    dsimp only at ck
    rw [hi] at ck
    simp only [Bool.and_eq_true, decide_eq_true_eq] at ck
    obtain ⟨ck1, ck2, ck3, ck4, ck5⟩ := ck
    match ps, ck5, hm with
    | [p0, p1, p2, p3], _, hm =>
      unfold am_ckm at hm
      simp only [Bool.and_eq_true, decide_eq_true_eq] at hm
      obtain ⟨m0, m1, m2, m3, m4, m5, m6, m7⟩ := hm
      obtain ⟨hx, hb, hml, hown, hts⟩ := id fx
      have hw : ∀ {i : Nat} {w : Cond}, lw_tbl[i]? = some w → goodWord w = true → w.before args s = true := fun h hg => hts _ (am_tb_at h hg)
      obtain ⟨q0, hq0⟩ := am_mem_at hthis
      have he : (am_ws rs ad ca g)[q0]? = some (ad c0 i0, .inr (ci, fs.map (am_fv ad g i0))) := by
        rw [am_ws_at hq0]
        unfold am_cell
        rw [hl]
      cases hci : am_cs[ci]? with
      | none => rw [hci] at ck4; cases ck4
      | some q =>
        rw [hci] at ck4
        have ck4 : q.1 = y.cls := Option.some.inj ck4
        have hrecv := va_recv kx.2.1 hH.1 hci he
        rw [ck4] at hrecv
        have hlen : (((st.take n).reverse).map (am_tr ad)).length = n := by
          rw [List.length_map, List.length_reverse, List.length_take]
          have := congrArg List.length hst
          rw [List.length_drop, List.length_cons] at this
          omega
        have hrl : r.length ≤ 4 := by
          have := congrArg List.length hst
          rw [List.length_cons] at this
          omega
        have hrun := va_runV (H := H) (locs := locs) (e := e) (below := below) (meth := meth) (cells := cells) (slots := slots) (b := ad c0 i0) (As := ((st.take n).reverse).map (am_tr ad)) (rest := r.map (am_tr ad)) (g := F0 m b lsA (st.map (am_tr ad))) (n := n) fx hM
          ⟨callB_of (R := R) (own := own) (index := idx) n hts (am_goodIn m0) rfl rfl rfl (hw m3 rfl) (hw ck1 rfl) ⟨m6, m7, ck2⟩ ⟨hR.1, by show 8 + (maxL + 11) + 38 * d ≤ R.locals; omega⟩, hw m1 rfl, hw m2 rfl⟩
          ⟨am_Pc_blind, hrecv, fun U hU hW => ⟨by rw [List.map_cons]; rfl, by rw [hU]; exact hH.1, hH.2.1, va_K.moved hW.alike kx.2.1, kx.2.2.2.warm hW⟩⟩
          rfl hlen hL.1 (by show st.map (am_tr ad) = _; rw [am_st_map n, hst]; rfl) (lv_room (Nat.le_trans (am_cats r) (by omega))) hd ⟨hcs.1, hcs.2⟩
        refine am_back hrun hH.2.2 (fun H1 locs1 hP1 hD1 hS1 => ?_)
        have k1 := hK _ _ h H1 locs1 lsA ⟨hP1, hD1, hS1⟩ hL (fun v hv2 => by
          rcases List.mem_append.mp hv2 with hv2 | hv2
          · exact hrv v hv2
          · exact hr v hv2)
        rw [List.map_append] at k1
        cases rv with
        | none => exact k1
        | some w => exact k1
  | [], ck, _ => cases ck
  | [_], ck, _ => cases ck
  | [_, _], ck, _ => unfold am_ckv at ck; simp at ck
  | [_, _, _], ck, _ => unfold am_ckv at ck; simp at ck
  | [_, _, _, _], ck, _ => unfold am_ckv at ck; simp at ck
  | _ :: 0 :: _ :: _ :: _ :: _, ck, _ => unfold am_ckv at ck; simp at ck
  | _ :: (_ + 1) :: _ :: 0 :: _ :: _, ck, _ => unfold am_ckv at ck; simp at ck
end ST
