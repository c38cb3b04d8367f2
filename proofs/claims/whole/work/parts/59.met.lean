/-! ===== the machine's run is the JVM's ===== -/
section ST
variable {p : Program} {l : Launch} {e : Env} {R : Room} {s : State} {m : MethodId} {args : Array Value} {below : List Frame} {meth : Method} {c : Code} {cells slots : Nat} {Q : State → Prop}
variable {D : va_G} {rs : List (Nat × Nat)} {ad : Nat → Nat → Nat} {ca : Nat → ClassId} {tys : List (ClassId × FieldType)} {A : Nat → Prop}
variable {α : Type} {cc : ByteArray} {nL d : Nat} {own : String} {ct : am_T}
/-- where a method answers -/
def am_rdc (cc : ByteArray) (rt : Option FieldType) (b : Nat) (v : Option am_V) : Prop := match v with
  | none => rt = none ∧ decode cc b = .ok (.return_, 1)
  | some (.inl x) => decode cc b = .ok (.ireturn, 1) ∧ (rt = some .int ∨ (rt = some .boolean ∧ am_01 x = true))
  | some (.inr _) => False
theorem am_nx {code : List am_E} {len pc b n : Nat} (h : (decide (len = n) && decide (am_bp code (pc + 1) = b + n)) = true) : len = n ∧ am_bp code (pc + 1) = b + n := by
  simpa using h
theorem am_vin_lt {j : Int32} {n : Nat} (h : am_in j n = true) : j.toNatClampNeg < n := Nat.not_le.mp fun q => am_vin h (Or.inr q)
set_option maxHeartbeats 4000000 in
theorem am_step_ok {rt : Option FieldType} (fx : CallFix p m c cc nL s args am_tb own) (kx : am_Kx D rs ca tys s) (hR : d + 1 ≤ R.frames ∧ 38 * d + 38 ≤ R.locals) (hcs : cells ≤ R.cells ∧ slots ≤ R.slots) (hct : am_Ct l D rs ad ca tys A d ct)
    {code : List am_E} {pc b len : Nat} {ins : Instr} {aux : List Nat} {cst : Int32} {sw : List (Int32 × Nat)} {ls : am_L} {st : List am_V} {g : am_G} {K : Nat → am_L → List am_V → am_G → Option α} {ret : Option am_V → am_G → Option α} {a : α}
    (hd : decode cc b = .ok (ins, len)) (ck : am_cki am_inf code own rt pc b ins aux cst sw (fun n => decide (len = n) && decide (am_bp code (pc + 1) = b + n)) len = true)
    (hK : ∀ pc' ls' st' g', K pc' ls' st' g' = some a → am_Wt p l e R s m args below meth c cells slots Q D rs ad ca A nL (am_bp code pc') ls' st' g')
    (hret : ∀ v g', ret v g' = some a → ∀ (b : Nat) (H : Heap) (locs : List Loc) (lsA : Array Slot), am_rdc cc rt b v → am_Hp D rs ad ca A s.heap g' H locs → W p l e R s m args below meth c H locs cells slots Q (F0 m b lsA (v.toList.map (am_tr ad))))
    (h : am_step am_lay ct ins aux cst sw pc ls st g K ret = some a) : am_Wt p l e R s m args below meth c cells slots Q D rs ad ca A nL b ls st g := by
  obtain ⟨hx, hb, hml, hown, hts⟩ := id fx
  have hw : ∀ {i : Nat} {w : Cond}, lw_tbl[i]? = some w → goodWord w = true → w.before args s = true := fun h hg => hts _ (am_tb_at h hg)
  cases ins
  case iconst n =>
    obtain ⟨c1, c2⟩ := (Bool.and_eq_true _ _).mp ck
    obtain ⟨rfl, nx⟩ := am_nx c2
    intro H locs lsA hH hL hv
    refine lv_iconst hx hb hd (of_decide_eq_true c1) ?_
    rw [← nx]
    exact hK _ _ _ _ h H locs lsA hH hL (am_cons trivial hv)
  case bipush n =>
    obtain ⟨c1, c2⟩ := (Bool.and_eq_true _ _).mp ck
    obtain ⟨rfl, nx⟩ := am_nx c2
    intro H locs lsA hH hL hv
    refine lv_bipush hx hb hd (of_decide_eq_true c1) ?_
    rw [← nx]
    exact hK _ _ _ _ h H locs lsA hH hL (am_cons trivial hv)
  case sipush n =>
    obtain ⟨c1, c2⟩ := (Bool.and_eq_true _ _).mp ck
    obtain ⟨rfl, nx⟩ := am_nx c2
    intro H locs lsA hH hL hv
    refine lv_sipush hx hb hd (of_decide_eq_true c1) ?_
    rw [← nx]
    exact hK _ _ _ _ h H locs lsA hH hL (am_cons trivial hv)
  case ldc idx =>
    match aux, ck, h with
    | [], _, h => cases h
    | pl :: _, ck, h =>
      obtain ⟨c1, c2⟩ := (Bool.and_eq_true _ _).mp ck
      obtain ⟨rfl, nx⟩ := am_nx c2
      intro H locs lsA hH hL hv
      refine lv_ldc hx hb hown (hw (of_decide_eq_true c1) rfl) hd ?_
      rw [← nx]
      exact hK _ _ _ _ h H locs lsA hH hL (am_cons trivial hv)
  case ldc2_w idx =>
    match aux, ck with
    | [], ck => cases ck
    | pl :: _, ck =>
      obtain ⟨c1, c2⟩ := (Bool.and_eq_true _ _).mp ck
      obtain ⟨rfl, nx⟩ := am_nx c2
      intro H locs lsA hH hL hv
      refine lv_ldc2 hx hb hown (hw (of_decide_eq_true c1) rfl) hd ?_
      rw [← nx]
      exact hK _ _ _ _ h H locs lsA hH hL (am_cons trivial hv)
  case iload_n j =>
    obtain ⟨rfl, nx⟩ := am_nx ck
    obtain ⟨x, h1, h⟩ := am_ldi_of h
    intro H locs lsA hH hL hv
    refine lv_iload_n hx hb hd rfl (hL.2.2.2 _ _ h1).1 ?_
    rw [← nx]
    exact hK _ _ _ _ h H locs lsA hH hL (am_cons trivial hv)
  case iload j =>
    obtain ⟨rfl, nx⟩ := am_nx ck
    obtain ⟨x, h1, h⟩ := am_ldi_of h
    intro H locs lsA hH hL hv
    refine lv_iload hx hb hd (hL.2.2.2 _ _ h1).1 ?_
    rw [← nx]
    exact hK _ _ _ _ h H locs lsA hH hL (am_cons trivial hv)
  case aload_n j =>
    obtain ⟨rfl, nx⟩ := am_nx ck
    obtain ⟨c0, i0, h1, h⟩ := am_ldr_of h
    intro H locs lsA hH hL hv
    refine lv_aload_n hx hb hd rfl (hL.2.2.2 _ _ h1).1 ?_
    rw [← nx]
    exact hK _ _ _ _ h H locs lsA hH hL (am_cons (am_vl_vs (hL.2.2.2 _ _ h1).2) hv)
  case aload j =>
    obtain ⟨rfl, nx⟩ := am_nx ck
    obtain ⟨c0, i0, h1, h⟩ := am_ldr_of h
    intro H locs lsA hH hL hv
    refine lv_aload hx hb hd (hL.2.2.2 _ _ h1).1 ?_
    rw [← nx]
    exact hK _ _ _ _ h H locs lsA hH hL (am_cons (am_vl_vs (hL.2.2.2 _ _ h1).2) hv)
  case istore_n j =>
    obtain ⟨rfl, nx⟩ := am_nx ck
    have h9 := am_i1_of h
    clear h
    obtain ⟨x, r, rfl, hq9⟩ := h9
    have h := hq9
    clear hq9
    obtain ⟨h1, h⟩ := am_stl_of h
    intro H locs lsA hH hL hv
    have hj : (j : Nat) < nL := by rw [← hL.2.1]; exact h1
    refine lv_istore_n hx hb hd rfl hL.has hj rfl (fun lsB hB => ?_)
    rw [← nx]
    exact hK _ _ _ _ h H locs lsB hH (hL.set (v := .inl x) trivial hj hB) (am_tl hv)
  case istore j =>
    obtain ⟨rfl, nx⟩ := am_nx ck
    have h9 := am_i1_of h
    clear h
    obtain ⟨x, r, rfl, hq9⟩ := h9
    have h := hq9
    clear hq9
    obtain ⟨h1, h⟩ := am_stl_of h
    intro H locs lsA hH hL hv
    have hj : j < nL := by rw [← hL.2.1]; exact h1
    refine lv_istore hx hb hd hL.has hj rfl (fun lsB hB => ?_)
    rw [← nx]
    exact hK _ _ _ _ h H locs lsB hH (hL.set (v := .inl x) trivial hj hB) (am_tl hv)
  case iinc j n =>
    obtain ⟨c1, c2⟩ := (Bool.and_eq_true _ _).mp ck
    obtain ⟨rfl, nx⟩ := am_nx c2
    obtain ⟨x, h0, h⟩ := am_ldi_of h
    obtain ⟨h1, h⟩ := am_stl_of h
    intro H locs lsA hH hL hv
    have hj : j < nL := by rw [← hL.2.1]; exact h1
    obtain ⟨k, hk⟩ := List.getElem?_of_mem ((am_lv_mem (q := (j, .int x))).mpr ⟨.inl x, h0, rfl⟩)
    refine lv_iinc hx hb hd hL.has hk (v := x + cst) (by rw [of_decide_eq_true c1]) hj rfl (fun lsB hB => ?_)
    rw [← nx]
    exact hK _ _ _ _ h H locs lsB hH (hL.set (v := .inl (x + cst)) trivial hj hB) hv
  case iadd =>
    obtain ⟨rfl, nx⟩ := am_nx ck
    have h9 := am_i2_of h
    clear h
    obtain ⟨x, y, r, rfl, hq9⟩ := h9
    have h := hq9
    clear hq9
    intro H locs lsA hH hL hv
    refine lv_iadd hx hb hd ?_
    rw [← nx]
    exact hK _ _ _ _ h H locs lsA hH hL (am_cons trivial (am_tl (am_tl hv)))
  case isub =>
    obtain ⟨rfl, nx⟩ := am_nx ck
    have h9 := am_i2_of h
    clear h
    obtain ⟨x, y, r, rfl, hq9⟩ := h9
    have h := hq9
    clear hq9
    intro H locs lsA hH hL hv
    refine lv_isub hx hb hd ?_
    rw [← nx]
    exact hK _ _ _ _ h H locs lsA hH hL (am_cons trivial (am_tl (am_tl hv)))
  case imul =>
    obtain ⟨rfl, nx⟩ := am_nx ck
    have h9 := am_i2_of h
    clear h
    obtain ⟨x, y, r, rfl, hq9⟩ := h9
    have h := hq9
    clear hq9
    intro H locs lsA hH hL hv
    refine lv_imul hx hb hd ?_
    rw [← nx]
    exact hK _ _ _ _ h H locs lsA hH hL (am_cons trivial (am_tl (am_tl hv)))
  case ishl =>
    obtain ⟨rfl, nx⟩ := am_nx ck
    have h9 := am_i2_of h
    clear h
    obtain ⟨x, y, r, rfl, hq9⟩ := h9
    have h := hq9
    clear hq9
    intro H locs lsA hH hL hv
    refine lv_ishl hx hb hd ?_
    rw [← nx]
    exact hK _ _ _ _ h H locs lsA hH hL (am_cons trivial (am_tl (am_tl hv)))
  case ishr =>
    obtain ⟨rfl, nx⟩ := am_nx ck
    have h9 := am_i2_of h
    clear h
    obtain ⟨x, y, r, rfl, hq9⟩ := h9
    have h := hq9
    clear hq9
    intro H locs lsA hH hL hv
    refine lv_ishr hx hb hd ?_
    rw [← nx]
    exact hK _ _ _ _ h H locs lsA hH hL (am_cons trivial (am_tl (am_tl hv)))
  case iand =>
    obtain ⟨rfl, nx⟩ := am_nx ck
    have h9 := am_i2_of h
    clear h
    obtain ⟨x, y, r, rfl, hq9⟩ := h9
    have h := hq9
    clear hq9
    intro H locs lsA hH hL hv
    refine lv_iand hx hb hd ?_
    rw [← nx]
    exact hK _ _ _ _ h H locs lsA hH hL (am_cons trivial (am_tl (am_tl hv)))
  case ior =>
    obtain ⟨rfl, nx⟩ := am_nx ck
    have h9 := am_i2_of h
    clear h
    obtain ⟨x, y, r, rfl, hq9⟩ := h9
    have h := hq9
    clear hq9
    intro H locs lsA hH hL hv
    refine lv_ior hx hb hd ?_
    rw [← nx]
    exact hK _ _ _ _ h H locs lsA hH hL (am_cons trivial (am_tl (am_tl hv)))
  case lmul =>
    obtain ⟨rfl, nx⟩ := am_nx ck
    have h9 := am_l2_of h
    clear h
    obtain ⟨x, y, r, rfl, hq9⟩ := h9
    have h := hq9
    clear hq9
    intro H locs lsA hH hL hv
    refine lv_lmul hx hb hd ?_
    rw [← nx]
    exact hK _ _ _ _ h H locs lsA hH hL (am_cons trivial (am_tl (am_tl hv)))
  case ladd =>
    obtain ⟨rfl, nx⟩ := am_nx ck
    have h9 := am_l2_of h
    clear h
    obtain ⟨x, y, r, rfl, hq9⟩ := h9
    have h := hq9
    clear hq9
    intro H locs lsA hH hL hv
    refine lv_ladd hx hb hd ?_
    rw [← nx]
    exact hK _ _ _ _ h H locs lsA hH hL (am_cons trivial (am_tl (am_tl hv)))
  case land =>
    obtain ⟨rfl, nx⟩ := am_nx ck
    have h9 := am_l2_of h
    clear h
    obtain ⟨x, y, r, rfl, hq9⟩ := h9
    have h := hq9
    clear hq9
    intro H locs lsA hH hL hv
    refine lv_land hx hb hd ?_
    rw [← nx]
    exact hK _ _ _ _ h H locs lsA hH hL (am_cons trivial (am_tl (am_tl hv)))
  case ineg =>
    obtain ⟨rfl, nx⟩ := am_nx ck
    have h9 := am_i1_of h
    clear h
    obtain ⟨x, r, rfl, hq9⟩ := h9
    have h := hq9
    clear hq9
    intro H locs lsA hH hL hv
    refine lv_ineg hx hb hd ?_
    rw [← nx]
    exact hK _ _ _ _ h H locs lsA hH hL (am_cons trivial (am_tl hv))
  case irem =>
    obtain ⟨rfl, nx⟩ := am_nx ck
    have h9 := am_i2_of h
    clear h
    obtain ⟨x, y, r, rfl, hq9⟩ := h9
    have h := hq9
    clear hq9
    by_cases h0 : y = 0
    · rw [if_pos h0] at h; cases h
    · rw [if_neg h0] at h
      intro H locs lsA hH hL hv
      refine lv_irem hx hb hd h0 ?_
      rw [← nx]
      exact hK _ _ _ _ h H locs lsA hH hL (am_cons trivial (am_tl (am_tl hv)))
  case ldiv =>
    obtain ⟨rfl, nx⟩ := am_nx ck
    have h9 := am_l2_of h
    clear h
    obtain ⟨x, y, r, rfl, hq9⟩ := h9
    have h := hq9
    clear hq9
    by_cases h0 : y = 0
    · rw [if_pos h0] at h; cases h
    · rw [if_neg h0] at h
      intro H locs lsA hH hL hv
      refine lv_ldiv hx hb hd h0 ?_
      rw [← nx]
      exact hK _ _ _ _ h H locs lsA hH hL (am_cons trivial (am_tl (am_tl hv)))
  case lrem =>
    obtain ⟨rfl, nx⟩ := am_nx ck
    have h9 := am_l2_of h
    clear h
    obtain ⟨x, y, r, rfl, hq9⟩ := h9
    have h := hq9
    clear hq9
    by_cases h0 : y = 0
    · rw [if_pos h0] at h; cases h
    · rw [if_neg h0] at h
      intro H locs lsA hH hL hv
      refine lv_lrem hx hb hd h0 ?_
      rw [← nx]
      exact hK _ _ _ _ h H locs lsA hH hL (am_cons trivial (am_tl (am_tl hv)))
  case i2l =>
    obtain ⟨rfl, nx⟩ := am_nx ck
    have h9 := am_i1_of h
    clear h
    obtain ⟨x, r, rfl, hq9⟩ := h9
    have h := hq9
    clear hq9
    intro H locs lsA hH hL hv
    refine lv_i2l hx hb hd rfl ?_
    rw [← nx]
    exact hK _ _ _ _ h H locs lsA hH hL (am_cons trivial (am_tl hv))
  case l2i =>
    obtain ⟨rfl, nx⟩ := am_nx ck
    have h9 := am_l1_of h
    clear h
    obtain ⟨x, r, rfl, hq9⟩ := h9
    have h := hq9
    clear hq9
    intro H locs lsA hH hL hv
    refine lv_l2i hx hb hd rfl ?_
    rw [← nx]
    exact hK _ _ _ _ h H locs lsA hH hL (am_cons trivial (am_tl hv))
  case dup =>
    obtain ⟨rfl, nx⟩ := am_nx ck
    match st, h with
    | .inl x :: r, h =>
      intro H locs lsA hH hL hv
      refine lv_dup hx hb hd rfl ?_
      rw [← nx]
      exact hK _ _ _ _ h H locs lsA hH hL (am_cons trivial hv)
    | .inr (.inr x) :: r, h =>
      intro H locs lsA hH hL hv
      refine lv_dup hx hb hd rfl ?_
      rw [← nx]
      exact hK _ _ _ _ h H locs lsA hH hL (am_cons (am_hd hv) hv)
    | [], h => cases h
    | .inr (.inl _) :: _, h => cases h
  case dup2 =>
    obtain ⟨rfl, nx⟩ := am_nx ck
    match st, h with
    | .inl y :: .inr (.inr x) :: r, h =>
      intro H locs lsA hH hL hv
      refine lv_dup2_11 hx hb hd rfl rfl ?_
      rw [← nx]
      exact hK _ _ _ _ h H locs lsA hH hL (am_cons trivial (am_cons (am_hd (am_tl hv)) hv))
    | [], h => cases h
    | [.inl _], h => cases h
    | .inr _ :: _, h => cases h
    | .inl _ :: .inl _ :: _, h => cases h
    | .inl _ :: .inr (.inl _) :: _, h => cases h
  case pop =>
    obtain ⟨rfl, nx⟩ := am_nx ck
    have h9 := am_i1_of h
    clear h
    obtain ⟨x, r, rfl, hq9⟩ := h9
    have h := hq9
    clear hq9
    intro H locs lsA hH hL hv
    refine lv_pop hx hb hd rfl ?_
    rw [← nx]
    exact hK _ _ _ _ h H locs lsA hH hL (am_tl hv)
  case goto o =>
    match aux, ck, h with
    | [], ck, _ => cases ck
    | t :: _, ck, h =>
      obtain ⟨c1, c2⟩ := (Bool.and_eq_true _ _).mp ck
      have e := of_decide_eq_true c2
      subst e
      intro H locs lsA hH hL hv
      exact lv_goto hx hb hd (of_decide_eq_true c1) (hK _ _ _ _ h H locs lsA hH hL hv)
  case ifCond q o =>
    match aux, ck, h with
    | [], ck, _ => cases ck
    | t :: _, ck, h =>
      obtain ⟨c1, c2⟩ := (Bool.and_eq_true _ _).mp ck
      obtain ⟨rfl, nx⟩ := am_nx c2
      have h9 := am_i1_of h
      clear h
      obtain ⟨x, r, rfl, hq9⟩ := h9
      have h := hq9
      clear hq9
      intro H locs lsA hH hL hv
      have htl := am_tl hv
      cases q
      case eq =>
        have h : (if x = 0 then K t ls r g else K (pc + 1) ls r g) = some a := h
        exact lv_if_eq hx hb hd (of_decide_eq_true c1) (fun q => hK _ _ _ _ (by rwa [if_pos q] at h) H locs lsA hH hL htl) (fun q => by rw [← nx]; exact hK _ _ _ _ (by rwa [if_neg q] at h) H locs lsA hH hL htl)
      case ne =>
        have h : (if x = 0 then K (pc + 1) ls r g else K t ls r g) = some a := h
        exact lv_if_ne hx hb hd (of_decide_eq_true c1) (fun q => hK _ _ _ _ (by rwa [if_neg q] at h) H locs lsA hH hL htl) (fun q => by rw [← nx]; exact hK _ _ _ _ (by rwa [if_pos q] at h) H locs lsA hH hL htl)
      case lt =>
        have h : (if x < 0 then K t ls r g else K (pc + 1) ls r g) = some a := h
        exact lv_if_lt hx hb hd (of_decide_eq_true c1) (fun q => hK _ _ _ _ (by rwa [if_pos q] at h) H locs lsA hH hL htl) (fun q => by rw [← nx]; exact hK _ _ _ _ (by rwa [if_neg q] at h) H locs lsA hH hL htl)
      case ge =>
        have h : (if 0 ≤ x then K t ls r g else K (pc + 1) ls r g) = some a := h
        exact lv_if_ge hx hb hd (of_decide_eq_true c1) (fun q => hK _ _ _ _ (by rwa [if_pos q] at h) H locs lsA hH hL htl) (fun q => by rw [← nx]; exact hK _ _ _ _ (by rwa [if_neg q] at h) H locs lsA hH hL htl)
      case gt =>
        have h : (if 0 < x then K t ls r g else K (pc + 1) ls r g) = some a := h
        exact lv_if_gt hx hb hd (of_decide_eq_true c1) (fun q => hK _ _ _ _ (by rwa [if_pos q] at h) H locs lsA hH hL htl) (fun q => by rw [← nx]; exact hK _ _ _ _ (by rwa [if_neg q] at h) H locs lsA hH hL htl)
      case le =>
        have h : (if x ≤ 0 then K t ls r g else K (pc + 1) ls r g) = some a := h
        exact lv_if_le hx hb hd (of_decide_eq_true c1) (fun q => hK _ _ _ _ (by rwa [if_pos q] at h) H locs lsA hH hL htl) (fun q => by rw [← nx]; exact hK _ _ _ _ (by rwa [if_neg q] at h) H locs lsA hH hL htl)
  case if_icmp q o =>
    match aux, ck, h with
    | [], ck, _ => cases ck
    | t :: _, ck, h =>
      obtain ⟨c1, c2⟩ := (Bool.and_eq_true _ _).mp ck
      obtain ⟨rfl, nx⟩ := am_nx c2
      have h9 := am_i2_of h
      clear h
      obtain ⟨x, y, r, rfl, hq9⟩ := h9
      have h := hq9
      clear hq9
      intro H locs lsA hH hL hv
      have htl := am_tl (am_tl hv)
      cases q
      case eq =>
        have h : (if x = y then K t ls r g else K (pc + 1) ls r g) = some a := h
        exact lv_icmp_eq hx hb hd (of_decide_eq_true c1) (fun q => hK _ _ _ _ (by rwa [if_pos q] at h) H locs lsA hH hL htl) (fun q => by rw [← nx]; exact hK _ _ _ _ (by rwa [if_neg q] at h) H locs lsA hH hL htl)
      case ne =>
        have h : (if x = y then K (pc + 1) ls r g else K t ls r g) = some a := h
        exact lv_icmp_ne hx hb hd (of_decide_eq_true c1) (fun q => hK _ _ _ _ (by rwa [if_neg q] at h) H locs lsA hH hL htl) (fun q => by rw [← nx]; exact hK _ _ _ _ (by rwa [if_pos q] at h) H locs lsA hH hL htl)
      case lt =>
        have h : (if x < y then K t ls r g else K (pc + 1) ls r g) = some a := h
        exact lv_icmp_lt hx hb hd (of_decide_eq_true c1) (fun q => hK _ _ _ _ (by rwa [if_pos q] at h) H locs lsA hH hL htl) (fun q => by rw [← nx]; exact hK _ _ _ _ (by rwa [if_neg q] at h) H locs lsA hH hL htl)
      case ge =>
        have h : (if y ≤ x then K t ls r g else K (pc + 1) ls r g) = some a := h
        exact lv_icmp_ge hx hb hd (of_decide_eq_true c1) (fun q => hK _ _ _ _ (by rwa [if_pos q] at h) H locs lsA hH hL htl) (fun q => by rw [← nx]; exact hK _ _ _ _ (by rwa [if_neg q] at h) H locs lsA hH hL htl)
      case gt =>
        have h : (if y < x then K t ls r g else K (pc + 1) ls r g) = some a := h
        exact lv_icmp_gt hx hb hd (of_decide_eq_true c1) (fun q => hK _ _ _ _ (by rwa [if_pos q] at h) H locs lsA hH hL htl) (fun q => by rw [← nx]; exact hK _ _ _ _ (by rwa [if_neg q] at h) H locs lsA hH hL htl)
      case le =>
        have h : (if x ≤ y then K t ls r g else K (pc + 1) ls r g) = some a := h
        exact lv_icmp_le hx hb hd (of_decide_eq_true c1) (fun q => hK _ _ _ _ (by rwa [if_pos q] at h) H locs lsA hH hL htl) (fun q => by rw [← nx]; exact hK _ _ _ _ (by rwa [if_neg q] at h) H locs lsA hH hL htl)
  case tableswitch dflt lo hi offs =>
    match aux, ck, h with
    | [], ck, _ => cases ck
    | t :: _, ck, h =>
      obtain ⟨c1, c2⟩ := (Bool.and_eq_true _ _).mp ck
      obtain ⟨c2, c3⟩ := (Bool.and_eq_true _ _).mp c2
      have c1 := of_decide_eq_true c1
      have c2 := of_decide_eq_true c2
      obtain ⟨k1, k2⟩ := am_ckt_of c3
      have h9 := am_i1_of h
      clear h
      obtain ⟨x, r, rfl, hq9⟩ := h9
      have h := hq9
      clear hq9
      intro H locs lsA hH hL hv
      rcases am_sw_of h with ⟨j, t2, h1, -, h3⟩ | ⟨h1, h3⟩
      · obtain ⟨k3, o, k4, k5⟩ := k2 j x t2 h1
        have hj : j < sw.length := (List.getElem?_eq_some_iff.mp h1).1
        refine lv_tableIn hx hb hd (off := o) (tgt := am_bp code t2) (by omega) (by omega) ?_ k5 (hK _ _ _ _ h3 H locs lsA hH hL (am_tl hv))
        rw [k3, show (lo + (j : Int) - lo).toNat = j by omega, ← Array.getElem?_toList]
        exact k4
      · refine lv_tableOut hx hb hd (tgt := am_bp code t) ?_ c1 (hK _ _ _ _ h3 H locs lsA hH hL (am_tl hv))
        by_cases h5 : x.toInt < lo ∨ hi < x.toInt
        · exact h5
        · exfalso
          have hjlt : (x.toInt - lo).toNat < sw.length := by omega
          obtain ⟨⟨v, t2⟩, hv2⟩ : ∃ q, sw[(x.toInt - lo).toNat]? = some q := ⟨_, List.getElem?_eq_getElem hjlt⟩
          obtain ⟨k3, -⟩ := k2 _ v t2 hv2
          exact h1 _ v t2 hv2 (Int32.toInt_inj.mp (by rw [k3]; omega))
  case lookupswitch dflt ps =>
    match aux, ck, h with
    | [], ck, _ => cases ck
    | t :: _, ck, h =>
      obtain ⟨c1, c2⟩ := (Bool.and_eq_true _ _).mp ck
      obtain ⟨c2, c3⟩ := (Bool.and_eq_true _ _).mp c2
      have h9 := am_i1_of h
      clear h
      obtain ⟨x, r, rfl, hq9⟩ := h9
      have h := hq9
      clear hq9
      obtain ⟨t2, h1, h2⟩ := am_ckl_of (of_decide_eq_true c1) c3 h
      intro H locs lsA hH hL hv
      exact lv_lookup hx hb hd c2 rfl h1 (hK _ _ _ _ h2 H locs lsA hH hL (am_tl hv))
  case getfield idx =>
    obtain ⟨c1, c2⟩ := (Bool.and_eq_true _ _).mp ck
    obtain ⟨rfl, nx⟩ := am_nx c2
    match aux, c1, h with
    | ci :: f :: tl, c1, h => exact am_get_ok (K := fun st' => K (pc + 1) ls st' g) fx kx c1 hd h (fun st' h' => by rw [← nx]; exact hK _ _ _ _ h')
    | [], c1, _ => cases c1
    | [_], c1, _ => cases c1
  case putfield idx =>
    obtain ⟨c1, c2⟩ := (Bool.and_eq_true _ _).mp ck
    obtain ⟨rfl, nx⟩ := am_nx c2
    match aux, c1, st, h with
    | ci :: f :: tl, c1, v :: st, h => exact am_put_ok (K := fun st' g' => K (pc + 1) ls st' g') fx kx c1 hd h (fun st' g' h' => by rw [← nx]; exact hK _ _ _ _ h')
    | _ :: _ :: _, _, [], h => cases h
    | [], c1, _, _ => cases c1
    | [_], c1, _, _ => cases c1
  case iaload =>
    obtain ⟨rfl, nx⟩ := am_nx ck
    have h9 := am_i1_of h
    clear h
    obtain ⟨j, r, rfl, hq9⟩ := h9
    have h := hq9
    clear hq9
    have h9 := am_r1_of h
    clear h
    obtain ⟨c0, i0, r, rfl, hq9⟩ := h9
    have h := hq9
    clear hq9
    obtain ⟨n, hl, h⟩ := am_arr_of h
    obtain ⟨hj, h⟩ := am_bif h
    intro H locs lsA hH hL hv
    have m0 : (c0, i0) ∈ rs := am_hd (am_tl hv)
    obtain ⟨q0, hq0⟩ := am_mem_at m0
    obtain ⟨t0, ht0⟩ := kx.2.2.1 _ m0 (by unfold am_isA; rw [hl])
    rw [am_aty_int hl] at ht0
    refine va_iald hx hb kx.2.1 hH.1 q0 t0 (am_ws_arr hq0 hl) ht0 (am_vin hj) hd ?_
    rw [← nx]
    exact hK _ _ _ _ h H locs lsA hH hL (am_cons trivial (am_tl (am_tl hv)))
  case iastore =>
    obtain ⟨rfl, nx⟩ := am_nx ck
    have h9 := am_i2_of h
    clear h
    obtain ⟨j, x, r, rfl, hq9⟩ := h9
    have h := hq9
    clear hq9
    have h9 := am_r1_of h
    clear h
    obtain ⟨c0, i0, r, rfl, hq9⟩ := h9
    have h := hq9
    clear hq9
    obtain ⟨n, hl, h⟩ := am_arr_of h
    obtain ⟨hj, h⟩ := am_bif h
    intro H locs lsA hH hL hv
    have m0 : (c0, i0) ∈ rs := am_hd (am_tl (am_tl hv))
    obtain ⟨q0, hq0⟩ := am_mem_at m0
    obtain ⟨t0, ht0⟩ := kx.2.2.1 _ m0 (by unfold am_isA; rw [hl])
    rw [am_aty_int hl] at ht0
    refine va_iast hx hb kx.2.1 hH.1 hH.2.1 hH.2.2 q0 t0 (am_ws_arr hq0 hl) ht0 (am_vin hj) hd (fun H1 locs1 hP1 hD1 hS1 => ?_)
    rw [am_ws_arr_set kx hq0 hl] at hP1 hD1
    rw [← nx]
    exact hK _ _ _ _ h H1 locs1 lsA ⟨hP1, hD1, hS1⟩ hL (am_tl (am_tl (am_tl hv)))
  case aaload =>
    obtain ⟨rfl, nx⟩ := am_nx ck
    have h9 := am_i1_of h
    clear h
    obtain ⟨j, r, rfl, hq9⟩ := h9
    have h := hq9
    clear hq9
    have h9 := am_r1_of h
    clear h
    obtain ⟨c0, i0, r, rfl, hq9⟩ := h9
    have h := hq9
    clear hq9
    obtain ⟨n, c1, o, hl, h⟩ := am_rar_of h
    obtain ⟨hj, h⟩ := am_bif h
    intro H locs lsA hH hL hv
    have m0 : (c0, i0) ∈ rs := am_hd (am_tl hv)
    obtain ⟨q0, hq0⟩ := am_mem_at m0
    obtain ⟨t0, ht0⟩ := kx.2.2.1 _ m0 (by unfold am_isA; rw [hl])
    have hcell : (am_ws rs ad ca g)[q0]? = some (ad c0 i0, .inl (ca c0, n, .inr (.inr (.inr (.inr (fun k => some (ad c1 (o + k)))))))) := by
      rw [am_ws_at hq0]
      unfold am_cell
      rw [hl]
    have hty : (am_aty c0).isReference = true := by
      have hlt := am_lay_lt hl
      unfold am_aty
      split
      · rfl
      · rfl
      · rename_i h15 h24
        exfalso
        have key : ∀ c, c < 36 → c ≠ 15 → c ≠ 24 → ∀ q, am_lay c ≠ some (.inr (.inr q)) := by
          intro c hc h1 h2 q hq
          have h3 : (List.range 36).all (fun c => c == 15 || (c == 24 || (match am_lay c with
            | some (.inr (.inr _)) => false
            | _ => true))) = true := by decide +kernel
          have h4 := List.all_eq_true.mp h3 c (List.mem_range.mpr hc)
          rw [hq] at h4
          simp [h1, h2] at h4
        exact key c0 hlt h15 h24 _ hl
    have hlt := am_vin_lt hj
    refine W.aald (v := .ref (ad c1 (o + j.toNatClampNeg))) (ty := am_aty c0) hx hb (hH.1 q0 _ hcell) ((kx.2.1.2 t0 _ ht0).1 n (fun k => va_rf (some (ad c1 (o + k))))) hty (fun q => by cases q) (by show ¬ (j < 0 ∨ (arrV _ _ _).slots.size ≤ _); rw [arrV_size]; exact am_vin hj) (by show (arrV _ _ _).slots[_]? = _; rw [arrV_read _ _ hlt]; rfl) rfl rfl hd ?_
    show W p l e R s m args below meth c H locs cells slots Q (F0 m (b + 1) lsA _)
    rw [← nx]
    exact hK _ _ _ _ h H locs lsA hH hL (am_cons (am_rar_in kx.1 m0 hl hlt) (am_tl (am_tl hv)))
  case arraylength =>
    obtain ⟨rfl, nx⟩ := am_nx ck
    have h9 := am_r1_of h
    clear h
    obtain ⟨c0, i0, r, rfl, hq9⟩ := h9
    have h := hq9
    clear hq9
    obtain ⟨n, hl, h⟩ := am_arr_of h
    intro H locs lsA hH hL hv
    have m0 : (c0, i0) ∈ rs := am_hd hv
    obtain ⟨q0, hq0⟩ := am_mem_at m0
    obtain ⟨t0, ht0⟩ := kx.2.2.1 _ m0 (by unfold am_isA; rw [hl])
    refine va_alen hx hb kx.2.1 hH.1 q0 t0 (am_ws_arr hq0 hl) ht0 (v := nI n) rfl hd ?_
    rw [← nx]
    exact hK _ _ _ _ h H locs lsA hH hL (am_cons trivial (am_tl hv))
  case invokevirtual idx =>
    obtain ⟨c1, c2⟩ := (Bool.and_eq_true _ _).mp ck
    obtain ⟨rfl, nx⟩ := am_nx c2
    exact am_call_v (K := fun st' g' => K (pc + 1) ls st' g') fx kx hR hcs hct c1 hd h (fun st' g' h' => by rw [← nx]; exact hK _ _ _ _ h')
  case invokestatic idx =>
    have gen : ∀ (ck : (am_cks am_inf own idx aux && (decide (len = 3) && decide (am_bp code (pc + 1) = b + 3))) = true) (h : am_cl am_lay ct aux st g (fun st g => K (pc + 1) ls st g) = some a), am_Wt p l e R s m args below meth c cells slots Q D rs ad ca A nL b ls st g := by
      intro ck h
      obtain ⟨c1, c2⟩ := (Bool.and_eq_true _ _).mp ck
      obtain ⟨rfl, nx⟩ := am_nx c2
      exact am_call_s (K := fun st' g' => K (pc + 1) ls st' g') fx kx hR hcs hct c1 hd h (fun st' g' h' => by rw [← nx]; exact hK _ _ _ _ h')
    match aux, ck, h, gen with
    | [pl], ck, h, _ =>
      obtain ⟨c1, c2⟩ := (Bool.and_eq_true _ _).mp ck
      obtain ⟨rfl, nx⟩ := am_nx c2
      exact am_copy_ok (K := fun st' g' => K (pc + 1) ls st' g') fx kx ⟨by omega, by omega⟩ (of_decide_eq_true c1) hd h (fun st' g' h' => by rw [← nx]; exact hK _ _ _ _ h')
    | [pl, 0], ck, h, _ =>
      obtain ⟨c1, c2⟩ := (Bool.and_eq_true _ _).mp ck
      obtain ⟨rfl, nx⟩ := am_nx c2
      have h9 := am_i2_of h
      clear h
      obtain ⟨x, y, r, rfl, hq9⟩ := h9
      have h := hq9
      clear hq9
      obtain ⟨h1, h⟩ := am_bif h
      have h1 := of_decide_eq_true h1
      intro H locs lsA hH hL hv
      refine va_mmax hx hb (hml.trans hL.1.symm) hown (hw (of_decide_eq_true c1) rfl) (hw am_mmax.1 rfl) (hw am_mmax.2.1 rfl) (hw am_mmax.2.2 rfl) (by omega) (Nat.le_trans (Nat.add_le_add_right (am_cats r) 13) (by omega)) hcs.1 hcs.2 hd ?_
      rw [← nx]
      exact hK _ _ _ _ h H locs lsA hH hL (am_cons trivial (am_tl (am_tl hv)))
    | [pl, 1], ck, h, _ =>
      obtain ⟨c1, c2⟩ := (Bool.and_eq_true _ _).mp ck
      obtain ⟨rfl, nx⟩ := am_nx c2
      have h9 := am_i2_of h
      clear h
      obtain ⟨x, y, r, rfl, hq9⟩ := h9
      have h := hq9
      clear hq9
      obtain ⟨h1, h⟩ := am_bif h
      have h1 := of_decide_eq_true h1
      intro H locs lsA hH hL hv
      refine va_mmin hx hb (hml.trans hL.1.symm) hown (hw (of_decide_eq_true c1) rfl) (hw am_mmin.1 rfl) (hw am_mmin.2.1 rfl) (hw am_mmin.2.2 rfl) (by omega) (Nat.le_trans (Nat.add_le_add_right (am_cats r) 13) (by omega)) hcs.1 hcs.2 hd ?_
      rw [← nx]
      exact hK _ _ _ _ h H locs lsA hH hL (am_cons trivial (am_tl (am_tl hv)))
    | [pl, k + 2], ck, h, gen => exact gen ck h
    | [], ck, h, gen => exact gen ck h
    | _ :: 0 :: _ :: _, ck, h, gen => exact gen ck h
    | _ :: 1 :: _ :: _, ck, h, gen => exact gen ck h
    | _ :: (_ + 2) :: _ :: _, ck, h, gen => exact gen ck h
  case ireturn =>
    match st, aux, ck, h with
    | [.inl x], [], ck, h =>
      obtain ⟨c1, c2⟩ := (Bool.and_eq_true _ _).mp ck
      have e := of_decide_eq_true c2
      subst e
      intro H locs lsA hH hL hv
      exact hret _ _ h b H locs lsA ⟨hd, Or.inl (of_decide_eq_true c1)⟩ hH
    | [.inl x], [k], ck, h =>
      obtain ⟨c1, c2⟩ := (Bool.and_eq_true _ _).mp ck
      have e := of_decide_eq_true c2
      subst e
      obtain ⟨h1, h⟩ := am_bif h
      intro H locs lsA hH hL hv
      exact hret _ _ h b H locs lsA ⟨hd, Or.inr ⟨of_decide_eq_true c1, h1⟩⟩ hH
    | [], [], _, h => cases h
    | [], [_], _, h => cases h
    | [], _ :: _ :: _, _, h => cases h
    | [.inl _], _ :: _ :: _, _, h => cases h
    | .inl _ :: _ :: _, [], _, h => cases h
    | .inl _ :: _ :: _, [_], _, h => cases h
    | .inl _ :: _ :: _, _ :: _ :: _, _, h => cases h
    | .inr _ :: _, [], _, h => cases h
    | .inr _ :: _, [_], _, h => cases h
    | .inr _ :: _, _ :: _ :: _, _, h => cases h
  case return_ =>
    match st, h with
    | [], h =>
      obtain ⟨c1, c2⟩ := (Bool.and_eq_true _ _).mp ck
      have e := of_decide_eq_true c2
      subst e
      intro H locs lsA hH hL hv
      exact hret _ _ h b H locs lsA ⟨of_decide_eq_true c1, hd⟩ hH
    | _ :: _, h => cases h
  all_goals (exact absurd h (fun h => by cases h))
end ST
