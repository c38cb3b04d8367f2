/-! ===== the step: all instructions ===== -/
section ST
variable {p : Program} {l : Launch} {e : Env} {R : Room} {s : State} {m : MethodId} {args : Array Value} {below : List Frame} {meth : Method} {c : Code} {cells slots : Nat} {Q : State → Prop}
variable {D : va_G} {rs : List (Nat × Nat)} {ad : Nat → Nat → Nat} {ca : Nat → ClassId} {tys : List (ClassId × FieldType)} {A : Nat → Prop}
variable {α : Type} {cc : ByteArray} {nL d : Nat} {own : String} {ct : am_T}
theorem am_cons {v : am_V} {r : List am_V} (hv : am_vs rs v) (hr : ∀ w ∈ r, am_vs rs w) : ∀ w ∈ v :: r, am_vs rs w := List.forall_mem_cons.mpr ⟨hv, hr⟩
theorem am_tl {v : am_V} {r : List am_V} (h : ∀ w ∈ v :: r, am_vs rs w) : ∀ w ∈ r, am_vs rs w := fun w hw => h w (List.mem_cons_of_mem _ hw)
theorem am_hd {v : am_V} {r : List am_V} (h : ∀ w ∈ v :: r, am_vs rs w) : am_vs rs v := h v List.mem_cons_self
theorem am_ckf_of {put : Bool} {idx : Nat} {aux : List Nat} (h : am_ckf own idx put aux = true) : ∃ ci f pl tl C T N, aux = ci :: f :: pl :: tl ∧ am_cs[ci]? = some (C, T, N) ∧ f < N ∧ lw_tbl[pl]? = some (.fieldLink own idx (T f).1 (T f).2.1 (T f).2.2.1) ∧ (put = true → (T f).2.2.2 = false) := by
  match aux, h with
  | ci :: f :: pl :: tl, h =>
    unfold am_ckf at h
    dsimp only at h
    cases hc : am_cs[ci]? with
    | none => rw [hc] at h; cases h
    | some q =>
      obtain ⟨C, T, N⟩ := q
      rw [hc] at h
      simp only [Bool.and_eq_true, decide_eq_true_eq] at h
      refine ⟨ci, f, pl, tl, C, T, N, rfl, hc, h.1, h.2.1, fun hp => ?_⟩
      have h3 := h.2.2
      rw [hp] at h3
      simpa using h3
  | [], h => cases h
  | [_], h => cases h
  | [_, _], h => cases h
theorem am_get_ok (fx : CallFix p m c cc nL s args am_tb own) (kx : am_Kx D rs ca tys s) {b idx ci f : Nat} {tl : List Nat} {ls : am_L} {st : List am_V} {g : am_G} {K : List am_V → Option α} {a : α} (ck : am_ckf own idx false (ci :: f :: tl) = true) (hd : decode cc b = .ok (.getfield idx, 3))
    (h : am_r1 st (fun c i r => am_obj (am_lay c) ci (fun fs => am_gf g i (am_nth fs f) (fun v => K (v :: r)))) = some a)
    (hK : ∀ st', K st' = some a → am_Wt p l e R s m args below meth c cells slots Q D rs ad ca A nL (b + 3) ls st' g) : am_Wt p l e R s m args below meth c cells slots Q D rs ad ca A nL b ls st g := by
  obtain ⟨ci1, f1, pl, tl1, C, T, N, e0, hc, hf, hlk, -⟩ := am_ckf_of ck
  cases e0
  obtain ⟨c0, i0, r, rfl, h⟩ := am_r1_of h
  obtain ⟨fs, hl, h⟩ := am_obj_of h
  intro H locs lsA hH hL hv
  obtain ⟨hx, hb, hml, hown, hts⟩ := id fx
  have m0 : (c0, i0) ∈ rs := am_hd hv
  obtain ⟨q0, hq0⟩ := am_mem_at m0
  have he : (am_ws rs ad ca g)[q0]? = some (ad c0 i0, .inr (ci, fs.map (am_fv ad g i0))) := by
    rw [am_ws_at hq0]
    unfold am_cell
    rw [hl]
  cases hfd : am_nth fs f with
  | none => rw [hfd] at h; cases h
  | some fd =>
    rw [hfd] at h
    have hfd2 : fs[f]? = some fd := by rw [← am_nth_eq]; exact hfd
    obtain ⟨o1, o2, o4⟩ := am_obj_fld kx.1 m0 hl hfd2
    have key : ∃ v, am_tr ad v = am_fv ad g i0 fd ∧ am_vs rs v ∧ K (v :: r) = some a := by
      obtain ⟨t, c', b'⟩ := fd
      match t, h with
      | 0, h => exact ⟨.inl (g c' i0 0), rfl, trivial, h⟩
      | 1, h => exact ⟨.inr (.inr (c', i0)), rfl, o1 rfl, h⟩
      | 2, h => exact ⟨.inr (.inr (c', b')), rfl, o2 rfl, h⟩
      | 3, h => exact ⟨.inr (.inl (g c' i0 0).toInt64), rfl, trivial, h⟩
      | 4, h =>
        have h : (if g c' i0 0 = 0 then none else K (.inr (.inr (13, 0)) :: r)) = some a := h
        by_cases h0 : g c' i0 0 = 0
        · rw [if_pos h0] at h; cases h
        · rw [if_neg h0] at h
          exact ⟨.inr (.inr (13, 0)), by show Value.ref (ad 13 0) = Value.ref (if g c' i0 0 = 0 then ad 12 0 else ad 13 0); rw [if_neg h0], o4 rfl, h⟩
      | 5, h => exact ⟨.inl (g c' i0 0), rfl, trivial, h⟩
      | t + 6, h => cases h
    obtain ⟨v, hv1, hv2, h⟩ := key
    refine va_get (D := D) (ci := ci) (C := C) (T := T) (N := N) (v := am_tr ad v) hx hb hts (am_cls hc).1 hown kx.2.1 hH.1 q0 he hc f hf (hts _ (am_tb_at hlk rfl)) (fun _ h9 => h9) ?_ hd ?_
    · rw [List.getElem?_map, hfd2, hv1]
      rfl
    · exact hK _ h H locs lsA hH hL (am_cons hv2 (am_tl hv))
theorem am_01_narrow {x : Int32} (h : am_01 x = true) : narrow .boolean (.int x) = .int x ∧ fits .boolean (.int x) = true := by
  unfold am_01 at h
  simp only [Bool.or_eq_true, decide_eq_true_eq] at h
  rcases h with rfl | rfl
  · exact ⟨by decide, by decide⟩
  · exact ⟨by decide, by decide⟩
theorem am_put_ok (fx : CallFix p m c cc nL s args am_tb own) (kx : am_Kx D rs ca tys s) {b idx ci f : Nat} {tl : List Nat} {ls : am_L} {v : am_V} {st : List am_V} {g : am_G} {K : List am_V → am_G → Option α} {a : α} (ck : am_ckf own idx true (ci :: f :: tl) = true) (hd : decode cc b = .ok (.putfield idx, 3))
    (h : am_r1 st (fun c i r => am_obj (am_lay c) ci (fun fs => am_pi g i (am_nth fs f) v (fun g => K r g))) = some a)
    (hK : ∀ st' g', K st' g' = some a → am_Wt p l e R s m args below meth c cells slots Q D rs ad ca A nL (b + 3) ls st' g') : am_Wt p l e R s m args below meth c cells slots Q D rs ad ca A nL b ls (v :: st) g := by
  obtain ⟨ci1, f1, pl, tl1, C, T, N, e0, hc, hf, hlk, hfin⟩ := am_ckf_of ck
  cases e0
  match v, st, h, hK with
  | v, st, h, hK =>
    obtain ⟨c0, i0, r, rfl, h⟩ := am_r1_of h
    obtain ⟨fs, hl, h⟩ := am_obj_of h
    intro H locs lsA hH hL hv
    obtain ⟨hx, hb, hml, hown, hts⟩ := id fx
    have m0 : (c0, i0) ∈ rs := am_hd (am_tl hv)
    obtain ⟨q0, hq0⟩ := am_mem_at m0
    have he : (am_ws rs ad ca g)[q0]? = some (ad c0 i0, .inr (ci, fs.map (am_fv ad g i0))) := by
      rw [am_ws_at hq0]
      unfold am_cell
      rw [hl]
    cases hfd : am_nth fs f with
    | none =>
      rw [hfd] at h
      match v, h with
      | .inl _, h => cases h
      | .inr _, h => cases h
    | some fd =>
      rw [hfd] at h
      have hfd2 : fs[f]? = some fd := by rw [← am_nth_eq]; exact hfd
      obtain ⟨o1, o2, o4⟩ := am_obj_fld kx.1 m0 hl hfd2
      obtain ⟨u1, u2, u3⟩ := am_lay_fld hl hfd2
      have key : ∃ x, am_fv ad (am_put g fd.2.1 i0 x) i0 fd = am_tr ad v ∧ narrow (am_ty ci f) (am_tr ad v) = am_tr ad v ∧ fits (am_ty ci f) (am_tr ad v) = true ∧ fd.1 ≠ 1 ∧ fd.1 ≠ 2 ∧ K r (am_put g fd.2.1 i0 x) = some a := by
        obtain ⟨t, c', b'⟩ := fd
        have hrd : ∀ x : Int32, am_put g c' i0 x c' i0 0 = x := fun x => by unfold am_put; rw [am_set_eq]
        match t, v, h with
        | 0, .inl x, h =>
          have ht : am_ty ci f = .int := of_decide_eq_true u1
          exact ⟨x, congrArg Value.int (hrd x), by rw [ht]; rfl, by rw [ht]; rfl, (by simp), (by simp), h⟩
        | 3, .inr (.inl y), h =>
          have ht : am_ty ci f = .long := of_decide_eq_true u1
          have h : (if y.toInt32.toInt64 = y then K r (am_put g c' i0 y.toInt32) else none) = some a := h
          by_cases h0 : y.toInt32.toInt64 = y
          · rw [if_pos h0] at h
            exact ⟨y.toInt32, by show Value.long (am_put g c' i0 y.toInt32 c' i0 0).toInt64 = Value.long y; rw [hrd, h0], by rw [ht]; rfl, by rw [ht]; rfl, (by simp), (by simp), h⟩
          · rw [if_neg h0] at h; cases h
        | 4, .inr (.inr (13, 0)), h =>
          have ht : am_ty ci f = .array .int := of_decide_eq_true u1
          exact ⟨1, by show Value.ref (if am_put g c' i0 1 c' i0 0 = 0 then ad 12 0 else ad 13 0) = Value.ref (ad 13 0); rw [hrd, if_neg (by decide)], by rw [ht]; rfl, by rw [ht]; rfl, (by simp), (by simp), h⟩
        | 5, .inl x, h =>
          have ht : am_ty ci f = .boolean := of_decide_eq_true u1
          have h : (bif am_01 x then K r (am_put g c' i0 x) else none) = some a := h
          obtain ⟨h0, h⟩ := am_bif h
          exact ⟨x, congrArg Value.int (hrd x), by rw [ht]; exact (am_01_narrow h0).1, by rw [ht]; exact (am_01_narrow h0).2, (by simp), (by simp), h⟩
        | 0, .inr _, h => cases h
        | 1, .inl _, h => cases h
        | 1, .inr _, h => cases h
        | 2, .inl _, h => cases h
        | 2, .inr _, h => cases h
        | 3, .inl _, h => cases h
        | 3, .inr (.inr _), h => cases h
        | 4, .inl _, h => cases h
        | 4, .inr (.inl _), h => cases h
        | 4, .inr (.inr (c9, i9)), h =>
          have h : am_pi g i0 (some (4, c', b')) (.inr (.inr (c9, i9))) (fun g => K r g) = some a := h
          by_cases e1 : c9 = 13
          · subst e1
            by_cases e2 : i9 = 0
            · subst e2
              have ht : am_ty ci f = .array .int := of_decide_eq_true u1
              exact ⟨1, by show Value.ref (if am_put g c' i0 1 c' i0 0 = 0 then ad 12 0 else ad 13 0) = Value.ref (ad 13 0); rw [hrd, if_neg (by decide)], by rw [ht]; rfl, by rw [ht]; rfl, (by simp), (by simp), h⟩
            · simp [am_pi, e2] at h
          · simp [am_pi, e1] at h
        | 5, .inr _, h => cases h
        | t + 6, .inl _, h => cases h
        | t + 6, .inr _, h => cases h
      obtain ⟨x, k1, k2, k3, k4, k5, h⟩ := key
      have u3 := (u3.resolve_left k4).resolve_left k5
      obtain ⟨cw, cty, cnm⟩ := am_cls hc
      have hlen : f < (fs.map (am_fv ad g i0)).length := by rw [List.length_map]; exact (List.getElem?_eq_some_iff.mp hfd2).1
      refine va_put (D := D) (ci := ci) (C := C) (T := T) (N := N) (v := am_tr ad v) (ty := am_ty ci f) hx hb hts cw (am_ty ci) cty cnm hown kx.2.1 hH.1 hH.2.1 hH.2.2 q0 he hc f hf (hts _ (am_tb_at hlk rfl)) (fun _ h9 => h9) (hfin rfl) (cty f hf) k2 k3 hlen hd (fun H1 locs1 hP1 hD1 hS1 => ?_)
      have hset : (am_ws rs ad ca g).set q0 (ad c0 i0, .inr (ci, (fs.map (am_fv ad g i0)).set f (am_tr ad v))) = am_ws rs ad ca (am_put g fd.2.1 i0 x) := by
        rw [← am_cell_put (ca := ca) hl hfd2 k1 u3.2]
        exact am_ws_set (am_rsok_nd kx.1) hq0 u3.1
      rw [hset] at hP1 hD1
      exact hK _ _ h H1 locs1 lsA ⟨hP1, hD1, hS1⟩ hL (am_tl (am_tl hv))
end ST
