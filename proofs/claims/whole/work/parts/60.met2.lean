/-! ===== a method's contract out of the machine's run ===== -/
section ST
variable {p : Program} {l : Launch} {e : Env} {R : Room} {s : State} {m : MethodId} {args : Array Value} {below : List Frame} {meth : Method} {c : Code} {cells slots : Nat} {Q : State → Prop}
variable {D : va_G} {rs : List (Nat × Nat)} {ad : Nat → Nat → Nat} {ca : Nat → ClassId} {tys : List (ClassId × FieldType)} {A : Nat → Prop}
variable {α : Type} {cc : ByteArray} {nL d : Nat} {own : String} {ct : am_T}
theorem am_exec_ok {rt : Option FieldType} (fx : CallFix p m c cc nL s args am_tb own) (kx : am_Kx D rs ca tys s) (hR : d + 1 ≤ R.frames ∧ 38 * d + 38 ≤ R.locals) (hcs : cells ≤ R.cells ∧ slots ≤ R.slots) (hct : am_Ct l D rs ad ca tys A d ct)
    {code : List am_E} (hck : (List.range code.length).all (fun pc => am_ck am_inf code own cc rt pc) = true) {cut : List Nat} {stop : Nat → am_L → List am_V → am_G → Option α} {ret : Option am_V → am_G → Option α} {a : α}
    (hstop : ∀ pc' ls' st' g', stop pc' ls' st' g' = some a → am_Wt p l e R s m args below meth c cells slots Q D rs ad ca A nL (am_bp code pc') ls' st' g')
    (hret : ∀ v g', ret v g' = some a → ∀ (b : Nat) (H : Heap) (locs : List Loc) (lsA : Array Slot), am_rdc cc rt b v → am_Hp D rs ad ca A s.heap g' H locs → W p l e R s m args below meth c H locs cells slots Q (F0 m b lsA (v.toList.map (am_tr ad)))) :
    ∀ (k pc : Nat) (ls : am_L) (st : List am_V) (g : am_G), am_exec am_lay ct code cut stop ret k pc ls st g = some a → am_Wt p l e R s m args below meth c cells slots Q D rs ad ca A nL (am_bp code pc) ls st g
  | 0, pc, ls, st, g, h => by cases h
  | k + 1, pc, ls, st, g, h => by
    cases hn : am_nth code pc with
    | none =>
      unfold am_exec at h
      rw [hn] at h
      cases h
    | some q =>
      obtain ⟨b, ins, len, aux, cst, sw⟩ := q
      unfold am_exec at h
      rw [hn] at h
      dsimp only at h
      have hc := List.all_eq_true.mp hck pc (List.mem_range.mpr (am_nth_lt hn))
      unfold am_ck at hc
      rw [hn] at hc
      obtain ⟨hd, hc⟩ := (Bool.and_eq_true _ _).mp hc
      have hb : am_bp code pc = b := by unfold am_bp; rw [hn]
      rw [hb]
      refine am_step_ok (code := code) (pc := pc) (K := fun pc' ls' st' g' => bif cut.elem pc' then stop pc' ls' st' g' else am_exec am_lay ct code cut stop ret k pc' ls' st' g') fx kx hR hcs hct (of_decide_eq_true hd) hc (fun pc' ls' st' g' h' => ?_) hret h
      cases he : cut.elem pc' with
      | true =>
        have h' : (bif cut.elem pc' then stop pc' ls' st' g' else am_exec am_lay ct code cut stop ret k pc' ls' st' g') = some a := h'
        rw [he] at h'
        exact hstop _ _ _ _ h'
      | false =>
        have h' : (bif cut.elem pc' then stop pc' ls' st' g' else am_exec am_lay ct code cut stop ret k pc' ls' st' g') = some a := h'
        rw [he] at h'
        exact am_exec_ok fx kx hR hcs hct hck hstop hret k pc' ls' st' g' h'
theorem am_run_ok {rt : Option FieldType} {mi : Nat} (fx : CallFix p m c cc nL s args am_tb own) (kx : am_Kx D rs ca tys s) (hR : d + 1 ≤ R.frames ∧ 38 * d + 38 ≤ R.locals) (hcs : cells ≤ R.cells ∧ slots ≤ R.slots) (hct : am_Ct l D rs ad ca tys A d ct)
    (hck : (List.range (am_code mi).length).all (fun pc => am_ck am_inf (am_code mi) own cc rt pc) = true) {a : am_R}
    (hret : ∀ (b : Nat) (H : Heap) (locs : List Loc) (lsA : Array Slot), am_rdc cc rt b a.1 → am_Hp D rs ad ca A s.heap a.2 H locs → W p l e R s m args below meth c H locs cells slots Q (F0 m b lsA (a.1.toList.map (am_tr ad)))) :
    ∀ (n pc : Nat) (ls : am_L) (st : List am_V) (g : am_G), am_run ct mi n pc ls st g = some a → am_Wt p l e R s m args below meth c cells slots Q D rs ad ca A nL (am_bp (am_code mi) pc) ls st g
  | 0, pc, ls, st, g, h => by cases h
  | n + 1, pc, ls, st, g, h => by
    refine am_exec_ok (rt := rt) fx kx hR hcs hct hck (stop := am_run ct mi n) (ret := fun v g => some (v, g)) (fun pc' ls' st' g' h' => am_run_ok fx kx hR hcs hct hck hret n pc' ls' st' g' h') (fun v g' h' => ?_) 400 pc ls st g h
    cases h'
    exact hret
theorem am_entry {as : List am_V} {mi : Nat} (hv : ∀ v ∈ as, am_vl rs v) (hlen : as.length ≤ am_maxL mi) : am_LR rs ad (am_maxL mi) ((lg_sl (as.map (am_tr ad)) ++ List.replicate (am_maxL mi - (lg_sl (as.map (am_tr ad))).length) Slot.unset).toArray) (am_ent mi as) := by
  have h1 : ∀ (as : List am_V), (∀ v ∈ as, am_vl rs v) → lg_sl (as.map (am_tr ad)) = as.map (fun v => Slot.val (am_tr ad v)) := by
    intro as
    induction as with
    | nil => intro _; rfl
    | cons v r ih =>
      intro h
      have hc := am_cat (ad := ad) (h v List.mem_cons_self)
      show lg_sl (am_tr ad v :: r.map (am_tr ad)) = _
      unfold lg_sl
      rw [List.flatMap_cons, if_neg (by rw [hc]; decide)]
      exact congrArg (Slot.val (am_tr ad v) :: ·) (ih (fun w hw => h w (List.mem_cons_of_mem _ hw)))
  have hl : (lg_sl (as.map (am_tr ad))).length = as.length := by rw [h1 as hv, List.length_map]
  have h2 := lv_entry (as.map (am_tr ad)) (n := am_maxL mi) (by rw [hl]; exact hlen)
  refine ⟨h2.1, ?_, h2.2.1, fun j v hj => ?_⟩
  · unfold am_ent
    rw [List.length_append, List.length_map, List.length_replicate]
    omega
  · unfold am_ent at hj
    rw [am_nth_eq, List.getElem?_append, List.length_map] at hj
    by_cases hlt : j < as.length
    · rw [if_pos hlt, List.getElem?_map, List.getElem?_eq_getElem hlt] at hj
      have e : as[j] = v := by simpa using hj
      have hm : v ∈ as := e ▸ List.getElem_mem hlt
      refine ⟨?_, hv v hm⟩
      rw [hl, h1 as hv]
      simp [List.getElem?_append, hlt, e]
    · rw [if_neg hlt] at hj
      exfalso
      rw [List.getElem?_replicate] at hj
      split at hj <;> cases hj
end ST
section MT
variable {D : va_G} {rs : List (Nat × Nat)} {ad : Nat → Nat → Nat} {ca : Nat → ClassId} {tys : List (ClassId × FieldType)} {A : Nat → Prop}
theorem am_ckp_of {mi : Nat} {code : List am_E} {cut : List Nat} {maxL : Nat} (h : am_nth am_prog mi = some (code, cut, maxL)) (hk : am_ckp mi = true) : ∃ y cc ret ps, am_nth am_inf mi = some (y, cc, maxL, ret, ps) ∧ am_ckm (y, cc, maxL, ret, ps) = true ∧ am_bp code 0 = 0 ∧ (List.range code.length).all (fun pc => am_ck am_inf code y.cls cc ret pc) = true := by
  unfold am_ckp at hk
  rw [h] at hk
  cases hi : am_nth am_inf mi with
  | none => rw [hi] at hk; cases hk
  | some q =>
    obtain ⟨y, cc, maxL2, ret, ps⟩ := q
    rw [hi] at hk
    dsimp only at hk
    obtain ⟨h1, hk2⟩ := (Bool.and_eq_true _ _).mp hk
    obtain ⟨h2, hk3⟩ := (Bool.and_eq_true _ _).mp hk2
    obtain ⟨h3, hk4⟩ := (Bool.and_eq_true _ _).mp hk3
    have e := of_decide_eq_true h2
    subst e
    exact ⟨y, cc, ret, ps, rfl, h1, of_decide_eq_true h3, hk4⟩
theorem am_met (l : Launch) (hrs : am_rsok rs = true) (hty : ∀ r ∈ rs, am_isA r.1 = true → ∃ t0 : Nat, tys[t0]? = some (ca r.1, am_aty r.1)) : ∀ d, am_Ct l D rs ad ca tys A d (am_call d)
  | 0, mi, as, g, r, g', h, _ => by cases h
  | d + 1, mi, as, g, r, g', h, hv => by
    obtain ⟨hlen, h⟩ := am_bif (show (bif decide (as.length ≤ am_maxL mi) then am_run (am_call d) mi 100000 0 (am_ent mi as) [] g else none) = some (r, g') from h)
    have hlen := of_decide_eq_true hlen
    have hmi : mi < 238 := by
      refine Nat.not_le.mp fun hge => ?_
      have e : am_code mi = [] := by
        unfold am_code
        rw [am_nth_eq, List.getElem?_eq_none (by rw [am_prog_len]; exact hge)]
      have h2 : am_exec am_lay (am_call d) (am_code mi) (am_cuts mi) (am_run (am_call d) mi 99999) (fun v g => some (v, g)) 400 0 (am_ent mi as) [] g = some (r, g') := h
      rw [e] at h2
      cases h2
    obtain ⟨⟨code, cut, maxL⟩, hp⟩ : ∃ q, am_nth am_prog mi = some q := by
      rw [am_nth_eq]
      exact ⟨_, List.getElem?_eq_getElem (by rw [am_prog_len]; exact hmi)⟩
    obtain ⟨y, cc, ret, ps, hi, hm, hb0, hck⟩ := am_ckp_of hp (am_okall mi hmi)
    have ec : am_code mi = code := by unfold am_code; rw [hp]
    have em : am_maxL mi = maxL := by unfold am_maxL; rw [hp]
    refine ⟨y, cc, maxL, ret, ps, hi, hm, ?_⟩
    have hpl : plainName y.cls = true := by
      match ps, hm with
      | [_, _, _, _], hm => unfold am_ckm at hm; simp only [Bool.and_eq_true] at hm; exact hm.2.2.2.2.1
      | [_, _, _], hm => unfold am_ckm at hm; simp only [Bool.and_eq_true] at hm; exact hm.2.2.2.1
      | [], hm => cases hm
      | [_], hm => cases hm
      | [_, _], hm => cases hm
      | _ :: _ :: _ :: _ :: _ :: _, hm => cases hm
    refine Met.ofW (cc := cc) (maxL := maxL) (ret := ret) hpl rfl ?_
    intro p e s m args below meth c s₁ B hml hP
    obtain ⟨rfl, hP1, hD1, hK1, hN1⟩ := hP
    have hts := atoms_spec (ws := Cond.code y cc maxL ret :: am_tb) B.pre
    have fx : CallFix p m c cc maxL s (as.map (am_tr ad)).toArray am_tb y.cls := ⟨B.exec, B.bytes, hml, findClass_of_methodNamed B.named, fun w hw => hts w (List.mem_cons_of_mem _ hw)⟩
    rw [lg_entry_eq]
    have hE := am_entry (ad := ad) hv hlen
    rw [em] at hE
    have hct := am_met l hrs hty d
    have key := am_run_ok (rt := ret) (mi := mi) (R := (headSpec (Cond.code y cc maxL ret :: am_tb) (am_rm (d + 1))).room) (e := e) (below := below) (meth := meth) (cells := 0) (slots := 0) (Q := MQ below (am_Qc D rs ad ca A r g') (as.map (am_tr ad)).toArray s 0 0 A) fx ⟨hrs, hK1, hty, hN1⟩ ⟨Nat.le_refl _, Nat.le_of_eq rfl⟩ ⟨Nat.zero_le _, Nat.zero_le _⟩ hct (by rw [ec]; exact hck)
      (a := (r, g')) (fun b H locs lsA hrd hH => ?_) 100000 0 (am_ent mi as) [] g h s.heap [] _ ⟨hP1, hD1, va_S.rf⟩ hE (fun v hv => by cases hv)
    · rw [ec, hb0] at key
      exact key
    · have hq : ∀ t : State, t.heap = H → s.WarmedH t.vm → am_Qc D rs ad ca A r g' (as.map (am_tr ad)).toArray s (.returned (r.map (am_tr ad))) t := fun t ht _ => ⟨rfl, by rw [ht]; exact hH.1, hH.2.1, hH.2.2.F ht⟩
      have hr := B.returns
      match r, hrd, hq with
      | none, hrd, hq =>
        rw [hrd.1] at hr
        exact W.vret B.exec B.bytes hr hq hH.2.2.2.2 hrd.2
      | some (.inl x), hrd, hq =>
        rcases hrd.2 with h1 | ⟨h1, h2⟩
        · rw [h1] at hr
          exact W.iret B.exec B.bytes hr hq hH.2.2.2.2 hrd.1
        · rw [h1] at hr
          exact W.zret B.exec B.bytes hr (am_01_narrow h2).1 hq hH.2.2.2.2 hrd.1
end MT
