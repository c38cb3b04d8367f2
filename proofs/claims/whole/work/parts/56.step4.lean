/-! ===== the step: static calls, copies, fields, all instructions ===== -/
section ST
variable {p : Program} {l : Launch} {e : Env} {R : Room} {s : State} {m : MethodId} {args : Array Value} {below : List Frame} {meth : Method} {c : Code} {cells slots : Nat} {Q : State → Prop}
variable {D : va_G} {rs : List (Nat × Nat)} {ad : Nat → Nat → Nat} {ca : Nat → ClassId} {tys : List (ClassId × FieldType)} {A : Nat → Prop}
variable {α : Type} {cc : ByteArray} {nL d : Nat} {own : String} {ct : am_T}
theorem am_call_s (fx : CallFix p m c cc nL s args am_tb own) (kx : am_Kx D rs ca tys s) (hR : d + 1 ≤ R.frames ∧ 38 * d + 38 ≤ R.locals) (hcs : cells ≤ R.cells ∧ slots ≤ R.slots) (hct : am_Ct l D rs ad ca tys A d ct)
    {b idx : Nat} {aux : List Nat} {ls : am_L} {st : List am_V} {g : am_G} {K : List am_V → am_G → Option α} {a : α} (ck : am_cks am_inf own idx aux = true) (hd : decode cc b = .ok (.invokestatic idx, 3)) (h : am_cl am_lay ct aux st g K = some a)
    (hK : ∀ st' g', K st' g' = some a → am_Wt p l e R s m args below meth c cells slots Q D rs ad ca A nL (b + 3) ls st' g') : am_Wt p l e R s m args below meth c cells slots Q D rs ad ca A nL b ls st g := by
  have key : ∀ (mi n rt pl : Nat) (tl : List Nat), aux = mi :: n :: rt :: 0 :: pl :: tl → am_Wt p l e R s m args below meth c cells slots Q D rs ad ca A nL b ls st g := by
    intro mi n rt pl tl ea
    subst ea
    unfold am_cl at h
    obtain ⟨hb1, h⟩ := am_bif h
    obtain ⟨rv, g', ho, hrv, h⟩ := am_bk_of (rs := rs) h
    simp only [Bool.and_eq_true, decide_eq_true_eq] at hb1
    intro H locs lsA hH hL hv
    have hmem : ∀ v ∈ st.take n, am_vl rs v := fun v hv2 => am_nl_vl (hv v (List.mem_of_mem_take hv2)) (List.all_eq_true.mp hb1.2.2 v hv2)
    have hr : ∀ v ∈ st.drop n, am_vs rs v := fun v hv2 => hv v (List.mem_of_mem_drop hv2)
    obtain ⟨y, cy, maxL, ret, ps, hi, hm, hM⟩ := hct _ _ _ _ _ ho (fun v hv2 => hmem v (List.mem_reverse.mp hv2))
    have hps : ps.length = 3 ∧ (parseMethodDescriptor y.desc).map (fun d => d.parameters.length) = some n ∧ ((tl = [] ∧ lw_tbl[pl]? = some (.methodLink own idx y)) ∨ (tl ≠ [] ∧ lw_tbl[pl]? = some (.methodLinkNest own idx y "TownForest"))) := by
      cases tl with
      | nil =>
        have ck2 : (match am_nth am_inf mi with
          | some (y, _, _, ret, ps) => decide (lw_tbl[pl]? = some (.methodLink own idx y)) && (decide ((parseMethodDescriptor y.desc).map (fun d => d.parameters.length) = some n) && (decide (rt = am_rt ret) && decide (ps.length = 3)))
          | none => false) = true := ck
        rw [hi] at ck2
        simp only [Bool.and_eq_true, decide_eq_true_eq] at ck2
        exact ⟨ck2.2.2.2, ck2.2.1, Or.inl ⟨rfl, ck2.1⟩⟩
      | cons t tl =>
        have ck2 : (match am_nth am_inf mi with
          | some (y, _, _, ret, ps) => decide (lw_tbl[pl]? = some (.methodLinkNest own idx y "TownForest")) && (decide ((parseMethodDescriptor y.desc).map (fun d => d.parameters.length) = some n) && (decide (rt = am_rt ret) && decide (ps.length = 3)))
          | none => false) = true := ck
        rw [hi] at ck2
        simp only [Bool.and_eq_true, decide_eq_true_eq] at ck2
        exact ⟨ck2.2.2.2, ck2.2.1, Or.inr ⟨fun h => (by cases h), ck2.1⟩⟩
    obtain ⟨hps, hpd, hlk⟩ := hps
    match ps, hps, hm with
    | [p0, p1, p3], _, hm =>
      unfold am_ckm at hm
      simp only [Bool.and_eq_true, decide_eq_true_eq] at hm
      obtain ⟨m0, m1, m3, m4, m5, m6, m7⟩ := hm
      obtain ⟨hx, hb, hml, hown, hts⟩ := id fx
      have hw : ∀ {i : Nat} {w : Cond}, lw_tbl[i]? = some w → goodWord w = true → w.before args s = true := fun h hg => hts _ (am_tb_at h hg)
      have hlen : (((st.take n).reverse).map (am_tr ad)).length = n := by
        rw [List.length_map, List.length_reverse, List.length_take]
        omega
      have hpre : PreS s H (am_Pc D rs ad ca A tys (st.take n).reverse g) (((st.take n).reverse).map (am_tr ad)) := ⟨am_Pc_blind, fun U hU hW => ⟨rfl, by rw [hU]; exact hH.1, hH.2.1, va_K.moved hW.alike kx.2.1, kx.2.2.2.warm hW⟩⟩
      have hroom : (am_rm d).frames + 1 ≤ R.frames ∧ 8 + (maxL + 11) + (am_rm d).locals ≤ R.locals := ⟨hR.1, by show 8 + (maxL + 11) + 38 * d ≤ R.locals; omega⟩
      have hrun : va_Run p l e R s m args below meth c H locs cells slots 0 0 (F0 m b lsA (st.map (am_tr ad))) ((st.drop n).map (am_tr ad)) (am_Qc D rs ad ca A rv g' (((st.take n).reverse).map (am_tr ad)).toArray) A := by
        rcases hlk with ⟨-, hlk⟩ | ⟨-, hlk⟩
        · exact va_runS (H := H) (locs := locs) (e := e) (below := below) (meth := meth) (cells := cells) (slots := slots) (As := ((st.take n).reverse).map (am_tr ad)) (rest := (st.drop n).map (am_tr ad)) (g := F0 m b lsA (st.map (am_tr ad))) (n := n) fx hM
            ⟨callB_of (R := R) (own := own) (index := idx) n hts (am_goodIn m0) rfl rfl rfl (hw m3 rfl) (hw hlk rfl) ⟨m6, m7, hpd⟩ hroom, hw m1 rfl⟩ hpre
            rfl hlen hL.1 (am_st_map n) (lv_room (Nat.le_trans (am_cats (st.drop n)) (by omega))) hd ⟨hcs.1, hcs.2⟩
        · have hn : va_Nw (.methodLinkNest own idx y "TownForest") s := kx.2.2.2 _ _ _ _ (List.mem_of_getElem? hlk)
          exact va_runSN (H := H) (locs := locs) (e := e) (below := below) (meth := meth) (cells := cells) (slots := slots) (As := ((st.take n).reverse).map (am_tr ad)) (rest := (st.drop n).map (am_tr ad)) (g := F0 m b lsA (st.map (am_tr ad))) (n := n) fx hM
            ⟨va_cnB (R := R) (own := own) (host := "TownForest") (index := idx) n hts (am_goodIn m0) rfl rfl rfl hn (hw m3 rfl) ⟨m6, m7, hpd⟩ hroom, hw m1 rfl, trivial⟩ hpre
            rfl hlen hL.1 (am_st_map n) (lv_room (Nat.le_trans (am_cats (st.drop n)) (by omega))) hd ⟨hcs.1, hcs.2⟩
      refine am_back hrun hH.2.2 (fun H1 locs1 hP1 hD1 hS1 => ?_)
      have k1 := hK _ _ h H1 locs1 lsA ⟨hP1, hD1, hS1⟩ hL (fun v hv2 => by
        rcases List.mem_append.mp hv2 with hv2 | hv2
        · exact hrv v hv2
        · exact hr v hv2)
      rw [List.map_append] at k1
      cases rv with
      | none => exact k1
      | some w => exact k1
  match aux, ck, key with
  | mi :: n :: rt :: 0 :: pl :: tl, _, key => exact key mi n rt pl tl rfl
  | [], ck, _ => cases ck
  | [_], ck, _ => cases ck
  | [_, _], ck, _ => unfold am_cks at ck; simp at ck
  | [_, _, _], ck, _ => unfold am_cks at ck; simp at ck
  | [_, _, _, _], ck, _ => unfold am_cks at ck; simp at ck
  | _ :: _ :: _ :: (_ + 1) :: _ :: _, ck, _ => unfold am_cks at ck; simp at ck
theorem am_ws_arr {g : am_G} {q c0 i0 n : Nat} (hq : rs[q]? = some (c0, i0)) (hl : am_lay c0 = some (.inr (.inl n))) : (am_ws rs ad ca g)[q]? = some (ad c0 i0, .inl (ca c0, n, .inl (g c0 i0))) := by
  rw [am_ws_at hq]
  unfold am_cell
  rw [hl]
theorem am_ws_arr_set {g : am_G} {q c0 i0 n : Nat} {f : Nat → Int32} (kx : am_Kx D rs ca tys s) (hq : rs[q]? = some (c0, i0)) (hl : am_lay c0 = some (.inr (.inl n))) : (am_ws rs ad ca g).set q (ad c0 i0, .inl (ca c0, n, .inl f)) = am_ws rs ad ca (am_set g c0 i0 f) := by
  rw [← am_ws_set (am_rsok_nd kx.1) hq (am_lay_arr hl)]
  congr 2
  unfold am_cell
  rw [hl, am_set_eq]
theorem am_aty_int {c0 n : Nat} (hl : am_lay c0 = some (.inr (.inl n))) : am_aty c0 = .int := by
  unfold am_aty
  split
  · cases hl
  · cases hl
  · rfl
theorem am_copy_ok (fx : CallFix p m c cc nL s args am_tb own) (kx : am_Kx D rs ca tys s) (hR : 1 ≤ R.frames ∧ 38 ≤ R.locals)
    {b idx pl : Nat} {ls : am_L} {st : List am_V} {g : am_G} {K : List am_V → am_G → Option α} {a : α} (ck : lw_tbl[pl]? = some (.methodLink own idx arraycopyName)) (hd : decode cc b = .ok (.invokestatic idx, 3)) (h : am_cp am_lay st g K = some a)
    (hK : ∀ st' g', K st' g' = some a → am_Wt p l e R s m args below meth c cells slots Q D rs ad ca A nL (b + 3) ls st' g') : am_Wt p l e R s m args below meth c cells slots Q D rs ad ca A nL b ls st g := by
  unfold am_cp at h
  split at h
  · rename_i n dp c1 i1 sp c0 i0 r
    obtain ⟨n0, hl0, h⟩ := am_arr_of h
    obtain ⟨n1, hl1, h⟩ := am_arr_of h
    obtain ⟨hb1, h⟩ := am_bif h
    simp only [Bool.and_eq_true, decide_eq_true_eq] at hb1
    obtain ⟨⟨⟨⟨⟨b1, b2⟩, b3⟩, b4⟩, b5⟩, b6⟩ := hb1
    intro H locs lsA hH hL hv
    obtain ⟨hx, hb, hml, hown, hts⟩ := id fx
    have hw : ∀ {i : Nat} {w : Cond}, lw_tbl[i]? = some w → goodWord w = true → w.before args s = true := fun h hg => hts _ (am_tb_at h hg)
    have m0 : (c0, i0) ∈ rs := hv (.inr (.inr (c0, i0))) (by simp)
    have m1 : (c1, i1) ∈ rs := hv (.inr (.inr (c1, i1))) (by simp)
    obtain ⟨q0, hq0⟩ := am_mem_at m0
    obtain ⟨q1, hq1⟩ := am_mem_at m1
    obtain ⟨t0, ht0⟩ := kx.2.2.1 _ m0 (by unfold am_isA; rw [hl0])
    obtain ⟨t1, ht1⟩ := kx.2.2.1 _ m1 (by unfold am_isA; rw [hl1])
    rw [am_aty_int hl0] at ht0
    rw [am_aty_int hl1] at ht1
    refine va_copyi hx hb (hml.trans hL.1.symm) hown (hw ck rfl) (hw am_ac.1 rfl) (hw am_ac.2.1 rfl) (hw am_ac.2.2 rfl) kx.2.1 hH.1 hH.2.1 hH.2.2 q0 q1 t0 t1 (am_ws_arr hq0 hl0) (am_ws_arr hq1 hl1) ht0 ht1 rfl b1 b2 b3 b4 b5 (fun _ _ => rfl) hR.1 ?_ hd (fun H1 locs1 hP1 hD1 hS1 => ?_)
    · have h1 := am_cats (ad := ad) r
      have h2 : nativeFrameWords "java/lang/System" "arraycopy" 5 = 7 := by decide
      rw [h2]
      omega
    · rw [am_ws_arr_set kx hq1 hl1] at hP1 hD1
      exact hK _ _ h H1 locs1 lsA ⟨hP1, hD1, hS1⟩ hL (fun v hv2 => hv v (by simp [hv2]))
  · cases h
end ST
