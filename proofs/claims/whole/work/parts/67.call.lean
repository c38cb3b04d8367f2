/-! ===== a call of the machine's methods, from any frame ===== -/
section LC
variable {p : Program} {l : Launch} {e : Env} {R : Room} {s : State} {m : MethodId} {args : Array Value} {below : List Frame} {meth : Method} {c : Code} {cells slots : Nat} {Q : State → Prop}
variable {D : va_G} {rs : List (Nat × Nat)} {ad : Nat → Nat → Nat} {ca : Nat → ClassId} {tys : List (ClassId × FieldType)} {A A0 : Nat → Prop}
theorem la_back {H : Heap} {locs : List Loc} {pc : Nat} {lsA : Array Slot} {st0 rest : List Value} {v : Option Value} {ws : va_W}
    (hr : va_Run p l e R s m args below meth c H locs cells slots 0 0 (F0 m pc lsA st0) rest (fun st oc t => oc = .returned v ∧ va_P D am_cs ws t.heap ∧ va_D A ws ∧ va_F A st t) A) (hS : va_S A0 s.heap H locs) (hA : ∀ q, A q → A0 q)
    (kk : ∀ (H1 : Heap) (locs1 : List Loc), va_P D am_cs ws H1 → va_D A ws → va_S A0 s.heap H1 locs1 → H.size ≤ H1.size → (∀ q : Nat, q < H.size → ¬ A q → H1[q]? = H[q]?) → W p l e R s m args below meth c H1 locs1 cells slots Q (F0 m (pc + 3) lsA (v.toList ++ rest))) : W p l e R s m args below meth c H locs cells slots Q (F0 m pc lsA st0) := by
  intro T hT X
  obtain ⟨v2, st₀, t, T', L, h0, X', hL, e1, e2, ⟨hv, hP, hD, hz, hk⟩, st⟩ := hr T hT X
  cases hv
  rw [h0] at hz hk
  obtain ⟨t2, a1, b1⟩ := kk T'.heap (locs ++ L) (by rw [e1]; exact hP) hD ⟨Nat.le_trans hS.1 (by rw [e1]; exact hz), fun q h1 h2 => by rw [e1, hk q (Nat.lt_of_lt_of_le h1 hS.1) (fun z => h2 (hA q z))]; exact hS.2.1 q h1 h2, fun q hq => by
      rcases List.mem_append.mp hq with h | h
      · exact hS.2.2 q h
      · exact hA _ (hL q h)⟩ (by rw [e1]; exact hz) (fun q h1 h2 => by rw [e1]; exact hk q h1 h2) T' rfl X'
  exact ⟨t2, st t2 a1, b1⟩
theorem la_call {cc : ByteArray} {nL d : Nat} {own : String} {ct : am_T} (fx : CallFix p m c cc nL s args am_tb own) (hK : va_K D am_cs tys s) (hN : am_Nx s) (hR : d + 1 ≤ R.frames ∧ 38 * d + 38 ≤ R.locals) (hcs : cells ≤ R.cells ∧ slots ≤ R.slots) (hct : am_Ct l D rs ad ca tys A d ct)
    {H : Heap} {locs : List Loc} {b idx mi n rt ci pl c0 i0 : Nat} {ls : Array Slot} {as : List am_V} {rest : List Value} {g g' : am_G} {r : Option am_V} (ck : am_ckv am_inf own idx [mi, n + 1, rt, ci + 1, pl] = true) (hd : decode cc b = .ok (.invokevirtual idx, 3)) (ho : ct mi (.inr (.inr (c0, i0)) :: as) g = some (r, g'))
    (hn : as.length = n) (hvs : ∀ v ∈ as, am_vl rs v) (hthis : (c0, i0) ∈ rs) (hl : ∃ fs, am_lay c0 = some (.inl (ci, fs))) (hP : va_P D am_cs (am_ws rs ad ca g) H) (hD : va_D A (am_ws rs ad ca g)) (hS : va_S A0 s.heap H locs) (hA : ∀ q, A q → A0 q) (hsz : ls.size = nL) (hrest : (rest.map fun v => v.category).sum ≤ 8)
    (kk : ∀ (H1 : Heap) (locs1 : List Loc), va_P D am_cs (am_ws rs ad ca g') H1 → va_D A (am_ws rs ad ca g') → va_S A0 s.heap H1 locs1 → H.size ≤ H1.size → (∀ q : Nat, q < H.size → ¬ A q → H1[q]? = H[q]?) → W p l e R s m args below meth c H1 locs1 cells slots Q (F0 m (b + 3) ls ((r.map (am_tr ad)).toList ++ rest))) :
    W p l e R s m args below meth c H locs cells slots Q (F0 m b ls ((as.map (am_tr ad)).reverse ++ .ref (ad c0 i0) :: rest)) := by
  obtain ⟨fs, hl⟩ := hl
  obtain ⟨y, cy, maxL, ret, ps, hi, hm, hM⟩ := hct _ _ _ _ _ ho (fun v hv2 => by
    rcases List.mem_cons.mp hv2 with rfl | hv2
    · exact hthis
    · exact hvs v hv2)
  unfold am_ckv at ck
  dsimp only at ck
  rw [hi] at ck
  simp only [Bool.and_eq_true, decide_eq_true_eq] at ck
  obtain ⟨ck1, ck2, ck3, ck4, ck5⟩ := ck
  match ps, ck5, hm with
  | [p0, p1, p2, p3], _, hm =>
    unfold am_ckm at hm
    simp only [Bool.and_eq_true, decide_eq_true_eq] at hm
    obtain ⟨m0, m1, m2, m3, m4, m5, m6, m7⟩ := hm
    obtain ⟨hx, hb, hml, hown, hts⟩ := id fx
    have hw : ∀ {i : Nat} {w : Cond}, lw_tbl[i]? = some w → goodWord w = true → w.before args s = true := fun h hg => hts _ (am_tb_at h hg)
    obtain ⟨q0, hq0⟩ := am_mem_at hthis
    have he : (am_ws rs ad ca g)[q0]? = some (ad c0 i0, .inr (ci, fs.map (am_fv ad g i0))) := by
      rw [am_ws_at hq0]
      unfold am_cell
      rw [hl]
    cases hci : am_cs[ci]? with
    | none => rw [hci] at ck4; cases ck4
    | some q =>
      rw [hci] at ck4
      have ck4 : q.1 = y.cls := Option.some.inj ck4
      have hrecv := va_recv hK hP hci he
      rw [ck4] at hrecv
      have hrun := va_runV (H := H) (locs := locs) (e := e) (below := below) (meth := meth) (cells := cells) (slots := slots) (b := ad c0 i0) (As := as.map (am_tr ad)) (rest := rest) (g := F0 m b ls ((as.map (am_tr ad)).reverse ++ .ref (ad c0 i0) :: rest)) (n := n) fx hM
        ⟨callB_of (R := R) (own := own) (index := idx) n hts (am_goodIn m0) rfl rfl rfl (hw m3 rfl) (hw ck1 rfl) ⟨m6, m7, ck2⟩ ⟨hR.1, by show 8 + (maxL + 11) + 38 * d ≤ R.locals; omega⟩, hw m1 rfl, hw m2 rfl⟩
        ⟨am_Pc_blind, hrecv, fun U hU hW => ⟨by rw [List.map_cons]; rfl, by rw [hU]; exact hP, hD, va_K.moved hW.alike hK, hN.warm hW⟩⟩
        rfl (by rw [List.length_map]; exact hn) hsz rfl (lv_room hrest) hd ⟨hcs.1, hcs.2⟩
      exact la_back hrun hS hA kk
end LC
