/-! ===== the law's own town, which catches ===== -/
/-- all cells but the law's own row -/
def la_A1 (A : Nat → Prop) (qo : Nat) : Nat → Prop := fun q => A q ∧ q ≠ qo
def la_ws (rs : List (Nat × Nat)) (ad : Nat → Nat → Nat) (ca : Nat → ClassId) (g : am_G) (qo : Nat) (cL : ClassId) (fo : Nat → Int64) : va_W := am_ws rs ad ca g ++ [(qo, .inl (cL, 1, .inr (.inl fo)))]
theorem la_D1 {A : Nat → Prop} {X : va_W} {qo : Nat} {e : va_E} (h : va_D A (X ++ [(qo, e)])) : va_D (la_A1 A qo) X := by
  have hl : ∀ (k : Nat) (q : Nat × va_E), X[k]? = some q → (X ++ [(qo, e)])[k]? = some q := fun k q hk => by rw [List.getElem?_append_left (List.getElem?_eq_some_iff.mp hk).1]; exact hk
  refine ⟨fun i j x y hx hy hxy => h.1 i j x y (hl i x hx) (hl j y hy) hxy, fun k q hk => ⟨h.2 k q (hl k q hk), fun eq => ?_⟩⟩
  have h1 := h.1 k X.length q (qo, e) (hl k q hk) (by simp) eq
  have h2 := (List.getElem?_eq_some_iff.mp hk).1
  omega
theorem la_Ao {A : Nat → Prop} {X : va_W} {qo : Nat} {e : va_E} (h : va_D A (X ++ [(qo, e)])) : A qo := h.2 X.length (qo, e) (by simp)
theorem la_P2 {D : va_G} {A : Nat → Prop} {X : va_W} {qo : Nat} {e : va_E} {H H1 : Heap} (hP : va_P D am_cs X H1) (hD : va_D (la_A1 A qo) X) (hA : A qo) (ho : va_at D am_cs (qo, e) H) (hk : H1[qo]? = H[qo]?) : va_P D am_cs (X ++ [(qo, e)]) H1 ∧ va_D A (X ++ [(qo, e)]) := by
  refine ⟨hP.app (fun k q hq => ?_), va_D.app (hD.weaken fun _ _ _ h => h.1) ⟨fun i j x y hx hy _ => ?_, fun k q hq => ?_⟩ (fun i j x y hx hy hxy => ?_)⟩
  · have hz : k < 1 := (List.getElem?_eq_some_iff.mp hq).1
    rw [show k = 0 by omega] at hq
    cases hq
    exact ho.kept hk
  · have h1 : i < 1 := (List.getElem?_eq_some_iff.mp hx).1
    have h2 : j < 1 := (List.getElem?_eq_some_iff.mp hy).1
    omega
  · have hz : k < 1 := (List.getElem?_eq_some_iff.mp hq).1
    rw [show k = 0 by omega] at hq
    cases hq
    exact hA
  · have hz : j < 1 := (List.getElem?_eq_some_iff.mp hy).1
    rw [show j = 0 by omega] at hy
    cases hy
    exact (hD.2 i x hx).2 hxy
theorem la_o {D : va_G} {X : va_W} {qo : Nat} {e : va_E} {H : Heap} (hP : va_P D am_cs (X ++ [(qo, e)]) H) : va_at D am_cs (qo, e) H := hP X.length (qo, e) (by simp)
def lt_y : MethodName := ⟨"TownForestLaw", "town", "(LTownForest;II[J)I"⟩
def lt_rm : Room := { frames := 10, cells := 1, slots := 6, locals := 380 }
def lt_hh : List (Nat × Nat × Nat × Nat) := [(0, 10, 13, 13), (0, 10, 17, 15)]
def lt_w : Cond := .codeWith lt_y method_3_code 5 (some .int) lt_hh
theorem lt_win : lw_tbl[937]? = some lt_w := by decide +kernel
theorem lt_good : goodWord lt_w = true := by decide +kernel
theorem tw_win : lw_tbl[943]? = some (.code tw_y prog_1_method_20_code 3 (some .int)) ∧ lw_tbl[940]? = some (.methodLink "TownForestLaw" 7 tw_y) ∧ lw_tbl[941]? = some (.instanceMethod tw_y) ∧ lw_tbl[942]? = some (.selects "TownForest" tw_y tw_y) ∧ lw_tbl[65]? = some (.initialized "TownForest") ∧ lw_tbl[938]? = some (.classLink "TownForestLaw" 13 tx_I) ∧ lw_tbl[939]? = some (.classLink "TownForestLaw" 15 tx_N) := by decide +kernel
theorem lt_d5 : decode method_3_code 5 = .ok (.invokevirtual 7, 3) := by decide +kernel
section LT
variable {D : va_G} {rs : List (Nat × Nat)} {ad : Nat → Nat → Nat} {ca : Nat → ClassId} {tys : List (ClassId × FieldType)} {A : Nat → Prop} {qo : Nat} {cL : ClassId}
def lt_Pc (D : va_G) (rs : List (Nat × Nat)) (ad : Nat → Nat → Nat) (ca : Nat → ClassId) (A : Nat → Prop) (tys : List (ClassId × FieldType)) (qo : Nat) (cL : ClassId) (x y : Int32) (g : am_G) (fo : Nat → Int64) : Array Value → State → Prop :=
  va_Pc [.ref (ad 0 0), .int x, .int y, .ref qo] (fun U => va_P D am_cs (la_ws rs ad ca g qo cL fo) U.heap ∧ va_D A (la_ws rs ad ca g qo cL fo) ∧ va_K D am_cs tys U ∧ am_Nx U ∧ tw_Ex A U ∧ va_Nc tx_N tx_I U)
theorem lt_Pc_blind {x y : Int32} {g : am_G} {fo : Nat → Int64} : FrameBlind (lt_Pc D rs ad ca A tys qo cL x y g fo) := fun a U g mk q => by
  obtain ⟨q1, q2, q3, q4, q5, q6, q7⟩ := q
  exact ⟨q1, q2, q3, va_K.moved (u := U) (U := U.calling g mk a) (Vm.Alike.refl U.vm) q4, fun b i x h hm => va_Nw.same (u := U) (U := U.calling g mk a) rfl rfl (q5 b i x h hm), q6.calling, va_Nc.moved (u := U) (U := U.calling g mk a) (Vm.Alike.refl U.vm) q7⟩
def lt_Qc (D : va_G) (rs : List (Nat × Nat)) (ad : Nat → Nat → Nat) (ca : Nat → ClassId) (A : Nat → Prop) (qo : Nat) (cL : ClassId) (k v : Int32) (g1 : am_G) : Array Value → State → Outcome → State → Prop :=
  va_Qi (fun r (u : Nat → Int64) => r = k ∧ (k = 0 → u 0 = v.toInt64)) (fun u t => va_P D am_cs (la_ws rs ad ca g1 qo cL u) t.heap ∧ va_D A (la_ws rs ad ca g1 qo cL u)) A
set_option maxRecDepth 100000 in
set_option maxHeartbeats 4000000 in
theorem lt_met (l : Launch) (hl : l.stackTraces = false) (hrs : am_rsok rs = true) (hty : ∀ r ∈ rs, am_isA r.1 = true → ∃ t0 : Nat, tys[t0]? = some (ca r.1, am_aty r.1)) (h00 : (0, 0) ∈ rs) (h10 : (1, 0) ∈ rs) {t3 : Nat} (ht3 : tys[t3]? = some (cL, .long)) {g g1 : am_G} {x y k v : Int32} {fo : Nat → Int64}
    (hcase : (k = 0 ∧ am_call 9 102 [.inr (.inr (0, 0)), .inl x, .inl y] g = some (some (.inl v), g1)) ∨ (k = 1 ∧ g1 = g ∧ am_call 8 3 [.inr (.inr (1, 0)), .inl x] g = some (some (.inl 0), g)) ∨ (k = 2 ∧ g1 = g ∧ am_call 8 3 [.inr (.inr (1, 0)), .inl x] g = some (some (.inl 1), g) ∧ ¬ (0 ≤ y ∧ y < 10))) :
    Met l lt_y (lt_w :: am_tb) lt_rm (lt_Pc D rs ad ca A tys qo cL x y g fo) (lt_Qc D rs ad ca A qo cL k v g1) 1 6 A := by
  refine va_MetW (cc := method_3_code) (maxL := 5) (ret := some .int) (hh := lt_hh) (by decide) rfl ?_
  intro p e s m args below meth c s₁ B hml hv
  obtain ⟨rfl, hP, hD, hK, hN, hE, hNc⟩ := hv
  have hts0 := atoms_spec (ws := lt_w :: am_tb) B.pre
  have hts : ∀ w ∈ am_tb, w.before ([.ref (ad 0 0), .int x, .int y, .ref qo] : List Value).toArray s = true := fun w hw => hts0 w (List.mem_cons_of_mem _ hw)
  have htab : c.exceptionTable.toList = tableOf lt_hh := vx_table (x := lt_y) B (hts0 lt_w List.mem_cons_self)
  have hown : s.vm.findClass "TownForestLaw" = some m.cls := findClass_of_methodNamed B.named
  have hx := B.exec
  have hb := B.bytes
  have hr := B.returns
  have hlk := B.notSynchronized
  have fx : CallFix p m c method_3_code 5 s ([.ref (ad 0 0), .int x, .int y, .ref qo] : List Value).toArray am_tb "TownForestLaw" := ⟨hx, hb, hml, hown, hts⟩
  have hl0 := lv_entry ([.ref (ad 0 0), .int x, .int y, .ref qo]) (n := 5) (Nat.le_of_ble_eq_true rfl)
  show W p l e lt_rm s m ([.ref (ad 0 0), .int x, .int y, .ref qo] : List Value).toArray below meth c s.heap [] 0 0 (MQ below (lt_Qc D rs ad ca A qo cL k v g1) ([.ref (ad 0 0), .int x, .int y, .ref qo] : List Value).toArray s 1 6 A) (entryFrame m ([.ref (ad 0 0), .int x, .int y, .ref qo] : List Value).toArray 5)
  rw [lg_entry_eq]
  generalize (lg_sl ([.ref (ad 0 0), .int x, .int y, .ref qo]) ++ List.replicate (5 - (lg_sl ([.ref (ad 0 0), .int x, .int y, .ref qo])).length) Slot.unset).toArray = ls at hl0 ⊢
  have hl0 : lv_has ls 5 [(0, .ref (ad 0 0)), (1, .int x), (2, .int y), (3, .ref qo)] := hl0
  have hAq : A qo := la_Ao hD
  have hP1 := ct_P_l hP
  have hD1 := la_D1 hD
  have hoc := la_o hP
  have hqlt : qo < s.heap.size := va_at.lt hoc
  have hnA : ¬ la_A1 A qo qo := fun h => h.2 rfl
  have hA1 : ∀ q, la_A1 A qo q → A q := fun q h => h.1
  have hS0 : va_S A s.heap s.heap [] := va_S.rf
  refine lv_aload_n hx hb (k := 3) (by decide +kernel) rfl (lv_at hl0 3 rfl) ?_
  refine lv_iconst (n := 0) (v := 0) hx hb (by decide +kernel) (by decide) ?_
  refine lv_aload_n hx hb (k := 0) (by decide +kernel) rfl (lv_at hl0 0 rfl) ?_
  refine lv_iload_n hx hb (k := 1) (by decide +kernel) rfl (lv_at hl0 1 rfl) ?_
  refine lv_iload_n hx hb (k := 2) (by decide +kernel) rfl (lv_at hl0 2 rfl) ?_
  show W p l e lt_rm s m _ below meth c s.heap [] 0 0 _ (F0 m 5 ls [.int y, .int x, .ref (ad 0 0), .int 0, .ref qo])
  obtain ⟨q0, hq0⟩ := am_mem_at h00
  have he : (am_ws rs ad ca g)[q0]? = some (ad 0 0, am_cell ad ca g 0 0) := am_ws_at hq0
  have hrecv := va_recv (cl := am_cs) (ci := 9) (q0 := q0) hK hP1 (q := (RX9, TX9, 12)) rfl he
  have thrown : ∀ (E : String) (w : Int32), am_call 8 3 [.inr (.inr (1, 0)), .inl x] g = some (some (.inl w), g) → ((E = tx_I ∧ w = 0) ∨ (E = tx_N ∧ w = 1 ∧ ¬ (0 ≤ y ∧ y < 10))) →
      (∀ (ce : Cell) (q9 : Addr) (H1 : Heap) (locs1 : List Loc), va_P D am_cs (la_ws rs ad ca g qo cL fo) H1 → va_D A (la_ws rs ad ca g qo cL fo) → va_S A s.heap H1 locs1 → H1[q9]? = some ce → ce.vm = .none → s.vm.findClass E = some ce.cls → vx_W p l e lt_rm s m ([.ref (ad 0 0), .int x, .int y, .ref qo] : List Value).toArray below meth c H1 locs1 1 6 (MQ below (lt_Qc D rs ad ca A qo cL k v g1) ([.ref (ad 0 0), .int x, .int y, .ref qo] : List Value).toArray s 1 6 A) (F0 m 5 ls [.int 0, .ref qo]) q9) →
      W p l e lt_rm s m ([.ref (ad 0 0), .int x, .int y, .ref qo] : List Value).toArray below meth c s.heap [] 0 0 (MQ below (lt_Qc D rs ad ca A qo cL k v g1) ([.ref (ad 0 0), .int x, .int y, .ref qo] : List Value).toArray s 1 6 A) (F0 m 5 ls [.int y, .int x, .ref (ad 0 0), .int 0, .ref qo]) := by
    intro E w hhas hc kx
    have hrun := vx_runV (H := s.heap) (locs := []) (e := e) (below := below) (meth := meth) (cells := 0) (slots := 0) (R := lt_rm) (b := ad 0 0) (As := [.int x, .int y]) (rest := [.int 0, .ref qo]) (g := F0 m 5 ls [.int y, .int x, .ref (ad 0 0), .int 0, .ref qo]) (n := 2) (C := "TownForest") (index := 7) fx
      (tw_thrown (D := D) (rs := rs) (ad := ad) (ca := ca) (tys := tys) (A := la_A1 A qo) l hl hrs hty h00 h10 (y := y) hhas hc)
      ⟨callB_of (R := lt_rm) (own := "TownForestLaw") (index := 7) 2 hts (am_goodIn tw_win.1) rfl rfl rfl (hts _ (am_tb_at tw_win.2.2.2.2.1 rfl)) (hts _ (am_tb_at tw_win.2.1 rfl)) ⟨by decide, by decide, by decide +kernel⟩ ⟨Nat.le_of_ble_eq_true rfl, Nat.le_of_ble_eq_true rfl⟩, hts _ (am_tb_at tw_win.2.2.1 rfl), hts _ (am_tb_at tw_win.2.2.2.1 rfl)⟩
      ⟨tw_Pc_blind, hrecv, fun U hU hW => ⟨⟨rfl, by rw [hU]; exact hP1, hD1, va_K.moved hW.alike hK, hN.warm hW⟩, (hE.to hS0 hU hW).narrow hA1⟩⟩
      rfl rfl hl0.1 rfl (lv_room (Nat.le_of_ble_eq_true rfl)) lt_d5 ⟨Nat.le_of_ble_eq_true rfl, Nat.le_of_ble_eq_true rfl⟩
    refine vx_calli hrun hS0 (fun q _ h => h.1) hA1 (fun q _ h => h.1) (fun F ce q9 u t H1 locs1 ht hvm _ hBX hz hk1 hS1 hce hcv hcl => ?_) (fun r u t H1 locs1 _ _ hf => hf.elim)
    obtain ⟨rfl, hP2⟩ := hBX
    rw [ht] at hP2
    obtain ⟨hP3, hD3⟩ := la_P2 hP2 hD1 hAq hoc (hk1 qo hqlt hnA)
    exact kx ce q9 H1 locs1 hP3 hD3 hS1 hce hcv hcl
  rcases hcase with ⟨rfl, ho⟩ | ⟨rfl, rfl, ho⟩ | ⟨rfl, rfl, ho, hy⟩
  · refine la_call (b := 5) (idx := 7) (mi := 102) (n := 2) (rt := 1) (ci := 9) (pl := 940) (c0 := 0) (i0 := 0) (as := [.inl x, .inl y]) (rest := [.int 0, .ref qo]) (d := 9) (A := la_A1 A qo) (A0 := A) (cells := 0) (slots := 0) (R := lt_rm) fx hK hN ⟨Nat.le_of_ble_eq_true rfl, Nat.le_of_ble_eq_true rfl⟩ ⟨Nat.zero_le _, Nat.zero_le _⟩ (am_met l hrs hty 9) (by decide +kernel) (by decide +kernel) ho rfl (fun v hv => by
      rcases List.mem_cons.mp hv with rfl | hv
      · trivial
      · rw [List.mem_singleton.mp hv]; trivial) h00 ⟨_, rfl⟩ hP1 hD1 hS0 hA1 hl0.1 (Nat.le_of_ble_eq_true rfl) (fun H1 locs1 hP2 hD2 hS1 _ hk1 => ?_)
    obtain ⟨hP3, hD3⟩ := la_P2 hP2 hD2 hAq hoc (hk1 qo hqlt hnA)
    refine lv_i2l hx hb (v := v.toInt64) (by decide +kernel) rfl ?_
    refine va_last (D := D) hx hb hK hP3 hD3 hS1 (am_ws rs ad ca g1).length t3 (cA := cL) (n := 1) (f := fo) (by simp) ht3 (vp_in_nI (n := 0) (N := 1) (by omega) (by omega)) (by decide +kernel) (fun H2 locs2 hP4 hD4 hS2 => ?_)
    have e0 : (0 : Int32).toNatClampNeg = 0 := by decide
    have es : (am_ws rs ad ca g1 ++ [(qo, (.inl (cL, 1, .inr (.inl fo)) : va_E))]).set (am_ws rs ad ca g1).length (qo, .inl (cL, 1, .inr (.inl (vp_updL fo (0 : Int32).toNatClampNeg v.toInt64)))) = la_ws rs ad ca g1 qo cL (vp_updL fo 0 v.toInt64) := by
      rw [e0]
      unfold la_ws
      simp
    rw [es] at hP4 hD4
    refine lv_goto (off := 11) (tgt := 21) hx hb (by decide +kernel) (by decide) ?_
    refine lv_iconst (n := 0) (v := 0) hx hb (by decide +kernel) (by decide) ?_
    refine W.widen (k := 1) (n := 6) (Nat.zero_le _) (Nat.zero_le _) ?_
    exact W.iret (v := 0) hx hb hr (fun t ht hW => ⟨⟨0, vp_updL fo 0 v.toInt64, rfl, ⟨rfl, fun _ => by simp [vp_updL]⟩, by rw [ht]; exact hP4, hD4⟩, hS2.F ht⟩) hS2.2.2 (by decide +kernel)
  · refine thrown tx_I 0 ho (Or.inl ⟨rfl, rfl⟩) (fun ce q9 H1 locs1 hP3 hD3 hS1 hce hcv hcl => ?_)
    refine vx_catch (own := "TownForestLaw") (name := tx_I) (E := tx_I) hown [] ⟨0, 10, 13, 13⟩ [⟨0, 10, 17, 15⟩] htab (fun z hz => nomatch hz) (by decide) (by decide) (hts _ (am_tb_at tw_win.2.2.2.2.2.1 rfl)) (va_Nw.use rfl (hE.1 _ List.mem_cons_self)) hce hcv hcl ?_
    refine lv_astore (i := 4) (lv' := [(4, .ref q9), (0, .ref (ad 0 0)), (1, .int x), (2, .int y), (3, .ref qo)]) hx hb (by decide +kernel) hl0 (by decide) rfl (fun ls2 hl2 => ?_)
    refine lv_iconst (n := 1) (v := 1) hx hb (by decide +kernel) (by decide) ?_
    exact W.iret (v := 1) hx hb hr (fun t ht hW => ⟨⟨1, fo, rfl, ⟨rfl, fun h => absurd h (by decide)⟩, by rw [ht]; exact hP3, hD3⟩, hS1.F ht⟩) hS1.2.2 (by decide +kernel)
  · refine thrown tx_N 1 ho (Or.inr ⟨rfl, rfl, hy⟩) (fun ce q9 H1 locs1 hP3 hD3 hS1 hce hcv hcl => ?_)
    refine vx_catch (own := "TownForestLaw") (name := tx_N) (E := tx_N) hown [⟨0, 10, 13, 13⟩] ⟨0, 10, 17, 15⟩ [] htab (fun z hz => ?_) (by decide) (by decide) (hts _ (am_tb_at tw_win.2.2.2.2.2.2 rfl)) (va_Nw.use rfl (hE.1 _ (List.mem_cons_of_mem _ List.mem_cons_self))) hce hcv hcl ?_
    · rw [List.mem_singleton.mp hz]
      exact Or.inr ⟨by decide, tx_I, hts _ (am_tb_at tw_win.2.2.2.2.2.1 rfl), hNc⟩
    refine lv_astore (i := 4) (lv' := [(4, .ref q9), (0, .ref (ad 0 0)), (1, .int x), (2, .int y), (3, .ref qo)]) hx hb (by decide +kernel) hl0 (by decide) rfl (fun ls2 hl2 => ?_)
    refine lv_iconst (n := 2) (v := 2) hx hb (by decide +kernel) (by decide) ?_
    exact W.iret (v := 2) hx hb hr (fun t ht hW => ⟨⟨2, fo, rfl, ⟨rfl, fun h => absurd h (by decide)⟩, by rw [ht]; exact hP3, hD3⟩, hS1.F ht⟩) hS1.2.2 (by decide +kernel)
end LT
