/-! ===== town, where it throws ===== -/
def tw_y : MethodName := ⟨"TownForest", "town", "(II)I"⟩
def tw_rm : Room := { frames := 9, cells := 1, slots := 6, locals := 342 }
/-- what a throw needs of the tables and of the statics -/
def tw_Ex (A : Nat → Prop) (U : State) : Prop := tx_Nx U ∧ (∃ a, vk_R "TownForest" 212 "no such town" a U) ∧ (∃ a, vk_R "TownForest" 219 "no such what" a U) ∧ vx_Zq Bundle.tN "UNASSIGNED_STACK" Bundle.steD A U U.heap ∧ vx_Zq Bundle.tN "SUPPRESSED_SENTINEL" Bundle.listD A U U.heap
theorem tw_Ex.to {A : Nat → Prop} {s U : State} {H : Heap} {locs : List Loc} (h : tw_Ex A s) (hS : va_S A s.heap H locs) (hU : U.heap = H) (hW : s.WarmedH U.vm) : tw_Ex A U := by
  obtain ⟨h1, ⟨a, h2⟩, ⟨b, h3⟩, h4, h5⟩ := h
  exact ⟨h1.warm hW, ⟨a, vk_R.warm hW h2⟩, ⟨b, vk_R.warm hW h3⟩, by rw [hU]; exact vx_Zq.moved hW.alike (h4.kept hS.2.1), by rw [hU]; exact vx_Zq.moved hW.alike (h5.kept hS.2.1)⟩
theorem tw_Ex.narrow {A B : Nat → Prop} {s : State} (h : tw_Ex A s) (hAB : ∀ q, B q → A q) : tw_Ex B s := ⟨h.1, h.2.1, h.2.2.1, h.2.2.2.1.narrow hAB, h.2.2.2.2.narrow hAB⟩
theorem tw_Ex.calling {A : Nat → Prop} {U : State} {g : JFrame} {mk : MethodId} {a : Array Value} (h : tw_Ex A U) : tw_Ex A (U.calling g mk a) := by
  obtain ⟨h1, ⟨x, h2⟩, ⟨y, h3⟩, h4, h5⟩ := h
  exact ⟨tx_Nx.same (u := U) (U := U.calling g mk a) rfl h1, ⟨x, vk_R.same (u := U) (U := U.calling g mk a) rfl h2⟩, ⟨y, vk_R.same (u := U) (U := U.calling g mk a) rfl h3⟩, vx_Zq.moved (u := U) (U := U.calling g mk a) (Vm.Alike.refl U.vm) h4, vx_Zq.moved (u := U) (U := U.calling g mk a) (Vm.Alike.refl U.vm) h5⟩
def tw_Pc (D : va_G) (rs : List (Nat × Nat)) (ad : Nat → Nat → Nat) (ca : Nat → ClassId) (A : Nat → Prop) (tys : List (ClassId × FieldType)) (as : List am_V) (g : am_G) : Array Value → State → Prop := fun v U => am_Pc D rs ad ca A tys as g v U ∧ tw_Ex A U
theorem tw_Pc_blind {D : va_G} {rs : List (Nat × Nat)} {ad : Nat → Nat → Nat} {ca : Nat → ClassId} {A : Nat → Prop} {tys : List (ClassId × FieldType)} {as : List am_V} {g : am_G} : FrameBlind (tw_Pc D rs ad ca A tys as g) := fun a U g mk q => ⟨am_Pc_blind a U g mk q.1, q.2.calling⟩
theorem tx_hat {L : List Cond} (hL : L.all (fun w => decide (w ∈ am_tb) || decide (w ∈ tx_ng)) = true) {args : Array Value} {s : State} (hts : ∀ w ∈ am_tb, w.before args s = true) (hng : tx_Nx s) : ∀ w ∈ L, w.before args s = true := by
  intro w hw
  have h := List.all_eq_true.mp hL w hw
  rw [Bool.or_eq_true] at h
  rcases h with h | h
  · exact hts w (of_decide_eq_true h)
  · have hm := of_decide_eq_true h
    exact va_Nw.use (List.all_eq_true.mp tx_ngot w hm) (hng w hm)
section TM
variable {D : va_G} {rs : List (Nat × Nat)} {ad : Nat → Nat → Nat} {ca : Nat → ClassId} {tys : List (ClassId × FieldType)} {A : Nat → Prop}
def tw_XC (D : va_G) (rs : List (Nat × Nat)) (ad : Nat → Nat → Nat) (ca : Nat → ClassId) (A : Nat → Prop) (g : am_G) (E : String) : String → State → State → Prop := vx_X (fun _ : Unit => True) (fun F _ t => F = E ∧ va_P D am_cs (am_ws rs ad ca g) t.heap) A
theorem tw_XCof {g : am_G} {E : String} {s : State} {H : Heap} {locs : List Loc} (hP : va_P D am_cs (am_ws rs ad ca g) H) (hS : va_S A s.heap H locs) : ∀ t : State, s.vm.Alike t.vm → H.size ≤ t.heap.size → (∀ q : Nat, q < H.size → t.heap[q]? = H[q]?) → tw_XC D rs ad ca A g E E s t := fun t _ hz hk =>
  ⟨(), trivial, ⟨rfl, hP.kept fun i q hq => hk q.1 (hP i q hq).lt⟩, Nat.le_trans hS.1 hz, fun q h1 h2 => (hk q (Nat.lt_of_lt_of_le h1 hS.1)).trans (hS.2.1 q h1 h2)⟩
set_option maxRecDepth 100000 in
set_option maxHeartbeats 4000000 in
theorem tw_thrown (l : Launch) (hl : l.stackTraces = false) (hrs : am_rsok rs = true) (hty : ∀ r ∈ rs, am_isA r.1 = true → ∃ t0 : Nat, tys[t0]? = some (ca r.1, am_aty r.1)) (h00 : (0, 0) ∈ rs) (h10 : (1, 0) ∈ rs) {g : am_G} {x y v : Int32} {E : String} (hhas : am_call 8 3 [.inr (.inr (1, 0)), .inl x] g = some (some (.inl v), g))
    (hcase : (E = tx_I ∧ v = 0) ∨ (E = tx_N ∧ v = 1 ∧ ¬ (0 ≤ y ∧ y < 10))) :
    vx_Met l tw_y (Cond.code tw_y prog_1_method_20_code 3 (some .int) :: am_tb) tw_rm (tw_Pc D rs ad ca A tys [.inr (.inr (0, 0)), .inl x, .inl y] g) (va_Qi (fun _ (_ : Unit) => False) (fun _ _ => True) A) (tw_XC D rs ad ca A g E) 1 6 A := by
  refine vx_ofW (cc := prog_1_method_20_code) (maxL := 3) (ret := some .int) (by decide) rfl ?_
  intro p e s m args below meth c s₁ B hml htab hv
  obtain ⟨⟨rfl, hP, hD, hK, hN⟩, hng, ⟨a1, hs1⟩, ⟨a2, hs2⟩, hU, hV⟩ := hv
  have hts0 := atoms_spec (ws := Cond.code tw_y prog_1_method_20_code 3 (some .int) :: am_tb) B.pre
  have hts : ∀ w ∈ am_tb, w.before ([.ref (ad 0 0), .int x, .int y] : List Value).toArray s = true := fun w hw => hts0 w (List.mem_cons_of_mem _ hw)
  have hown : s.vm.findClass "TownForest" = some m.cls := findClass_of_methodNamed B.named
  have hx := B.exec
  have hb := B.bytes
  have hlk := B.notSynchronized
  have fx : CallFix p m c prog_1_method_20_code 3 s ([.ref (ad 0 0), .int x, .int y] : List Value).toArray am_tb "TownForest" := ⟨hx, hb, hml, hown, hts⟩
  have hl0 := lv_entry ([.ref (ad 0 0), .int x, .int y]) (n := 3) (Nat.le_of_ble_eq_true rfl)
  show W p l e tw_rm s m ([.ref (ad 0 0), .int x, .int y] : List Value).toArray below meth c s.heap [] 0 0 (vx_MQ below (va_Qi (fun _ (_ : Unit) => False) (fun _ _ => True) A) (tw_XC D rs ad ca A g E) ([.ref (ad 0 0), .int x, .int y] : List Value).toArray s 1 6 A) (entryFrame m ([.ref (ad 0 0), .int x, .int y] : List Value).toArray 3)
  rw [lg_entry_eq]
  generalize (lg_sl ([.ref (ad 0 0), .int x, .int y]) ++ List.replicate (3 - (lg_sl ([.ref (ad 0 0), .int x, .int y])).length) Slot.unset).toArray = ls at hl0 ⊢
  have hl0 : lv_has ls 3 [(0, .ref (ad 0 0)), (1, .int x), (2, .int y)] := hl0
  refine lv_aload_n hx hb (k := 0) (by decide +kernel) rfl (lv_at hl0 0 rfl) ?_
  obtain ⟨q0, hq0⟩ := am_mem_at h00
  obtain ⟨cw, cty, cnm⟩ := am_cls (ci := 9) (C := RX9) (T := TX9) (N := 12) rfl
  refine va_get (D := D) (ci := 9) (v := .ref (ad 1 0)) (C := RX9) (T := TX9) (N := 12) hx hb hts cw hown hK hP q0 (am_ws_at hq0) rfl 2 (by decide) (hts _ (am_tb_at (i := 338) (w := .fieldLink "TownForest" 20 (TX9 2).1 (TX9 2).2.1 (TX9 2).2.2.1) (by decide +kernel) rfl)) (fun _ h9 => h9) rfl (by decide +kernel) ?_
  refine lv_iload_n hx hb (k := 1) (by decide +kernel) rfl (lv_at hl0 1 rfl) ?_
  refine la_call (b := 5) (idx := 104) (mi := 3) (n := 1) (rt := 1) (ci := 0) (pl := 568) (c0 := 1) (i0 := 0) (as := [.inl x]) (rest := []) (d := 8) (A0 := A) (cells := 0) (slots := 0) (R := tw_rm) fx hK hN ⟨Nat.le_of_ble_eq_true rfl, Nat.le_of_ble_eq_true rfl⟩ ⟨Nat.zero_le _, Nat.zero_le _⟩ (am_met l hrs hty 8) (by decide +kernel) (by decide +kernel) hhas rfl (fun v hv => by rw [List.mem_singleton.mp hv]; trivial) h10 ⟨_, rfl⟩ hP hD va_S.rf (fun _ h => h) hl0.1 (Nat.le_of_ble_eq_true rfl) (fun H1 locs1 hP1 hD1 hS1 _ _ => ?_)
  show W p l e tw_rm s m _ below meth c H1 locs1 0 0 _ (F0 m 8 ls [.int v])
  have hout : ∀ (n : Nat), ∀ z ∈ c.exceptionTable.toList, covers z n = false := fun n z hz => (htab z hz).elim
  rcases hcase with ⟨rfl, rfl⟩ | ⟨rfl, rfl, hy⟩
  · refine lv_if_ne (off := 13) (tgt := 21) hx hb (by decide +kernel) (by decide) (fun q => absurd rfl q) (fun _ => ?_)
    exact tx_throw (pc := 11) (own := "TownForest") (cls := tx_I) (Y := tx_R) (text := "no such town") (names := ["java/lang/Exception"]) (ik := 210) (is := 212) (ic := 214) (ix := 7) (bx := prog_15_method_2_code) (A := A) hx hb hl hown (by decide +kernel) (by decide +kernel) (by decide +kernel) (by decide +kernel) (by decide +kernel) (by decide +kernel) (by decide +kernel) (hts _ (am_tb_at (i := 944) (w := .classLink "TownForest" 210 tx_I) (by decide +kernel) rfl)) (hts _ (am_tb_at (i := 81) (w := .initialized tx_I) (by decide +kernel) rfl)) hs1 (tx_hat tx_spI hts hng) (fun w hw => List.all_eq_true.mp tx_otI w hw) hU hV hS1 (hl0.1.trans hml.symm) (by decide +kernel) (by decide +kernel) (by decide +kernel) (by decide +kernel) (by decide +kernel) (hout _) (by decide) (Nat.le_of_ble_eq_true rfl) (by decide) (by decide) hlk (tw_XCof hP1 hS1) hS1.2.2 (by decide) (by decide)
  · have thr : W p l e tw_rm s m ([.ref (ad 0 0), .int x, .int y] : List Value).toArray below meth c H1 locs1 0 0 (vx_MQ below (va_Qi (fun _ (_ : Unit) => False) (fun _ _ => True) A) (tw_XC D rs ad ca A g tx_N) ([.ref (ad 0 0), .int x, .int y] : List Value).toArray s 1 6 A) (F0 m 31 ls []) :=
      tx_throw (pc := 31) (own := "TownForest") (cls := tx_N) (Y := tx_R) (text := "no such what") (names := ["java/lang/Exception"]) (ik := 217) (is := 219) (ic := 221) (ix := 13) (bx := prog_21_method_4_code) (A := A) hx hb hl hown (by decide +kernel) (by decide +kernel) (by decide +kernel) (by decide +kernel) (by decide +kernel) (by decide +kernel) (by decide +kernel) (hts _ (am_tb_at (i := 1011) (w := .classLink "TownForest" 217 tx_N) (by decide +kernel) rfl)) (hts _ (am_tb_at (i := 82) (w := .initialized tx_N) (by decide +kernel) rfl)) hs2 (tx_hat tx_spN hts hng) (fun w hw => List.all_eq_true.mp tx_otN w hw) hU hV hS1 (hl0.1.trans hml.symm) (by decide +kernel) (by decide +kernel) (by decide +kernel) (by decide +kernel) (by decide +kernel) (hout _) (by decide) (Nat.le_of_ble_eq_true rfl) (by decide) (by decide) hlk (tw_XCof hP1 hS1) hS1.2.2 (by decide) (by decide)
    refine lv_if_ne (off := 13) (tgt := 21) hx hb (by decide +kernel) (by decide) (fun _ => ?_) (fun q => absurd q (by decide))
    refine lv_iload_n hx hb (k := 2) (by decide +kernel) rfl (lv_at hl0 2 rfl) ?_
    refine lv_if_lt (off := 9) (tgt := 31) hx hb (by decide +kernel) (by decide) (fun _ => thr) (fun hy0 => ?_)
    refine lv_iload_n hx hb (k := 2) (by decide +kernel) rfl (lv_at hl0 2 rfl) ?_
    refine lv_bipush (n := 10) (v := 10) hx hb (by decide +kernel) (by decide) ?_
    refine lv_icmp_lt (off := 13) (tgt := 41) hx hb (by decide +kernel) (by decide) (fun hy1 => ?_) (fun _ => thr)
    exact absurd ⟨by rw [q_le]; rw [q_lt] at hy0; omega, hy1⟩ hy
end TM
