/-! ===== constructors: rows ===== -/
theorem ct_o : lw_tbl[89]? = some (.instanceMethod Lib.objectInit) ∧ lw_tbl[90]? = some (.code Lib.objectInit ⟨#[0xb1]⟩ 1 none) ∧ lw_tbl[140]? = some (.arrayClass .int) := by decide +kernel
/-- the class's memory when it is new -/
def ct_g : am_G := fun c _ _ => bif c == 109 then -1 else 0
theorem ct_g4 : ∀ i, ct_g 110 i 0 = 0 := fun _ => rfl
def ct_ca (k : ct_K3) : Nat → ClassId := fun c => bif c == 15 then k.2.1 else bif c == 24 then k.2.2 else k.1
def ct_tys (k : ct_K3) : List (ClassId × FieldType) := [(k.1, .int), (k.2.1, .object "TownForest$Forest"), (k.2.2, .array .int)]
/-- an object's fields before its constructor -/
def ct_raw (ci N : Nat) : List Value := (List.range N).map (fun j => defaultValue (am_ty ci j))
theorem ct_raw_V {ci N j : Nat} (h : j < N) : defaultValue (am_ty ci j) = vp_V (ct_raw ci N) j := by
  unfold vp_V ct_raw
  rw [List.getD_eq_getElem?_getD, List.getElem?_map, List.getElem?_range h]
  rfl
theorem ct_cI {D : va_G} {tys : List (ClassId × FieldType)} {cA c0 : ClassId} {t0 : Nat} {s : State} (h : va_K D am_cs (tys ++ [(cA, .int)]) s) (h0 : tys[t0]? = some (c0, .int)) : cA = c0 := by
  have a : s.vm.findClass ("[" ++ FieldType.int.toString) = some cA := (h.2 tys.length (cA, .int) (by simp)).2
  have b : s.vm.findClass ("[" ++ FieldType.int.toString) = some c0 := (h.2 t0 (c0, .int) (by rw [List.getElem?_append_left (List.getElem?_eq_some_iff.mp h0).1]; exact h0)).2
  exact Option.some.inj (a.symm.trans b)
/-- what of the tables isn't among the words that hold in every later state -/
def ct_Ex (k : ct_K3) (U : State) : Prop := va_AO "TownForest$Forest" U ∧ ct_MO k U ∧ am_Nx U
theorem ct_Ex.warm {k : ct_K3} {s U : State} (hW : s.WarmedH U.vm) (h : ct_Ex k s) : ct_Ex k U := ⟨h.1.moved hW.alike, h.2.1.moved hW.alike, h.2.2.warm hW⟩
def ct_Pc (D : va_G) (k : ct_K3) (h0 sz : Nat) (e : va_E) : Array Value → State → Prop := va_Pc [.ref h0] (fun U => U.heap.size = sz ∧ va_P D am_cs [(h0, e)] U.heap ∧ va_K D am_cs (ct_tys k) U ∧ ct_Ex k U)
def ct_Qc (D : va_G) (k : ct_K3) (h0 sz : Nat) (e : va_E) (r0 : Nat × Nat) (rs : List (Nat × Nat)) : Array Value → State → Outcome → State → Prop :=
  va_Qv (fun ad : Nat → Nat → Nat => ad r0.1 r0.2 = h0) (fun ad t => va_P D am_cs (am_ws rs ad (ct_ca k) ct_g) t.heap ∧ va_D (va_A [(h0, e)] sz) (am_ws rs ad (ct_ca k) ct_g)) (va_A [(h0, e)] sz)
/-- a constructor's contract: the cells rs come, the object is r0 among them -/
def ct_Met (l : Launch) (y : MethodName) (cc : ByteArray) (maxL : Nat) (rm : Room) (D : va_G) (k : ct_K3) (e : va_E) (r0 : Nat × Nat) (rs : List (Nat × Nat)) : Prop :=
  ∀ h0 sz : Nat, Met l y (Cond.code y cc maxL none :: am_tb) rm (ct_Pc D k h0 sz e) (ct_Qc D k h0 sz e r0 rs) rm.cells rm.slots (va_A [(h0, e)] sz)
theorem ct_Pc_blind {D : va_G} {k : ct_K3} {h0 sz : Nat} {e : va_E} : FrameBlind (ct_Pc D k h0 sz e) := fun a U g mk q => by
  obtain ⟨q1, q2, q3, q4, q5, q6, q7⟩ := q
  exact ⟨q1, q2, q3, va_K.moved (u := U) (U := U.calling g mk a) (Vm.Alike.refl U.vm) q4, va_AO.moved (u := U) (U := U.calling g mk a) (Vm.Alike.refl U.vm) q5, ct_MO.moved (u := U) (U := U.calling g mk a) (Vm.Alike.refl U.vm) q6, fun b i x h hm => va_Nw.same (u := U) (U := U.calling g mk a) rfl rfl (q7 b i x h hm)⟩
theorem ct_D1 {h0 sz : Nat} {e : va_E} : va_D (va_A [(h0, e)] sz) [(h0, e)] := by
  refine ⟨fun i j x y hx hy _ => ?_, fun k q hk => Or.inl ⟨k, q.2, hk⟩⟩
  have h1 : i < 1 := (List.getElem?_eq_some_iff.mp hx).1
  have h2 : j < 1 := (List.getElem?_eq_some_iff.mp hy).1
  omega
section CT
variable {p : Program} {l : Launch} {e : Env} {R : Room} {s : State} {m : MethodId} {args : Array Value} {below : List Frame} {meth : Method} {c : Code} {Q : State → Prop} {ls : Array Slot} {D : va_G} {k : ct_K3} {A : Nat → Prop} {cc : ByteArray} {nL : Nat} {own : String} {h0 : Nat}
def ct_Cx (p : Program) (R : Room) (s : State) (m : MethodId) (args : Array Value) (meth : Method) (c : Code) (cc : ByteArray) (nL : Nat) (own : String) (ls : Array Slot) (h0 : Nat) (D : va_G) (k : ct_K3) (A : Nat → Prop) : Prop :=
  CallFix p m c cc nL s args am_tb own ∧ meth.name = "<init>" ∧ lv_has ls nL [(0, .ref h0)] ∧ va_K D am_cs (ct_tys k) s ∧ ct_Ex k s ∧ ∀ q, s.heap.size ≤ q → A q
def ct_W (p : Program) (l : Launch) (e : Env) (R : Room) (s : State) (m : MethodId) (args : Array Value) (below : List Frame) (meth : Method) (c : Code) (Q : State → Prop) (ls : Array Slot) (D : va_G) (A : Nat → Prop) (pc : Nat) (ws : va_W) (cn sn : Nat) : Prop :=
  ∀ (H : Heap) (locs : List Loc), va_P D am_cs ws H → va_D A ws → va_S A s.heap H locs → W p l e R s m args below meth c H locs cn sn Q (F0 m pc ls [])
theorem ct_super (C : ct_Cx p R s m args meth c cc nL own ls h0 D k A) {pc idx pl cn sn : Nat} {ws : va_W} (d0 : decode cc pc = .ok (.aload_n 0, 1)) (d1 : decode cc (pc + 1) = .ok (.invokespecial idx, 3)) (hw : lw_tbl[pl]? = some (.methodLink own idx Lib.objectInit)) (hR : 1 ≤ R.frames ∧ 12 ≤ R.locals)
    (kk : ct_W p l e R s m args below meth c Q ls D A (pc + 4) ws cn sn) : ct_W p l e R s m args below meth c Q ls D A pc ws cn sn := by
  obtain ⟨⟨hx, hb, hml, hown, hts⟩, hin, hl, hK, hE, hA⟩ := C
  intro H locs hP hD hS
  refine lv_aload_n hx hb d0 rfl (lv_at hl 0 rfl) ?_
  refine W.objInit hx hb hown (hts _ (am_tb_at hw rfl)) (hts _ (am_tb_at ct_o.1 rfl)) (hts _ (am_tb_at ct_o.2.1 rfl)) rfl (by rw [hml]; exact hl.1) rfl d1 hR.1 hR.2 ?_
  exact W.eq (g2 := F0 m (pc + 4) ls []) rfl (kk H locs hP hD hS)
theorem ct_put {ls' : Array Slot} (C : ct_Cx p R s m args meth c cc nL own ls' h0 D k A) {H : Heap} {locs : List Loc} {pc idx pl cn sn f N ci : Nat} {v : Value} {X : va_W} {fs : List Value} {Cn : String} {T : u_T} (hP : va_P D am_cs ((h0, .inr (ci, fs)) :: X) H) (hD : va_D A ((h0, .inr (ci, fs)) :: X)) (hS : va_S A s.heap H locs)
    (hc : am_cs[ci]? = some (Cn, T, N)) (hf : f < N) (hw : lw_tbl[pl]? = some (.fieldLink own idx (T f).1 (T f).2.1 (T f).2.2.1)) (hfin : (T f).2.2.2 = false ∨ ((T f).2.2.2 = true ∧ (T f).1 = own)) (hn : narrow (am_ty ci f) v = v) (hfit : fits (am_ty ci f) v = true) (hl : f < fs.length) (hd : decode cc pc = .ok (.putfield idx, 3))
    (kk : ct_W p l e R s m args below meth c Q ls D A (pc + 3) ((h0, .inr (ci, fs.set f v)) :: X) cn sn) : W p l e R s m args below meth c H locs cn sn Q (F0 m pc ls [v, .ref h0]) := by
  obtain ⟨⟨hx, hb, hml, hown, hts⟩, hin, -, hK, hE, hA⟩ := C
  obtain ⟨cw, cty, cnm⟩ := am_cls hc
  rcases hfin with h1 | ⟨h1, h2⟩
  · exact va_put (D := D) (ci := ci) (C := Cn) (T := T) (N := N) (v := v) (ty := am_ty ci f) hx hb hts cw (am_ty ci) cty cnm hown hK hP hD hS 0 rfl hc f hf (hts _ (am_tb_at hw rfl)) (fun _ h9 => h9) h1 (cty f hf) hn hfit hl hd (fun H1 locs1 hP1 hD1 hS1 => kk H1 locs1 hP1 hD1 hS1)
  · exact va_putF (D := D) (ci := ci) (C := Cn) (T := T) (N := N) (v := v) (ty := am_ty ci f) hx hb hts cw (am_ty ci) cty cnm hown hK hP hD hS 0 rfl hc f hf (hts _ (am_tb_at hw rfl)) (fun _ h9 => h9) h1 hin h2 (cty f hf) hn hfit hl hd (fun H1 locs1 hP1 hD1 hS1 => kk H1 locs1 hP1 hD1 hS1)
/-- this.f = v -/
theorem ct_int (C : ct_Cx p R s m args meth c cc nL own ls h0 D k A) {pc idx pl cn sn f N ci : Nat} {n : Int} {v : Int32} {X : va_W} {fs : List Value} {Cn : String} {T : u_T} (d0 : decode cc pc = .ok (.aload_n 0, 1)) (d1 : decode cc (pc + 1) = .ok (.iconst n, 1)) (hv : Int32.ofInt n = v) (d2 : decode cc (pc + 2) = .ok (.putfield idx, 3))
    (hc : am_cs[ci]? = some (Cn, T, N)) (hf : f < N) (hw : lw_tbl[pl]? = some (.fieldLink own idx (T f).1 (T f).2.1 (T f).2.2.1)) (hfin : (T f).2.2.2 = false) (hn : narrow (am_ty ci f) (.int v) = .int v) (hfit : fits (am_ty ci f) (.int v) = true) (hl : f < fs.length)
    (kk : ct_W p l e R s m args below meth c Q ls D A (pc + 5) ((h0, .inr (ci, fs.set f (.int v))) :: X) cn sn) : ct_W p l e R s m args below meth c Q ls D A pc ((h0, .inr (ci, fs)) :: X) cn sn := by
  obtain ⟨⟨hx, hb, hml, hown, hts⟩, hin, hl0, hK, hE, hA⟩ := id C
  intro H locs hP hD hS
  refine lv_aload_n hx hb d0 rfl (lv_at hl0 0 rfl) ?_
  refine lv_iconst (v := v) hx hb d1 hv ?_
  exact ct_put (pc := pc + 2) C hP hD hS hc hf hw (Or.inl hfin) hn hfit hl d2 kk
/-- this.f = new int[n] -/
theorem ct_arr (C : ct_Cx p R s m args meth c cc nL own ls h0 D k A) {pc ln idx pl cn sn f N ci N' : Nat} {n : Int32} {X : va_W} {fs : List Value} {Cn : String} {T : u_T} (d0 : decode cc pc = .ok (.aload_n 0, 1))
    (hpush : ∀ (H : Heap) (locs : List Loc), W p l e R s m args below meth c H locs cn sn Q (F0 m (pc + 1 + ln) ls [.int n, .ref h0]) → W p l e R s m args below meth c H locs cn sn Q (F0 m (pc + 1) ls [.ref h0])) (d2 : decode cc (pc + 1 + ln) = .ok (.newarray .int, 2)) (d3 : decode cc (pc + 1 + ln + 2) = .ok (.putfield idx, 3))
    (hn0 : ¬ n < 0) (hN : n.toNatClampNeg = N') (hby : N' * 4 ≤ 536870912) (hcs : cn + 1 ≤ R.cells) (hss : sn + N' ≤ R.slots)
    (hc : am_cs[ci]? = some (Cn, T, N)) (hf : f < N) (hw : lw_tbl[pl]? = some (.fieldLink own idx (T f).1 (T f).2.1 (T f).2.2.1)) (hfin : (T f).2.2.2 = false ∨ ((T f).2.2.2 = true ∧ (T f).1 = own)) (hty : am_ty ci f = .array .int) (hl : f < fs.length)
    (kk : ∀ q : Nat, ct_W p l e R s m args below meth c Q ls D A (pc + 1 + ln + 5) ((h0, .inr (ci, fs.set f (.ref q))) :: (X ++ [(q, .inl (k.1, N', .inl (fun _ => 0)))])) (cn + 1) (sn + N')) : ct_W p l e R s m args below meth c Q ls D A pc ((h0, .inr (ci, fs)) :: X) cn sn := by
  obtain ⟨⟨hx, hb, hml, hown, hts⟩, hin, hl0, hK, hE, hA⟩ := id C
  intro H locs hP hD hS
  refine lv_aload_n hx hb d0 rfl (lv_at hl0 0 rfl) ?_
  refine hpush H locs ?_
  refine va_newa (atype := .int) (ty := .int) (a0 := (N', .inl (fun _ => 0))) hx hb (hts _ (am_tb_at ct_o.2.2 rfl)) rfl hK hP hD hS hA (fun cA => rfl) hn0 hN hby hcs hss d2 (fun q cA H1 hK1 hP1 hD1 hS1 => ?_)
  have e1 : cA = k.1 := ct_cI (t0 := 0) hK1 rfl
  subst e1
  have hP1 : va_P D am_cs ((h0, .inr (ci, fs)) :: (X ++ [(q, .inl (k.1, N', .inl (fun _ => 0)))])) H1 := hP1
  have hD1 : va_D A ((h0, .inr (ci, fs)) :: (X ++ [(q, .inl (k.1, N', .inl (fun _ => 0)))])) := hD1
  exact ct_put (pc := pc + 1 + ln + 2) C hP1 hD1 hS1 hc hf hw hfin (by rw [hty]; rfl) (by rw [hty]; rfl) hl d3 (kk q)
/-- new C() -/
theorem ct_make {H : Heap} {locs : List Loc} {pc ik ii cn sn N1 ci1 maxL p1 p2 p3 p4 p5 p6 : Nat} {rest : List Value} {X : va_W} {C1 : String} {T1 : u_T} {y : MethodName} {cy : ByteArray} {rm : Room} {r1 : Nat × Nat} {rs1 : List (Nat × Nat)} (fx : CallFix p m c cc nL s args am_tb own) (hK : va_K D am_cs (ct_tys k) s) (hE : ct_Ex k s) (hA : ∀ q, s.heap.size ≤ q → A q) (hsz : ls.size = nL)
    (hM : ct_Met l y cy maxL rm D k (.inr (ci1, ct_raw ci1 N1)) r1 rs1) (hc1 : am_cs[ci1]? = some (C1, T1, N1)) (hy : y.cls = C1 ∧ y.name = "<init>" ∧ (parseMethodDescriptor y.desc).map (fun d => d.parameters.length) = some 0) (hcn : C1 ≠ "java/lang/invoke/MethodHandle" ∧ C1 ≠ "java/lang/invoke/VarHandle")
    (w1 : lw_tbl[p1]? = some (.classLink own ik C1)) (w2 : lw_tbl[p2]? = some (.instantiable C1 N1)) (w3 : lw_tbl[p3]? = some (.initialized C1)) (w4 : lw_tbl[p4]? = some (.methodLink own ii y)) (w5 : lw_tbl[p5]? = some (.instanceMethod y)) (w6 : lw_tbl[p6]? = some (.code y cy maxL none))
    (hR : rm.frames + 1 ≤ R.frames ∧ 8 + (maxL + 11) + rm.locals ≤ R.locals) (hcc : cn + 1 + rm.cells ≤ R.cells) (hss : sn + N1 + rm.slots ≤ R.slots) (hrest : (rest.map fun v => v.category).sum ≤ 7)
    (d1 : decode cc pc = .ok (.new ik, 3)) (d2 : decode cc (pc + 3) = .ok (.dup, 1)) (d3 : decode cc (pc + 4) = .ok (.invokespecial ii, 3)) (hP : va_P D am_cs X H) (hD : va_D A X) (hS : va_S A s.heap H locs)
    (kk : ∀ (q : Nat) (ad : Nat → Nat → Nat) (H1 : Heap) (locs1 : List Loc), ad r1.1 r1.2 = q → va_P D am_cs (X ++ am_ws rs1 ad (ct_ca k) ct_g) H1 → va_D A (X ++ am_ws rs1 ad (ct_ca k) ct_g) → va_S A s.heap H1 locs1 → W p l e R s m args below meth c H1 locs1 (cn + 1 + rm.cells) (sn + N1 + rm.slots) Q (F0 m (pc + 7) ls (.ref q :: rest))) : W p l e R s m args below meth c H locs cn sn Q (F0 m pc ls rest) := by
  obtain ⟨hx, hb, hml, hown, hts⟩ := id fx
  obtain ⟨cw, cty, cnm⟩ := am_cls hc1
  refine va_new (D := D) (ci := ci1) (fs := ct_raw ci1 N1) (C := C1) (T := T1) (N := N1) hx hb hts cw (am_ty ci1) cty hown (hts _ (am_tb_at w1 rfl)) (hts _ (am_tb_at w2 rfl)) (hts _ (am_tb_at w3 rfl)) hK hP hD hS hA hc1 (fun j hj => ct_raw_V hj) (by omega) (by omega) d1 (fun q H1 hP1 hD1 hS1 => ?_)
  refine lv_dup hx hb d2 rfl ?_
  have hfr : ∀ z, va_A [(q, (.inr (ci1, ct_raw ci1 N1) : va_E))] H1.size z → A z := by
    intro z hz
    rcases hz with ⟨k2, e2, h⟩ | h
    · have hk2 : k2 < 1 := (List.getElem?_eq_some_iff.mp h).1
      rw [show k2 = 0 by omega] at h
      have e3 : (q, _) = (z, e2) := Option.some.inj h
      have := hD1.2 X.length (q, .inr (ci1, ct_raw ci1 N1)) (by simp)
      rw [show z = q from (congrArg Prod.fst e3).symm]
      exact this
    · exact hA z (Nat.le_trans hS1.1 h)
  have hPc : va_P D am_cs [(q, .inr (ci1, ct_raw ci1 N1))] H1 := ct_P_r hP1
  have hini : (Cond.initialized y.cls).before args s = true := by rw [hy.1]; exact hts _ (am_tb_at w3 rfl)
  refine va_callv (va_runI (g := F0 m (pc + 4) ls (.ref q :: .ref q :: rest)) (As := []) (rest := .ref q :: rest) fx (hM q H1.size) (cwI 0 hts (am_goodIn w6) rfl rfl rfl hini (hts _ (am_tb_at w4 rfl)) (hts _ (am_tb_at w5 rfl)) hy.2.1 ⟨by rw [hy.1]; exact hcn.1, by rw [hy.1]; exact hcn.2, hy.2.2⟩ hR)
    ⟨ct_Pc_blind, fun U hU hW => ⟨rfl, by rw [hU], by rw [hU]; exact hPc, va_K.moved hW.alike hK, hE.warm hW⟩⟩ rfl rfl hsz rfl (lv_room (by simp only [List.map_cons, List.sum_cons]; show 1 + _ ≤ 8; omega)) d3 ⟨hcc, hss⟩) hS1 (fun z _ h => hfr z h) hfr (fun ad t H2 locs2 ht hvm hw hB hz1 hk1 hS2 => ?_)
  obtain ⟨hP2, hD2⟩ := hB
  rw [ht] at hP2
  obtain ⟨hPj, hDj⟩ := ct_join hP1 hD1 hfr hk1 hP2 hD2
  exact kk q ad H2 locs2 hw hPj hDj hS2
/-- this.f = new C(), its cells put to those that are there -/
theorem ct_obj (C : ct_Cx p R s m args meth c cc nL own ls h0 D k A) {pc ik ii cn sn N1 ci1 maxL p1 p2 p3 p4 p5 p6 idx pl f N ci : Nat} {fs : List Value} {Cn : String} {T : u_T} {C1 : String} {T1 : u_T} {y : MethodName} {cy : ByteArray} {rm : Room} {r1 : Nat × Nat} {rs rs1 : List (Nat × Nat)} {ad0 : Nat → Nat → Nat}
    (hM : ct_Met l y cy maxL rm D k (.inr (ci1, ct_raw ci1 N1)) r1 rs1) (hc1 : am_cs[ci1]? = some (C1, T1, N1)) (hy : y.cls = C1 ∧ y.name = "<init>" ∧ (parseMethodDescriptor y.desc).map (fun d => d.parameters.length) = some 0) (hcn : C1 ≠ "java/lang/invoke/MethodHandle" ∧ C1 ≠ "java/lang/invoke/VarHandle")
    (w1 : lw_tbl[p1]? = some (.classLink own ik C1)) (w2 : lw_tbl[p2]? = some (.instantiable C1 N1)) (w3 : lw_tbl[p3]? = some (.initialized C1)) (w4 : lw_tbl[p4]? = some (.methodLink own ii y)) (w5 : lw_tbl[p5]? = some (.instanceMethod y)) (w6 : lw_tbl[p6]? = some (.code y cy maxL none))
    (hR : rm.frames + 1 ≤ R.frames ∧ 8 + (maxL + 11) + rm.locals ≤ R.locals) (hcc : cn + 1 + rm.cells ≤ R.cells) (hss : sn + N1 + rm.slots ≤ R.slots)
    (d0 : decode cc pc = .ok (.aload_n 0, 1)) (d1 : decode cc (pc + 1) = .ok (.new ik, 3)) (d2 : decode cc (pc + 4) = .ok (.dup, 1)) (d3 : decode cc (pc + 5) = .ok (.invokespecial ii, 3)) (d4 : decode cc (pc + 8) = .ok (.putfield idx, 3))
    (hc : am_cs[ci]? = some (Cn, T, N)) (hf : f < N) (hw : lw_tbl[pl]? = some (.fieldLink own idx (T f).1 (T f).2.1 (T f).2.2.1)) (hfin : (T f).2.2.2 = true ∧ (T f).1 = own) (hty : am_ty ci f = .object C1) (hl : f < fs.length)
    (c0 : ct_cl rs = true) (c1 : ct_cl rs1 = true) (hd : ct_dj rs rs1 = true) (hr1 : rs1.elem r1 = true)
    (kk : ∀ (q : Nat) (ad : Nat → Nat → Nat), ad r1.1 r1.2 = q → (∀ r ∈ rs, ad r.1 r.2 = ad0 r.1 r.2) → ct_W p l e R s m args below meth c Q ls D A (pc + 11) ((h0, .inr (ci, fs.set f (.ref q))) :: am_ws (rs ++ rs1) ad (ct_ca k) ct_g) (cn + 1 + rm.cells) (sn + N1 + rm.slots)) : ct_W p l e R s m args below meth c Q ls D A pc ((h0, .inr (ci, fs)) :: am_ws rs ad0 (ct_ca k) ct_g) cn sn := by
  obtain ⟨hfx, hin, hl0, hK, hE, hA⟩ := id C
  intro H locs hP hD hS
  refine lv_aload_n hfx.1 hfx.2.1 d0 rfl (lv_at hl0 0 rfl) ?_
  refine ct_make (pc := pc + 1) hfx hK hE hA hl0.1 hM hc1 hy hcn w1 w2 w3 w4 w5 w6 hR hcc hss (Nat.le_of_ble_eq_true rfl) d1 d2 d3 hP hD hS (fun q ad H1 locs1 ha hP1 hD1 hS1 => ?_)
  have hP1 : va_P D am_cs (([(h0, .inr (ci, fs))] ++ am_ws rs ad0 (ct_ca k) ct_g) ++ am_ws rs1 ad (ct_ca k) ct_g) H1 := hP1
  have hD1 : va_D A (([(h0, .inr (ci, fs))] ++ am_ws rs ad0 (ct_ca k) ct_g) ++ am_ws rs1 ad (ct_ca k) ct_g) := hD1
  obtain ⟨hP2, hD2⟩ := ct_glue hP1 hD1 c0 c1 hd ct_g4
  exact ct_put (pc := pc + 8) C hP2 hD2 hS1 hc hf hw (Or.inr hfin) (by rw [hty]; rfl) (by rw [hty]; rfl) hl d4 (kk q _ ((ct_gl_out (ct_dj_of hd (List.elem_iff.mp hr1))).trans ha) (fun r hr => ct_gl_in (List.elem_iff.mpr hr)))
end CT
/-- a contract out of a walk -/
theorem ct_ofW {l : Launch} {y : MethodName} {cc : ByteArray} {maxL : Nat} {rm : Room} {D : va_G} {k : ct_K3} {e0 : va_E} {r0 : Nat × Nat} {rs : List (Nat × Nat)} (hpl : plainName y.cls = true) (hyn : y.name = "<init>") (hml1 : 1 ≤ maxL)
    (body : ∀ (p : Program) (e : Env) (s : State) (m : MethodId) (args : Array Value) (below : List Frame) (meth : Method) (c : Code) (Q : State → Prop) (ls : Array Slot) (h0 : Nat) (A : Nat → Prop), ct_Cx p rm s m args meth c cc maxL y.cls ls h0 D k A →
      (∀ (pc : Nat) (ls' : Array Slot) (H : Heap) (locs : List Loc) (ad : Nat → Nat → Nat), decode cc pc = .ok (.return_, 1) → ad r0.1 r0.2 = h0 → va_P D am_cs (am_ws rs ad (ct_ca k) ct_g) H → va_D A (am_ws rs ad (ct_ca k) ct_g) → va_S A s.heap H locs → W p l e rm s m args below meth c H locs rm.cells rm.slots Q (F0 m pc ls' [])) →
      ct_W p l e rm s m args below meth c Q ls D A 0 [(h0, e0)] 0 0) : ct_Met l y cc maxL rm D k e0 r0 rs := by
  intro h0 sz
  refine Met.ofW (cc := cc) (maxL := maxL) (ret := none) hpl rfl ?_
  intro p e s m args below meth c s₁ B hml hv
  obtain ⟨rfl, hsz, hP, hK, hE⟩ := hv
  have hts := atoms_spec (ws := Cond.code y cc maxL none :: am_tb) B.pre
  have hown : s.vm.findClass y.cls = some m.cls := findClass_of_methodNamed B.named
  have hin : meth.name = "<init>" := (name_of_methodNamed B.named B.method).1.trans hyn
  subst hsz
  have hl := lv_entry ([.ref h0]) (n := maxL) hml1
  rw [lg_entry_eq]
  generalize (lg_sl ([.ref h0]) ++ List.replicate (maxL - (lg_sl ([.ref h0])).length) Slot.unset).toArray = ls at hl ⊢
  have hl : lv_has ls maxL [(0, .ref h0)] := hl
  exact body p e s m _ below meth c _ ls h0 (va_A [(h0, e0)] s.heap.size) ⟨⟨B.exec, B.bytes, hml, hown, fun w hw => hts w (List.mem_cons_of_mem _ hw)⟩, hin, hl, hK, hE, fun q h => Or.inr h⟩
    (fun pc ls' H locs ad hd ha hP hD hS => W.vret B.exec B.bytes B.returns (fun t ht hW => ⟨⟨ad, rfl, ha, by rw [ht]; exact hP, hD⟩, hS.F ht⟩) hS.2.2 hd) s.heap [] hP ct_D1 va_S.rf
