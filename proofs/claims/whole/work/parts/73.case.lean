/-! ===== a case of the law ===== -/
/-- the script's int i + j -/
def la_ckb (pc j : Nat) : Bool := decide (decode code pc = .ok (.aload_n 0, 1)) && (decide (decode code (pc + 1) = .ok (.iload 4, 2)) && (decide (decode code (pc + 3) = .ok (.iconst (j : Int), 1)) && (decide (decode code (pc + 4) = .ok (.iadd, 1)) && decide (decode code (pc + 5) = .ok (.iaload, 1)))))
def la_ckc (pc n i1 i2 : Nat) : Bool := decide (decode code pc = .ok (.aload_n 1, 1)) && ((List.range n).all (fun j => la_ckb (pc + 1 + 6 * j) (j + 1)) && (decide (decode code (pc + 1 + 6 * n) = .ok (.invokevirtual i1, 3)) && (decide (decode code (pc + 1 + 6 * n + 3) = .ok (.aload_n 2, 1)) &&
  ((List.range n).all (fun j => la_ckb (pc + 1 + 6 * n + 4 + 6 * j) (j + 1)) && (decide (decode code (pc + 1 + 6 * n + 4 + 6 * n) = .ok (.invokevirtual i2, 3)) && decide (decode code (pc + 1 + 6 * n + 4 + 6 * n + 3) = .ok (.if_icmp .eq ((1694 : Int) - ((pc + 1 + 6 * n + 4 + 6 * n + 3 : Nat) : Int)), 3)))))))
theorem la_j {j : Nat} (h : j ≤ 5) : Int32.ofInt (j : Int) = nI j := by
  match j, h with
  | 0, _ => rfl
  | 1, _ => rfl
  | 2, _ => rfl
  | 3, _ => rfl
  | 4, _ => rfl
  | 5, _ => rfl
section LA
variable {p : Program} {l : Launch} {e : Env} {s : State} {m : MethodId} {below : List Frame} {meth : Method} {c : Code} {Q : State → Prop} {H : Heap} {locs : List Loc} {cells slots : Nat}
variable {D : va_G} {rs : List (Nat × Nat)} {ad : Nat → Nat → Nat} {ca : Nat → ClassId} {tys : List (ClassId × FieldType)} {A : Nat → Prop} {qo b L : Nat} {cL : ClassId} {xs : Nat → Int32} {ls : Array Slot} {lv : List (Nat × Value)} {i : Nat}
theorem la_arg (hx : p.tables.exec = Jvm.exec) (hb : c.code = code) (hX : va_X b L xs s s.heap) (hbl : b < s.heap.size) (hbA : ¬ A b) (hS : va_S A s.heap H locs) (hL : L ≤ 3072) {pc j : Nat} {st : List Value} (ck : la_ckb pc j = true) (hj : j ≤ 5) (hi : i + j < L) (h0 : ls[0]? = some (.val (.ref b))) (h4 : ls[4]? = some (.val (.int (nI i))))
    (kk : W p l e room_1 s m #[Value.ref b] below meth c H locs cells slots Q (F0 m (pc + 6) ls (.int (xs (i + j)) :: st))) : W p l e room_1 s m #[Value.ref b] below meth c H locs cells slots Q (F0 m pc ls st) := by
  unfold la_ckb at ck
  simp only [Bool.and_eq_true, decide_eq_true_eq] at ck
  obtain ⟨c0, c1, c3, c4, c5⟩ := ck
  refine lv_aload_n hx hb c0 rfl h0 ?_
  refine lv_iload hx hb c1 h4 ?_
  refine lv_iconst (v := nI j) hx hb c3 (la_j hj) ?_
  refine lv_iadd hx hb c4 ?_
  rw [nI_add]
  refine va_sld hx hb hX hbl hbA hS (vp_in_nI hi (by omega)) c5 ?_
  rw [nI_clamp (by omega)]
  exact kk
/-- the first n ints behind the call's number -/
def la_vs (xs : Nat → Int32) (i n : Nat) : List am_V := (List.range n).map (fun j => .inl (xs (i + (j + 1))))
theorem la_args (hx : p.tables.exec = Jvm.exec) (hb : c.code = code) (hX : va_X b L xs s s.heap) (hbl : b < s.heap.size) (hbA : ¬ A b) (hS : va_S A s.heap H locs) (hL : L ≤ 3072) {pc : Nat} {st : List Value} (h0 : ls[0]? = some (.val (.ref b))) (h4 : ls[4]? = some (.val (.int (nI i)))) (hi : i + 6 ≤ L) : ∀ (n : Nat), n ≤ 5 → (List.range n).all (fun j => la_ckb (pc + 6 * j) (j + 1)) = true →
    W p l e room_1 s m #[Value.ref b] below meth c H locs cells slots Q (F0 m (pc + 6 * n) ls (((la_vs xs i n).map (am_tr ad)).reverse ++ st)) → W p l e room_1 s m #[Value.ref b] below meth c H locs cells slots Q (F0 m pc ls st)
  | 0, _, _, kk => kk
  | n + 1, hn, ck, kk => by
    rw [List.range_succ, List.all_append, Bool.and_eq_true] at ck
    refine la_args hx hb hX hbl hbA hS hL h0 h4 hi n (by omega) ck.1 ?_
    have ck2 := List.all_eq_true.mp ck.2 n List.mem_cons_self
    refine la_arg hx hb hX hbl hbA hS hL ck2 (by omega) (by omega) h0 h4 ?_
    have e1 : la_vs xs i (n + 1) = la_vs xs i n ++ [.inl (xs (i + (n + 1)))] := by
      unfold la_vs
      rw [List.range_succ, List.map_append]
      rfl
    rw [e1, List.map_append, List.reverse_append] at kk
    exact kk
/-- what holds all through the law's loop -/
def la_Cx (p : Program) (l : Launch) (s : State) (m : MethodId) (c : Code) (D : va_G) (rs : List (Nat × Nat)) (ad : Nat → Nat → Nat) (ca : Nat → ClassId) (tys : List (ClassId × FieldType)) (A : Nat → Prop) (qo b L : Nat) (xs : Nat → Int32) : Prop :=
  CallFix p m c code 7 s #[Value.ref b] am_tb "TownForestLaw" ∧ va_K D am_cs tys s ∧ am_Nx s ∧ va_X b L xs s s.heap ∧ b < s.heap.size ∧ ¬ A b ∧ L ≤ 3072 ∧ am_Ct l D rs ad ca tys (la_A1 A qo) 9 (am_call 9) ∧ (0, 0) ∈ rs ∧ (29, 0) ∈ rs
def la_lv (ad : Nat → Nat → Nat) (b qo i : Nat) : List (Nat × Value) := [(0, .ref b), (1, .ref (ad 0 0)), (2, .ref (ad 29 0)), (3, .ref qo), (4, .int (nI i))]
/-- the loop's end, from any world -/
def la_N (p : Program) (l : Launch) (e : Env) (s : State) (m : MethodId) (below : List Frame) (meth : Method) (c : Code) (Q : State → Prop) (D : va_G) (rs : List (Nat × Nat)) (ad : Nat → Nat → Nat) (ca : Nat → ClassId) (A : Nat → Prop) (qo b : Nat) (cL : ClassId) (i cells slots : Nat) : Prop :=
  ∀ (g : am_G) (σ : aS) (fo : Nat → Int64) (H : Heap) (locs : List Loc) (ls : Array Slot), rBo g σ → va_P D am_cs (la_ws rs ad ca g qo cL fo) H → va_D A (la_ws rs ad ca g qo cL fo) → va_S A s.heap H locs → lv_has ls 7 (la_lv ad b qo i) → W p l e room_1 s m #[Value.ref b] below meth c H locs cells slots Q (F0 m 1694 ls [])
theorem la_vl {n : Nat} : ∀ v ∈ la_vs xs i n, am_vl rs v := by
  intro v hv
  obtain ⟨j, -, rfl⟩ := List.mem_map.mp hv
  trivial
theorem la_len {n : Nat} : (la_vs xs i n).length = n := by
  unfold la_vs
  rw [List.length_map, List.length_range]
/-- one call: the world but the law's own row is the methods' -/
theorem la_step (C : la_Cx p l s m c D rs ad ca tys A qo b L xs) {pc n idx mi ci pl c0 : Nat} {rest : List Value} {g g' : am_G} {v : Int32} {fo : Nat → Int64} (ck : am_ckv am_inf "TownForestLaw" idx [mi, n + 1, 1, ci + 1, pl] = true) (hd : decode code pc = .ok (.invokevirtual idx, 3)) {as : List am_V} (hn : as.length = n) (hvs : ∀ v ∈ as, am_vl rs v) (ho : am_call 9 mi (.inr (.inr (c0, 0)) :: as) g = some (some (.inl v), g'))
    (hthis : (c0, 0) ∈ rs) (hl : ∃ fs, am_lay c0 = some (.inl (ci, fs))) (hP : va_P D am_cs (la_ws rs ad ca g qo cL fo) H) (hD : va_D A (la_ws rs ad ca g qo cL fo)) (hS : va_S A s.heap H locs) (hsz : ls.size = 7) (hrest : (rest.map fun v => v.category).sum ≤ 8) (hcs : cells ≤ 601024 ∧ slots ≤ 7293034)
    (kk : ∀ (H1 : Heap) (locs1 : List Loc), va_P D am_cs (la_ws rs ad ca g' qo cL fo) H1 → va_D A (la_ws rs ad ca g' qo cL fo) → va_S A s.heap H1 locs1 → W p l e room_1 s m #[Value.ref b] below meth c H1 locs1 cells slots Q (F0 m (pc + 3) ls (.int v :: rest))) :
    W p l e room_1 s m #[Value.ref b] below meth c H locs cells slots Q (F0 m pc ls ((as.map (am_tr ad)).reverse ++ .ref (ad c0 0) :: rest)) := by
  obtain ⟨fx, hK, hN, hX, hbl, hbA, hL, hct, -, -⟩ := C
  have hoc := la_o hP
  refine la_call (b := pc) (idx := idx) (mi := mi) (n := n) (rt := 1) (ci := ci) (pl := pl) (c0 := c0) (i0 := 0) (d := 9) (A := la_A1 A qo) (A0 := A) (R := room_1) fx hK hN ⟨Nat.le_of_ble_eq_true rfl, Nat.le_of_ble_eq_true rfl⟩ hcs hct ck hd ho hn hvs hthis hl (ct_P_l hP) (la_D1 hD) hS (fun _ h => h.1) hsz hrest (fun H1 locs1 hP1 hD1 hS1 _ hk1 => ?_)
  obtain ⟨hP2, hD2⟩ := la_P2 hP1 hD1 (la_Ao hD) hoc (hk1 qo (va_at.lt hoc) (fun h => h.2 rfl))
  exact kk H1 locs1 hP2 hD2 hS1
set_option maxHeartbeats 4000000 in
theorem la_case (C : la_Cx p l s m c D rs ad ca tys A qo b L xs) {pc n i1 i2 ci mi pl1 pl2 : Nat} {g : am_G} {fo : Nat → Int64} (ck : la_ckc pc n i1 i2 = true) (hn : n ≤ 5) (k1 : am_ckv am_inf "TownForestLaw" i1 [ci, n + 1, 1, 9 + 1, pl1] = true) (k2 : am_ckv am_inf "TownForestLaw" i2 [mi, n + 1, 1, 10 + 1, pl2] = true)
    (hB : Both 0 ci mi (la_vs xs i n) g) (hi : i + 6 ≤ L) (hcs : cells ≤ 601024 ∧ slots ≤ 7293034) (hP : va_P D am_cs (la_ws rs ad ca g qo cL fo) H) (hD : va_D A (la_ws rs ad ca g qo cL fo)) (hS : va_S A s.heap H locs) (hl : lv_has ls 7 (la_lv ad b qo i))
    (nx : la_N p l e s m below meth c Q D rs ad ca A qo b cL i cells slots) : W p l e room_1 s m #[Value.ref b] below meth c H locs cells slots Q (F0 m pc ls []) := by
  obtain ⟨⟨hx, hb, hml, hown, hts⟩, hK, hN, hX, hbl, hbA, hL, hct, h00, h29⟩ := id C
  obtain ⟨g1, g2, v, σ', o1, o2, hr, -⟩ := hB
  unfold la_ckc at ck
  simp only [Bool.and_eq_true, decide_eq_true_eq] at ck
  obtain ⟨c0, c1, c2, c3, c4, c5, c6⟩ := ck
  have l0 : ls[0]? = some (.val (.ref b)) := lv_at hl 0 rfl
  have l1 : ls[1]? = some (.val (.ref (ad 0 0))) := lv_at hl 1 rfl
  have l2 : ls[2]? = some (.val (.ref (ad 29 0))) := lv_at hl 2 rfl
  have l4 : ls[4]? = some (.val (.int (nI i))) := lv_at hl 4 rfl
  refine lv_aload_n hx hb c0 rfl l1 ?_
  refine la_args (ad := ad) hx hb hX hbl hbA hS hL l0 l4 hi n hn c1 ?_
  refine la_step C k1 c2 la_len la_vl o1 h00 ⟨_, rfl⟩ hP hD hS hl.1 (Nat.le_of_ble_eq_true rfl) hcs (fun H1 locs1 hP1 hD1 hS1 => ?_)
  refine lv_aload_n hx hb c3 rfl l2 ?_
  refine la_args (ad := ad) hx hb hX hbl hbA hS1 hL l0 l4 hi n hn c4 ?_
  refine la_step C k2 c5 la_len la_vl o2 h29 ⟨_, rfl⟩ hP1 hD1 hS1 hl.1 (Nat.le_of_ble_eq_true rfl) hcs (fun H2 locs2 hP2 hD2 hS2 => ?_)
  refine lv_icmp_eq (tgt := 1694) hx hb c6 (by omega) (fun _ => nx g2 σ' fo H2 locs2 ls hr hP2 hD2 hS2 hl) (fun q => absurd rfl q)
end LA
