/-! ===== constructors: History, Survey ===== -/
def rsHF (i : Nat) : List (Nat × Nat) := (List.range i).flatMap (fun j => rsF (4 + j))
def rsH : List (Nat × Nat) := (14, 0) :: (15, 0) :: rsHF 20
theorem rsHF_s (i : Nat) : rsHF (i + 1) = rsHF i ++ rsF (4 + i) := by
  unfold rsHF
  rw [List.range_succ, List.flatMap_append]
  simp
theorem rsHF_in {i j : Nat} (h : j < i) : (1, 4 + j) ∈ rsHF i := List.mem_flatMap.mpr ⟨j, List.mem_range.mpr h, List.mem_cons_self⟩
theorem ct_hf : (List.range 21).all (fun i => ct_cl (rsHF i) && (ct_cl (rsF (4 + i)) && ct_dj (rsHF i) (rsF (4 + i)))) = true := by decide +kernel
theorem ct_hf_of {i : Nat} (h : i < 21) : ct_cl (rsHF i) = true ∧ ct_cl (rsF (4 + i)) = true ∧ ct_dj (rsHF i) (rsF (4 + i)) = true := by
  have := List.all_eq_true.mp ct_hf i (List.mem_range.mpr h)
  simp only [Bool.and_eq_true] at this
  exact ⟨this.1, this.2.1, this.2.2⟩
theorem ct_h14 : (rsHF 20).all (fun r => !(r.1 == 14) && !(r.1 == 15)) = true := by decide +kernel
def ct_hA (h0 qa : Nat) (ad : Nat → Nat → Nat) : Nat → Nat → Nat := fun c j => bif c == 14 then h0 else bif c == 15 then qa else ad c j
/-- the array of states, when it is full -/
theorem ct_Hend {D : va_G} {A : Nat → Prop} {H : Heap} {h0 qa : Nat} {k : ct_K3} {f : Nat → Option Nat} {ad : Nat → Nat → Nat} (hP : va_P D am_cs ((h0, .inr (2, [.ref qa, .int 0, .int 0])) :: (qa, .inl (k.2.1, 20, .inr (.inr (.inr (.inr f))))) :: am_ws (rsHF 20) ad (ct_ca k) ct_g) H) (hD : va_D A ((h0, .inr (2, [.ref qa, .int 0, .int 0])) :: (qa, .inl (k.2.1, 20, .inr (.inr (.inr (.inr f))))) :: am_ws (rsHF 20) ad (ct_ca k) ct_g)) (hf : ∀ j, j < 20 → f j = some (ad 1 (4 + j))) :
    ∃ ad' : Nat → Nat → Nat, ad' 14 0 = h0 ∧ va_P D am_cs (am_ws rsH ad' (ct_ca k) ct_g) H ∧ va_D A (am_ws rsH ad' (ct_ca k) ct_g) := by
  have e1 : ∀ r ∈ rsHF 20, ad r.1 r.2 = ct_hA h0 qa ad r.1 r.2 := by
    intro r hr
    have := List.all_eq_true.mp ct_h14 r hr
    simp only [Bool.and_eq_true, Bool.not_eq_true'] at this
    show _ = (bif r.1 == 14 then h0 else bif r.1 == 15 then qa else ad r.1 r.2)
    rw [this.1, this.2]
    rfl
  refine ⟨ct_hA h0 qa ad, rfl, ?_, ?_⟩
  · have h3 : va_P D am_cs (am_ws (rsHF 20) ad (ct_ca k) ct_g) H := ct_P_iff.mpr fun q hq => ct_P_iff.mp hP q (List.mem_cons_of_mem _ (List.mem_cons_of_mem _ hq))
    have h4 := ct_P_to h3 e1 (ct_hf_of (i := 20) (by omega)).1 (fun _ _ _ _ => rfl) ct_g4
    have h1 := ct_P_iff.mp hP _ List.mem_cons_self
    have h2 : H[qa]? = some (vp_cell k.2.1 (20, .inr (.inr (.inr (.inr f))))) := ct_P_iff.mp hP _ (List.mem_cons_of_mem _ List.mem_cons_self)
    refine ct_P_iff.mpr fun q hq => ?_
    rcases List.mem_cons.mp hq with rfl | hq
    · exact h1
    · rcases List.mem_cons.mp hq with rfl | hq
      · show H[qa]? = some (vp_cell k.2.1 (20, .inr (.inr (.inr (.inr (fun j => some (ad 1 (4 + j))))))))
        rw [vp_cell_q] at h2 ⊢
        rw [h2]
        exact congrArg some (ct_arrV fun j hj => by rw [hf j hj])
      · exact ct_P_iff.mp h4 q hq
  · refine ct_D_fst hD ?_
    show h0 :: qa :: (am_ws (rsHF 20) (ct_hA h0 qa ad) (ct_ca k) ct_g).map Prod.fst = h0 :: qa :: (am_ws (rsHF 20) ad (ct_ca k) ct_g).map Prod.fst
    rw [ct_ws_fst, ct_ws_fst, List.map_congr_left (fun r hr => (e1 r hr).symm)]
set_option maxRecDepth 100000 in
set_option maxHeartbeats 4000000 in
theorem ct_Hloop {p : Program} {l : Launch} {e : Env} {s : State} {m : MethodId} {args : Array Value} {below : List Frame} {meth : Method} {c : Code} {Q : State → Prop} {ls0 : Array Slot} {D : va_G} {k : ct_K3} {A : Nat → Prop} {h0 qa : Nat} (C : ct_Cx p (ct_rm 2 141 3060) s m args meth c prog_4_method_1_code 2 "TownForest$History" ls0 h0 D k A)
    (kret : ∀ (pc : Nat) (ls' : Array Slot) (H : Heap) (locs : List Loc) (ad : Nat → Nat → Nat), decode prog_4_method_1_code pc = .ok (.return_, 1) → ad 14 0 = h0 → va_P D am_cs (am_ws rsH ad (ct_ca k) ct_g) H → va_D A (am_ws rsH ad (ct_ca k) ct_g) → va_S A s.heap H locs → W p l e (ct_rm 2 141 3060) s m args below meth c H locs 141 3060 Q (F0 m pc ls' [])) :
    ∀ (n i : Nat), i + n = 20 → ∀ (ls : Array Slot) (f : Nat → Option Nat) (ad : Nat → Nat → Nat), lv_has ls 2 [(0, .ref h0), (1, .int (nI i))] → (∀ j, j < i → f j = some (ad 1 (4 + j))) →
      ct_W p l e (ct_rm 2 141 3060) s m args below meth c Q ls D A 15 ((h0, .inr (2, [.ref qa, .int 0, .int 0])) :: (qa, .inl (k.2.1, 20, .inr (.inr (.inr (.inr f))))) :: am_ws (rsHF i) ad (ct_ca k) ct_g) (1 + 7 * i) (20 + 152 * i) := by
  obtain ⟨fx, hin, -, hK, hE, hA⟩ := id C
  obtain ⟨hx, hb, hml, hown, hts⟩ := id fx
  intro n
  induction n with
  | zero =>
    intro i hi ls f ad hl hf H locs hP hD hS
    have hi : i = 20 := by omega
    subst hi
    refine lv_iload_n hx hb (k := 1) (by decide +kernel) rfl (lv_at hl 1 rfl) ?_
    refine lv_bipush (n := 20) (v := nI 20) hx hb (by decide +kernel) (by decide) ?_
    refine lv_icmp_ge (off := 22) (tgt := 40) hx hb (by decide +kernel) (by decide) (fun _ => ?_) (fun q => absurd (nI_le (Nat.le_refl 20) (by omega)) q)
    have C2 : ct_Cx p (ct_rm 2 141 3060) s m args meth c prog_4_method_1_code 2 "TownForest$History" ls h0 D k A := ⟨fx, hin, ⟨hl.1, hl.2.1, fun q hq => hl.2.2 q (by rw [List.mem_singleton.mp hq]; exact List.mem_cons_self)⟩, hK, hE, hA⟩
    refine ct_int C2 (pc := 40) (idx := 18) (pl := 240) (f := 1) (ci := 2) (n := 0) (v := 0) (Cn := RX2) (T := TX2) (N := 3) (by decide +kernel) (by decide +kernel) (by decide) (by decide +kernel) rfl (Nat.le_of_ble_eq_true rfl) (by decide +kernel) rfl rfl rfl (Nat.le_of_ble_eq_true rfl) ?_ H locs hP hD hS
    refine ct_int C2 (pc := 45) (idx := 22) (pl := 241) (f := 2) (ci := 2) (n := 0) (v := 0) (Cn := RX2) (T := TX2) (N := 3) (by decide +kernel) (by decide +kernel) (by decide) (by decide +kernel) rfl (Nat.le_of_ble_eq_true rfl) (by decide +kernel) rfl rfl rfl (Nat.le_of_ble_eq_true rfl) ?_
    intro H locs hP hD hS
    obtain ⟨ad', a1, a2, a3⟩ := ct_Hend hP hD hf
    exact kret 50 ls H locs ad' (by decide +kernel) a1 a2 a3 hS
  | succ n ih =>
    intro i hi ls f ad hl hf H locs hP hD hS
    have hi20 : i < 20 := by omega
    refine lv_iload_n hx hb (k := 1) (by decide +kernel) rfl (lv_at hl 1 rfl) ?_
    refine lv_bipush (n := 20) (v := nI 20) hx hb (by decide +kernel) (by decide) ?_
    refine lv_icmp_ge (off := 22) (tgt := 40) hx hb (by decide +kernel) (by decide) (fun q => absurd q (nI_ge hi20 (by omega))) (fun _ => ?_)
    refine lv_aload_n hx hb (k := 0) (by decide +kernel) rfl (lv_at hl 0 rfl) ?_
    obtain ⟨cw, cty, cnm⟩ := am_cls (ci := 2) (C := RX2) (T := TX2) (N := 3) rfl
    refine va_get (D := D) (ci := 2) (v := .ref qa) (C := RX2) (T := TX2) (N := 3) hx hb hts cw hown hK hP 0 rfl rfl 0 (by decide) (hts _ (am_tb_at (i := 239) (w := .fieldLink "TownForest$History" 11 (TX2 0).1 (TX2 0).2.1 (TX2 0).2.2.1) (by decide +kernel) rfl)) (fun _ h9 => h9) rfl (by decide +kernel) ?_
    refine lv_iload_n hx hb (k := 1) (by decide +kernel) rfl (lv_at hl 1 rfl) ?_
    refine ct_make (pc := 26) (ik := 9) (ii := 17) (p1 := 236) (p2 := 92) (p3 := 66) (p4 := 238) (p5 := 94) (p6 := 95) (C1 := RX0) (T1 := TX0) fx hK hE hA hl.1 (ct_F l D k (4 + i)) rfl ⟨rfl, rfl, by decide +kernel⟩ (by decide) (by decide +kernel) (by decide +kernel) (by decide +kernel) (by decide +kernel) (by decide +kernel) (by decide +kernel) ⟨(Nat.le_of_ble_eq_true rfl), (Nat.le_of_ble_eq_true rfl)⟩ (by show 1 + 7 * i + 1 + 6 ≤ 141; omega) (by show 20 + 152 * i + 8 + 144 ≤ 3060; omega) (Nat.le_of_ble_eq_true rfl) (by decide +kernel) (by decide +kernel) (by decide +kernel) hP hD hS (fun q ad1 H1 locs1 ha hP1 hD1 hS1 => ?_)
    have hmem : (q, (.inr (0, [.ref (ad1 2 (4 + i)), .ref (ad1 3 (4 + i)), .ref (ad1 4 (4 + i)), .ref (ad1 5 (4 + i)), .ref (ad1 6 (4 + i)), .ref (ad1 7 (4 + i)), .int 0, .int 0]) : va_E)) ∈ ((h0, .inr (2, [.ref qa, .int 0, .int 0])) :: (qa, .inl (k.2.1, 20, .inr (.inr (.inr (.inr f))))) :: am_ws (rsHF i) ad (ct_ca k) ct_g) ++ am_ws (rsF (4 + i)) ad1 (ct_ca k) ct_g := by
      refine List.mem_append_right _ ?_
      rw [← ha]
      exact List.mem_cons_self
    obtain ⟨qk, hqk⟩ := List.mem_iff_getElem?.mp hmem
    refine va_astq (D := D) (r := (RX0, TX0, 8)) hx hb hK hP1 hD1 hS1 1 1 qk 0 (f := f) (cA := k.2.1) (n := 20) rfl rfl hqk rfl (vp_in_nI hi20 (by omega)) (by decide +kernel) (fun H2 locs2 hP2 hD2 hS2 => ?_)
    have hP2 : va_P D am_cs (([(h0, .inr (2, [.ref qa, .int 0, .int 0])), (qa, .inl (k.2.1, 20, .inr (.inr (.inr (.inr (va_up f (nI i).toNatClampNeg (some q)))))))] ++ am_ws (rsHF i) ad (ct_ca k) ct_g) ++ am_ws (rsF (4 + i)) ad1 (ct_ca k) ct_g) H2 := hP2
    have hD2 : va_D A (([(h0, .inr (2, [.ref qa, .int 0, .int 0])), (qa, .inl (k.2.1, 20, .inr (.inr (.inr (.inr (va_up f (nI i).toNatClampNeg (some q)))))))] ++ am_ws (rsHF i) ad (ct_ca k) ct_g) ++ am_ws (rsF (4 + i)) ad1 (ct_ca k) ct_g) := hD2
    obtain ⟨z1, z2, z3⟩ := ct_hf_of (i := i) (by omega)
    obtain ⟨hP3, hD3⟩ := ct_glue hP2 hD2 z1 z2 z3 ct_g4
    rw [← rsHF_s, nI_clamp (by omega)] at hP3 hD3
    refine lv_iinc (v := nI (i + 1)) (lv' := [(1, .int (nI (i + 1))), (0, .ref h0)]) hx hb (i := 1) (n := 1) (by decide +kernel) hl (k := 1) rfl (nI_1 i) (by decide) rfl (fun ls hl => ?_)
    refine lv_goto (off := -22) (tgt := 15) hx hb (by decide +kernel) (by decide) ?_
    refine W.widen (k := 1 + 7 * (i + 1)) (n := 20 + 152 * (i + 1)) (by show 1 + 7 * i + 1 + 6 ≤ _; omega) (by show 20 + 152 * i + 8 + 144 ≤ _; omega) ?_
    refine ih (i + 1) (by omega) ls (va_up f i (some q)) (ct_gl (rsHF i) ad ad1) (lv_sub hl [1, 0] rfl) (fun j hj => ?_) H2 locs2 hP3 hD3 hS2
    by_cases e : j = i
    · subst e
      rw [va_up_self]
      refine congrArg some ?_
      rw [ct_gl_out (ct_dj_of z3 List.mem_cons_self)]
      exact ha.symm
    · have hj2 : j < i := by omega
      show (if j = i then some q else f j) = _
      rw [if_neg e, hf j hj2, ct_gl_in (List.elem_iff.mpr (rsHF_in hj2))]
set_option maxRecDepth 100000 in
set_option maxHeartbeats 4000000 in
theorem ct_H (l : Launch) (D : va_G) (k : ct_K3) : ct_Met l ⟨"TownForest$History", "<init>", "()V"⟩ prog_4_method_1_code 2 (ct_rm 2 141 3060) D k (.inr (2, ct_raw 2 3)) (14, 0) rsH := by
  refine ct_ofW (by decide) rfl (by decide) ?_
  intro p e s m args below meth c Q ls h0 A C kret
  obtain ⟨⟨hx, hb, hml, hown, hts⟩, hin, hl, hK, hE, hA⟩ := id C
  refine ct_super C (pc := 0) (idx := 3) (pl := 235) (by decide +kernel) (by decide +kernel) (by decide +kernel) ⟨(Nat.le_of_ble_eq_true rfl), (Nat.le_of_ble_eq_true rfl)⟩ ?_
  intro H locs hP hD hS
  refine lv_aload_n hx hb (k := 0) (by decide +kernel) rfl (lv_at hl 0 rfl) ?_
  refine lv_bipush (n := 20) (v := 20) hx hb (by decide +kernel) (by decide) ?_
  refine va_newq (C := "TownForest$Forest") (N' := 20) hx hb hown (hts _ (am_tb_at (i := 236) (w := .classLink "TownForest$History" 9 "TownForest$Forest") (by decide +kernel) rfl)) hE.1 hK hP hD hS hA (by decide) (by decide) (Nat.le_of_ble_eq_true rfl) (Nat.le_of_ble_eq_true rfl) (Nat.le_of_ble_eq_true rfl) (by decide +kernel) (fun qa cA H1 hK1 hP1 hD1 hS1 => ?_)
  have e1 : cA = k.2.1 := by
    obtain ⟨kA, comp, a1, a2, a3, a4⟩ := (hK1.2 3 (cA, .object "TownForest$Forest") rfl).2
    obtain ⟨kB, comq, b1, b2, b3, b4⟩ := (hK1.2 1 (k.2.1, .object "TownForest$Forest") rfl).2
    exact Option.some.inj (a4.symm.trans b4)
  subst e1
  have hP1 : va_P D am_cs ((h0, .inr (2, ct_raw 2 3)) :: [(qa, .inl (k.2.1, 20, .inr (.inr (.inr (.inr (fun _ => none))))))]) H1 := hP1
  have hD1 : va_D A ((h0, .inr (2, ct_raw 2 3)) :: [(qa, .inl (k.2.1, 20, .inr (.inr (.inr (.inr (fun _ => none))))))]) := hD1
  refine ct_put (pc := 10) (idx := 11) (pl := 239) (f := 0) (ci := 2) (Cn := RX2) (T := TX2) (N := 3) C hP1 hD1 hS1 rfl (Nat.le_of_ble_eq_true rfl) (by decide +kernel) (Or.inr ⟨rfl, rfl⟩) rfl rfl (Nat.le_of_ble_eq_true rfl) (by decide +kernel) ?_
  intro H2 locs2 hP2 hD2 hS2
  refine lv_iconst (n := 0) (v := 0) hx hb (by decide +kernel) (by decide) ?_
  refine lv_istore_n (k := 1) (lv' := [(1, .int 0), (0, .ref h0)]) hx hb (by decide +kernel) rfl hl (by decide) rfl (fun ls hl => ?_)
  exact ct_Hloop C kret 20 0 rfl ls (fun _ => none) (fun _ _ => 0) (by rw [nI_0]; exact lv_sub hl [1, 0] rfl) (fun j hj => absurd hj (Nat.not_lt_zero j)) H2 locs2 hP2 hD2 hS2
/-- the rows of a row of rows -/
def mn_w (k : ct_K3) (q : Nat) : va_W := (q, .inl (k.2.2, 24, .inr (.inr (.inr (.inr (fun j => some (q + 1 + (0 + j)))))))) :: (List.range 24).map (fun j => (q + 1 + j, .inl (k.1, 24, .inl (fun _ => 0))))
theorem mn_w_at {k : ct_K3} {q i : Nat} {x : Nat × va_E} (h : (mn_w k q)[i]? = some x) : x.1 = q + i := by
  unfold mn_w at h
  cases i with
  | zero => cases h; rfl
  | succ i =>
    rw [List.getElem?_cons_succ, List.getElem?_map] at h
    by_cases hi : i < 24
    · rw [List.getElem?_range hi] at h
      cases h
      show q + 1 + i = q + (i + 1)
      omega
    · rw [List.getElem?_eq_none (by rw [List.length_range]; omega)] at h
      cases h
theorem mn_PD {D : va_G} {A : Nat → Prop} {X : va_W} {H0 H H1 : Heap} {locs locs1 : List Loc} {k : ct_K3} (hP : va_P D am_cs X H) (hD : va_D A X) (hS : va_S A H0 H locs) (hA : ∀ q, H0.size ≤ q → A q) (z : H1.size = H.size + 25) (o : H1[H.size]? = some (arrV k.2.2 24 (mn_row H.size 24))) (kp : ∀ a, a < H.size → H1[a]? = H[a]?)
    (rr : ∀ j, j < 24 → H1[H.size + 1 + j]? = some (arrV k.1 24 (fun _ => .int 0))) (hl : ∀ z ∈ locs1, z ∈ locs ∨ z.base = H.size) : va_P D am_cs (X ++ mn_w k H.size) H1 ∧ va_D A (X ++ mn_w k H.size) ∧ va_S A H0 H1 locs1 := by
  refine ⟨va_P.app (hP.kept fun i q hq => kp q.1 (hP i q hq).lt) (ct_P_iff.mpr fun q hq => ?_), va_D.app hD ⟨fun i j x y hx hy hxy => ?_, fun i x hx => hA _ ?_⟩ (fun i j x y hx hy hxy => ?_), ⟨by have := hS.1; omega, fun q h1 h2 => (kp q (Nat.lt_of_lt_of_le h1 hS.1)).trans (hS.2.1 q h1 h2), fun q hq => ?_⟩⟩
  · rcases List.mem_cons.mp hq with rfl | hq
    · show H1[H.size]? = some (vp_cell k.2.2 _)
      rw [vp_cell_q, o]
      refine congrArg some (ct_arrV fun j hj => ?_)
      unfold mn_row
      rw [if_pos hj, Nat.zero_add]
    · obtain ⟨j, hj, rfl⟩ := List.mem_map.mp hq
      show H1[H.size + 1 + j]? = some (vp_cell k.1 _)
      rw [vp_cell_i]
      exact rr j (List.mem_range.mp hj)
  · rw [mn_w_at hx, mn_w_at hy] at hxy
    omega
  · rw [mn_w_at hx]
    have := hS.1
    omega
  · have h1 := (hP i x hx).lt
    rw [hxy, mn_w_at hy] at h1
    omega
  · rcases hl q hq with h | h
    · exact hS.2.2 q h
    · rw [h]
      exact hA _ hS.1
def rsV : List (Nat × Nat) := [(20, 0), (21, 0), (22, 0), (23, 0), (24, 0)] ++ ((List.range 24).map (fun j => (25, j)) ++ [(26, 0), (27, 0)])
set_option maxRecDepth 100000 in
set_option maxHeartbeats 4000000 in
theorem ct_V (l : Launch) (D : va_G) (k : ct_K3) : ct_Met l ⟨"TownForest$Survey", "<init>", "()V"⟩ prog_8_method_1_code 1 (ct_rm 1 30 699) D k (.inr (6, ct_raw 6 7)) (20, 0) rsV := by
  refine ct_ofW (by decide) rfl (by decide) ?_
  intro p e s m args below meth c Q ls h0 A C kret
  obtain ⟨⟨hx, hb, hml, hown, hts⟩, hin, hl, hK, hE, hA⟩ := id C
  refine ct_super C (pc := 0) (idx := 3) (pl := 287) (by decide +kernel) (by decide +kernel) (by decide +kernel) ⟨(Nat.le_of_ble_eq_true rfl), (Nat.le_of_ble_eq_true rfl)⟩ ?_
  refine ct_arr C (pc := 4) (ln := 2) (n := 24) (N' := 24) (idx := 9) (pl := 290) (f := 0) (ci := 6) (Cn := RX6) (T := TX6) (N := 7) (by decide +kernel) (fun H locs w => lv_bipush (n := 24) hx hb (by decide +kernel) (by decide) w) (by decide +kernel) (by decide +kernel) (by decide) (by decide) (Nat.le_of_ble_eq_true rfl) (Nat.le_of_ble_eq_true rfl) (Nat.le_of_ble_eq_true rfl) rfl (Nat.le_of_ble_eq_true rfl) (by decide +kernel) (Or.inr ⟨rfl, rfl⟩) rfl (Nat.le_of_ble_eq_true rfl) (fun q1 => ?_)
  refine ct_int C (pc := 12) (idx := 15) (pl := 292) (f := 1) (ci := 6) (n := 0) (v := 0) (Cn := RX6) (T := TX6) (N := 7) (by decide +kernel) (by decide +kernel) (by decide) (by decide +kernel) rfl (Nat.le_of_ble_eq_true rfl) (by decide +kernel) rfl rfl rfl (Nat.le_of_ble_eq_true rfl) ?_
  refine ct_arr C (pc := 17) (ln := 2) (n := 24) (N' := 24) (idx := 19) (pl := 294) (f := 2) (ci := 6) (Cn := RX6) (T := TX6) (N := 7) (by decide +kernel) (fun H locs w => lv_bipush (n := 24) hx hb (by decide +kernel) (by decide) w) (by decide +kernel) (by decide +kernel) (by decide) (by decide) (Nat.le_of_ble_eq_true rfl) (Nat.le_of_ble_eq_true rfl) (Nat.le_of_ble_eq_true rfl) rfl (Nat.le_of_ble_eq_true rfl) (by decide +kernel) (Or.inr ⟨rfl, rfl⟩) rfl (Nat.le_of_ble_eq_true rfl) (fun q2 => ?_)
  refine ct_arr C (pc := 25) (ln := 2) (n := 24) (N' := 24) (idx := 22) (pl := 295) (f := 3) (ci := 6) (Cn := RX6) (T := TX6) (N := 7) (by decide +kernel) (fun H locs w => lv_bipush (n := 24) hx hb (by decide +kernel) (by decide) w) (by decide +kernel) (by decide +kernel) (by decide) (by decide) (Nat.le_of_ble_eq_true rfl) (Nat.le_of_ble_eq_true rfl) (Nat.le_of_ble_eq_true rfl) rfl (Nat.le_of_ble_eq_true rfl) (by decide +kernel) (Or.inr ⟨rfl, rfl⟩) rfl (Nat.le_of_ble_eq_true rfl) (fun q3 => ?_)
  intro H locs hP hD hS
  refine lv_aload_n hx hb (k := 0) (by decide +kernel) rfl (lv_at hl 0 rfl) ?_
  refine lv_bipush (n := 24) (v := 24) hx hb (by decide +kernel) (by decide) ?_
  refine lv_bipush (n := 24) (v := 24) hx hb (by decide +kernel) (by decide) ?_
  refine mn_W (k := k) hx hb hown (hts _ (am_tb_at (i := 288) (w := .classLink "TownForest$Survey" 25 "[[I") (by decide +kernel) rfl)) hE.2.1 (by decide +kernel) (Nat.le_of_ble_eq_true rfl) (Nat.le_of_ble_eq_true rfl) (fun H1 locs1 z o kp rr hl1 => ?_)
  obtain ⟨hP1, hD1, hS1⟩ := mn_PD hP hD hS hA z o kp rr hl1
  generalize H.size = q4 at hP1 hD1 ⊢
  refine ct_put (pc := 42) (idx := 27) (pl := 296) (f := 4) (ci := 6) (Cn := RX6) (T := TX6) (N := 7) C hP1 hD1 hS1 rfl (Nat.le_of_ble_eq_true rfl) (by decide +kernel) (Or.inr ⟨rfl, rfl⟩) rfl rfl (Nat.le_of_ble_eq_true rfl) (by decide +kernel) ?_
  refine ct_arr C (pc := 45) (ln := 2) (n := 24) (N' := 24) (idx := 30) (pl := 297) (f := 5) (ci := 6) (Cn := RX6) (T := TX6) (N := 7) (by decide +kernel) (fun H locs w => lv_bipush (n := 24) hx hb (by decide +kernel) (by decide) w) (by decide +kernel) (by decide +kernel) (by decide) (by decide) (Nat.le_of_ble_eq_true rfl) (Nat.le_of_ble_eq_true rfl) (Nat.le_of_ble_eq_true rfl) rfl (Nat.le_of_ble_eq_true rfl) (by decide +kernel) (Or.inr ⟨rfl, rfl⟩) rfl (Nat.le_of_ble_eq_true rfl) (fun q5 => ?_)
  refine ct_arr C (pc := 53) (ln := 1) (n := 3) (N' := 3) (idx := 33) (pl := 298) (f := 6) (ci := 6) (Cn := RX6) (T := TX6) (N := 7) (by decide +kernel) (fun H locs w => lv_iconst (n := 3) hx hb (by decide +kernel) (by decide) w) (by decide +kernel) (by decide +kernel) (by decide) (by decide) (Nat.le_of_ble_eq_true rfl) (Nat.le_of_ble_eq_true rfl) (Nat.le_of_ble_eq_true rfl) rfl (Nat.le_of_ble_eq_true rfl) (by decide +kernel) (Or.inr ⟨rfl, rfl⟩) rfl (Nat.le_of_ble_eq_true rfl) (fun q6 => ?_)
  intro H locs hP hD hS
  have hP : va_P D am_cs (am_ws rsV (fun c j => match c with | 20 => h0 | 21 => q1 | 22 => q2 | 23 => q3 | 24 => q4 | 25 => q4 + 1 + j | 26 => q5 | 27 => q6 | _ => 0) (ct_ca k) ct_g) H := hP
  have hD : va_D A (am_ws rsV (fun c j => match c with | 20 => h0 | 21 => q1 | 22 => q2 | 23 => q3 | 24 => q4 | 25 => q4 + 1 + j | 26 => q5 | 27 => q6 | _ => 0) (ct_ca k) ct_g) := hD
  exact kret 60 ls H locs _ (by decide +kernel) rfl hP hD hS
