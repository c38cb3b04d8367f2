/-! ===== the case of town ===== -/
theorem la_tcase {g : am_G} {σ : aS} (h : rBo g σ) (x y : Int32) : ∃ (k v w : Int32) (g1 g2 : am_G), ((k = 0 ∧ am_call 9 102 [.inr (.inr (0, 0)), .inl x, .inl y] g = some (some (.inl v), g1)) ∨ (k = 1 ∧ g1 = g ∧ am_call 8 3 [.inr (.inr (1, 0)), .inl x] g = some (some (.inl 0), g)) ∨ (k = 2 ∧ g1 = g ∧ am_call 8 3 [.inr (.inr (1, 0)), .inl x] g = some (some (.inl 1), g) ∧ ¬ (0 ≤ y ∧ y < 10))) ∧
    am_call 9 199 [.inr (.inr (29, 0)), .inl x, .inl y] g1 = some (some (.inl w), g2) ∧ g2 131 0 0 = k ∧ rBo g2 σ ∧ (k = 0 → w = v) := by
  rcases town_cs h x y with hx | ⟨t, ht, rfl, hy⟩ | ⟨t, ht, rfl, hy⟩
  · obtain ⟨g2, a1, a2, a3, -⟩ := L_town1 0 h hx y
    exact ⟨1, 0, 0, g, g2, Or.inr (Or.inl ⟨rfl, rfl, C_has_f 7 h.1.2.1 hx⟩), a1, a2, a3, fun q => absurd q (by decide)⟩
  · obtain ⟨g2, a1, a2, a3, -⟩ := L_town2 0 h ht hy
    exact ⟨2, 0, 0, g, g2, Or.inr (Or.inr ⟨rfl, rfl, C_has_t 7 h.1.2.1 h.2.2.1 ht, hy⟩), a1, a2, a3, fun q => absurd q (by decide)⟩
  · obtain ⟨g1, g2, v, a1, a2, a3, a4, -⟩ := L_town 0 h ht y hy
    exact ⟨0, v, v, g1, g2, Or.inl ⟨rfl, a1⟩, a2, a3, a4, fun _ => rfl⟩
theorem la_thrown (g : am_G) : am_call 9 132 [.inr (.inr (29, 0))] g = some (some (.inl (g 131 0 0)), g) := by
  rw [cM_thrown 8, eM_thrown_0]
theorem la_tw : lw_tbl[935]? = some (.methodLink "TownForestLaw" 97 lt_y) ∧ lw_tbl[936]? = some (.static lt_y) ∧ lw_tbl[64]? = some (.initialized "TownForestLaw") := by decide +kernel
theorem la_tgood : GoodIn am_tb (va_wsS "TownForestLaw" 97 lt_y (lt_w :: am_tb)) := by
  intro w hw
  have hm : w ∈ am_tb := by
    rcases List.mem_append.mp hw with h | h
    · have hc : w = .methodLink "TownForestLaw" 97 lt_y ∨ w = .static lt_y ∨ w = .initialized lt_y.cls := by simpa using h
      rcases hc with rfl | rfl | rfl
      · exact am_tb_at la_tw.1 rfl
      · exact am_tb_at la_tw.2.1 rfl
      · exact am_tb_at la_tw.2.2 rfl
    · rcases List.mem_cons.mp h with rfl | h
      · exact am_tb_at lt_win lt_good
      · exact h
  exact ⟨hm, good_of_word (List.mem_filter.mp hm).2⟩
theorem la_td : decode code 906 = .ok (.aload_n 1, 1) ∧ (List.range 2).all (fun j => la_ckb (907 + 6 * j) (j + 1)) = true ∧ decode code 919 = .ok (.aload_n 3, 1) ∧ decode code 920 = .ok (.invokestatic 97, 3) ∧ decode code 923 = .ok (.istore 5, 2) ∧ decode code 925 = .ok (.aload_n 2, 1) ∧ (List.range 2).all (fun j => la_ckb (926 + 6 * j) (j + 1)) = true ∧ decode code 938 = .ok (.invokevirtual 102, 3) ∧ decode code 941 = .ok (.istore 6, 2) ∧ decode code 943 = .ok (.aload_n 2, 1) ∧ decode code 944 = .ok (.invokevirtual 103, 3) ∧ decode code 947 = .ok (.iload 5, 2) := by decide +kernel
theorem la_te : decode code 949 = .ok (.if_icmp .eq 5, 3) ∧ decode code 954 = .ok (.iload 5, 2) ∧ decode code 956 = .ok (.ifCond .ne 15, 3) ∧ decode code 959 = .ok (.aload_n 3, 1) ∧ decode code 960 = .ok (.iconst 0, 1) ∧ decode code 961 = .ok (.laload, 1) ∧ decode code 962 = .ok (.iload 6, 2) ∧ decode code 964 = .ok (.i2l, 1) ∧ decode code 965 = .ok (.lcmp, 1) ∧ decode code 966 = .ok (.ifCond .eq 5, 3) ∧ decode code 971 = .ok (.goto 723, 3) := by decide +kernel
theorem la_tk1 : am_ckv am_inf "TownForestLaw" 102 [199, 2 + 1, 1, 10 + 1, 1390] = true := by decide +kernel
theorem la_tk2 : am_ckv am_inf "TownForestLaw" 103 [132, 0 + 1, 1, 10 + 1, 1144] = true := by decide +kernel
section LA
variable {p : Program} {l : Launch} {e : Env} {s : State} {m : MethodId} {below : List Frame} {meth : Method} {c : Code} {Q : State → Prop} {H : Heap} {locs : List Loc} {cells slots : Nat}
variable {D : va_G} {rs : List (Nat × Nat)} {ad : Nat → Nat → Nat} {ca : Nat → ClassId} {tys : List (ClassId × FieldType)} {A : Nat → Prop} {qo b L : Nat} {cL : ClassId} {xs : Nat → Int32} {ls : Array Slot} {lv : List (Nat × Value)} {i : Nat}
set_option maxHeartbeats 4000000 in
theorem la_town (C : la_Cx p l s m c D rs ad ca tys A qo b L xs) (hfl : l.stackTraces = false) (hrs : am_rsok rs = true) (hty : ∀ r ∈ rs, am_isA r.1 = true → ∃ t0 : Nat, tys[t0]? = some (ca r.1, am_aty r.1)) (h10 : (1, 0) ∈ rs) {t3 : Nat} (ht3 : tys[t3]? = some (cL, .long)) (hE : tw_Ex A s) (hNc : va_Nc tx_N tx_I s) {g : am_G} {σ : aS} {fo : Nat → Int64} (hB : rBo g σ) (hi : i + 6 ≤ L) (hcs : cells + 1 ≤ 601024 ∧ slots + 6 ≤ 7293034)
    (hP : va_P D am_cs (la_ws rs ad ca g qo cL fo) H) (hD : va_D A (la_ws rs ad ca g qo cL fo)) (hS : va_S A s.heap H locs) (hl : lv_has ls 7 (la_lv ad b qo i)) (nx : la_N p l e s m below meth c Q D rs ad ca A qo b cL i (cells + 1) (slots + 6)) : W p l e room_1 s m #[Value.ref b] below meth c H locs cells slots Q (F0 m 906 ls []) := by
  obtain ⟨fx, hK, hN, hX, hbl, hbA, hL, hct, h00, h29⟩ := id C
  obtain ⟨hx, hb, hml, hown, hts⟩ := id fx
  obtain ⟨k, v, w, g1, g2, hcase, o2, o3, hr, hkv⟩ := la_tcase hB (xs (i + (0 + 1))) (xs (i + (1 + 1)))
  obtain ⟨c0, c1, c2, c3, c4, c5, c6, c7, c8, c9, c10, c11⟩ := la_td
  obtain ⟨e1, e2, e3, e4, e5, e6, e7, e8, e9, e10, e11⟩ := la_te
  refine lv_aload_n hx hb c0 rfl (lv_at hl 1 rfl) ?_
  refine la_args (ad := ad) hx hb hX hbl hbA hS hL (lv_at hl 0 rfl) (lv_at hl 4 rfl) hi 2 (by omega) c1 ?_
  refine lv_aload_n hx hb c2 rfl (lv_at hl 3 rfl) ?_
  refine va_calli (A0 := A) (H0 := s.heap) (vx_runSW (H := H) (locs := locs) (e := e) (below := below) (meth := meth) (cells := cells) (slots := slots) (R := room_1) (index := 97) (As := [.ref (ad 0 0), .int (xs (i + (0 + 1))), .int (xs (i + (1 + 1))), .ref qo]) (rest := []) (g := F0 m 920 ls [.ref qo, .int (xs (i + (1 + 1))), .int (xs (i + (0 + 1))), .ref (ad 0 0)]) (n := 4) fx
    (lt_met (D := D) (rs := rs) (ad := ad) (ca := ca) (tys := tys) (A := A) (qo := qo) (cL := cL) (fo := fo) l hfl hrs hty h00 h10 ht3 hcase) (vx_cwSW 4 hts la_tgood rfl rfl rfl ⟨by decide, by decide, by decide +kernel⟩ ⟨Nat.le_of_ble_eq_true rfl, Nat.le_of_ble_eq_true rfl⟩)
    ⟨lt_Pc_blind, fun U hU hW => ⟨rfl, by rw [hU]; exact hP, hD, va_K.moved hW.alike hK, hN.warm hW, hE.to hS hU hW, va_Nc.moved hW.alike hNc⟩⟩ rfl rfl hl.1 rfl (lv_room (Nat.le_of_ble_eq_true rfl)) c3 hcs) hS (fun q _ h => h) (fun q h => h) (fun r u t H1 locs1 ht hvm hw hBt hz hk hS1 => ?_)
  obtain ⟨rfl, hu⟩ := hw
  obtain ⟨hP1, hD1⟩ := hBt
  rw [ht] at hP1
  refine lv_istore (i := 5) (lv' := (5, .int r) :: la_lv ad b qo i) hx hb c4 hl (by decide) rfl (fun ls hl => ?_)
  refine lv_aload_n hx hb c5 rfl (lv_at hl 3 rfl) ?_
  refine la_args (ad := ad) hx hb hX hbl hbA hS1 hL (lv_at hl 1 rfl) (lv_at hl 5 rfl) hi 2 (by omega) c6 ?_
  refine la_step C (pc := 938) (n := 2) (idx := 102) (mi := 199) (ci := 10) (pl := 1390) (c0 := 29) (rest := []) la_tk1 c7 (as := la_vs xs i 2) la_len la_vl o2 h29 ⟨_, rfl⟩ hP1 hD1 hS1 hl.1 (Nat.le_of_ble_eq_true rfl) hcs (fun H2 locs2 hP2 hD2 hS2 => ?_)
  refine lv_istore (i := 6) (lv' := (6, .int w) :: (5, .int r) :: la_lv ad b qo i) hx hb c8 hl (by decide) rfl (fun ls hl => ?_)
  refine lv_aload_n hx hb c9 rfl (lv_at hl 4 rfl) ?_
  refine la_step C (pc := 944) (n := 0) (idx := 103) (mi := 132) (ci := 10) (pl := 1144) (c0 := 29) (rest := []) la_tk2 c10 (as := []) rfl (fun v hv => by cases hv) (la_thrown g2) h29 ⟨_, rfl⟩ hP2 hD2 hS2 hl.1 (Nat.le_of_ble_eq_true rfl) hcs (fun H3 locs3 hP3 hD3 hS3 => ?_)
  rw [o3]
  refine lv_iload hx hb c11 (lv_at hl 1 rfl) ?_
  have hl5 : lv_has ls 7 (la_lv ad b qo i) := lv_sub hl [2, 3, 4, 5, 6] rfl
  have fin : W p l e room_1 s m #[Value.ref b] below meth c H3 locs3 (cells + 1) (slots + 6) Q (F0 m 971 ls []) := lv_goto (tgt := 1694) hx hb e11 (by decide) (nx g2 σ u H3 locs3 ls hr hP3 hD3 hS3 hl5)
  refine lv_icmp_eq (tgt := 954) hx hb e1 (by decide) (fun _ => ?_) (fun q => absurd rfl q)
  refine lv_iload hx hb e2 (lv_at hl 1 rfl) ?_
  refine lv_if_ne (tgt := 971) hx hb e3 (by decide) (fun _ => fin) (fun hr0 => ?_)
  have hr0 : r = 0 := by
    by_cases q : r = 0
    · exact q
    · exact absurd q (by simpa using hr0)
  refine lv_aload_n hx hb e4 rfl (lv_at hl5 3 rfl) ?_
  refine lv_iconst (v := 0) hx hb e5 (by decide) ?_
  refine va_lald (D := D) hx hb hK hP3 (am_ws rs ad ca g2).length t3 (cA := cL) (n := 1) (f := u) (by unfold la_ws; simp) ht3 (vp_in_nI (n := 0) (N := 1) (by omega) (by omega)) e6 ?_
  refine lv_iload hx hb e7 (lv_at hl 0 rfl) ?_
  refine lv_i2l hx hb (v := w.toInt64) e8 rfl ?_
  refine W.lcmp hx hb e9 ?_
  have e0 : (0 : Int32).toNatClampNeg = 0 := by decide
  have ez : lg_cmp (u (0 : Int32).toNatClampNeg) w.toInt64 = 0 := by
    rw [e0, hu hr0, hkv hr0]
    unfold lg_cmp
    simp
  rw [ez]
  exact lv_if_eq (tgt := 971) hx hb e10 (by decide) (fun _ => fin) (fun q => absurd rfl q)
end LA
