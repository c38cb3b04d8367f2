/-! ===== the law, from its entry ===== -/
theorem la_ds : decode code 0 = .ok (.new 8, 3) ∧ decode code 3 = .ok (.dup, 1) ∧ decode code 4 = .ok (.invokespecial 17, 3) ∧ decode code 7 = .ok (.astore_n 1, 1) ∧ decode code 8 = .ok (.new 18, 3) ∧ decode code 11 = .ok (.dup, 1) ∧ decode code 12 = .ok (.invokespecial 20, 3) ∧ decode code 15 = .ok (.astore_n 2, 1) ∧ decode code 16 = .ok (.iconst 1, 1) ∧ decode code 17 = .ok (.newarray .long, 2) ∧ decode code 19 = .ok (.astore_n 3, 1) ∧ decode code 20 = .ok (.iconst 0, 1) ∧ decode code 21 = .ok (.istore 4, 2) := by decide +kernel
set_option maxRecDepth 100000 in
set_option maxHeartbeats 4000000 in
theorem whole_start {p : Program} {e : Env} {s : State} {m : MethodId} {below : List Frame} {meth : Method} {c : Code} (l : Launch) (hflags : l.flags = flags0) {b L : Nat} {xs : Nat → Int32} (hL : L ≤ 3072) (C0 : lw_At p s m meth c b L xs) : W p l e room_1 s m #[Value.ref b] below meth c s.heap [] 0 0 (lw_Z below #[Value.ref b] s) (entryFrame m ([Value.ref b] : List Value).toArray 7) := by
  obtain ⟨hx, hb, hr, hml, hown, hts0, hX, hbl, hlk, hgv⟩ := C0
  have hts : ∀ w ∈ am_tb, w.before #[Value.ref b] s = true := fun w hw => hts0 w (List.mem_filter.mp hw).1
  have hfl : l.stackTraces = false := by
    unfold Launch.stackTraces
    rw [hflags]
    decide +kernel
  obtain ⟨D, hDc⟩ := la_cls hts0
  obtain ⟨k, hK, hE⟩ := la_arrs hts0 hDc
  obtain ⟨hTx, hNc⟩ := la_tex hts0 hgv
  obtain ⟨A, hAe⟩ : ∃ A : Nat → Prop, A = fun q => s.heap.size ≤ q := ⟨_, rfl⟩
  rw [← hAe] at hTx
  have hA : ∀ q, s.heap.size ≤ q → A q := fun q h => by rw [hAe]; exact h
  have hA2 : ∀ q, A q → s.heap.size ≤ q := fun q h => by rw [hAe] at h; exact h
  have hbA : ¬ A b := fun h => Nat.not_le.mpr hbl (hA2 b h)
  have fx : CallFix p m c code 7 s #[Value.ref b] am_tb "TownForestLaw" := ⟨hx, hb, hml, hown, hts⟩
  obtain ⟨d0, d3, d4, d7, d8, d11, d12, d15, d16, d17, d19, d20, d21⟩ := la_ds
  have hl := lv_entry ([.ref b]) (n := 7) (Nat.le_of_ble_eq_true rfl)
  rw [lg_entry_eq]
  generalize (lg_sl ([.ref b]) ++ List.replicate (7 - (lg_sl ([.ref b])).length) Slot.unset).toArray = ls at hl ⊢
  have hl : lv_has ls 7 [(0, .ref b)] := hl
  have hP0 : va_P D am_cs [] s.heap := fun k q h => by simp at h
  have hD0 : va_D A [] := ⟨fun i j p q h => by simp at h, fun k q h => by simp at h⟩
  refine ct_make (pc := 0) (ik := 8) (ii := 17) (p1 := 83) (p2 := 84) (p3 := 65) (p4 := 85) (p5 := 86) (p6 := 87) (C1 := RX9) (T1 := TX9) (rest := []) fx hK hE hA hl.1 (ct_A l D k) rfl ⟨rfl, rfl, by decide +kernel⟩ (by decide) (by decide +kernel) (by decide +kernel) (by decide +kernel) (by decide +kernel) (by decide +kernel) (by decide +kernel) ⟨(Nat.le_of_ble_eq_true rfl), (Nat.le_of_ble_eq_true rfl)⟩ (Nat.le_of_ble_eq_true rfl) (Nat.le_of_ble_eq_true rfl) (Nat.le_of_ble_eq_true rfl) d0 d3 d4 hP0 hD0 va_S.rf (fun q adA H locs ha hP hD hS => ?_)
  have hP : va_P D am_cs (am_ws rsA adA (ct_ca k) ct_g) H := hP
  have hD : va_D A (am_ws rsA adA (ct_ca k) ct_g) := hD
  refine lv_astore_n (k := 1) (lv' := [(1, .ref q), (0, .ref b)]) hx hb d7 rfl hl (by decide) rfl (fun ls hl => ?_)
  obtain ⟨cw, cty, cnm⟩ := am_cls (ci := 10) (C := RX10) (T := TX10) (N := 26) rfl
  refine va_new (D := D) (ci := 10) (fs := ct_raw 10 26) (C := RX10) (T := TX10) (N := 26) hx hb hts cw (am_ty 10) cty hown (hts _ (am_tb_at (i := 1043) (w := .classLink "TownForestLaw" 18 RX10) (by decide +kernel) rfl)) (hts _ (am_tb_at (i := 1044) (w := .instantiable RX10 26) (by decide +kernel) rfl)) (hts _ (am_tb_at (i := 75) (w := .initialized RX10) (by decide +kernel) rfl)) hK hP hD hS hA rfl (fun j hj => ct_raw_V hj) (Nat.le_of_ble_eq_true rfl) (Nat.le_of_ble_eq_true rfl) d8 (fun qm H1 hP1 hD1 hS1 => ?_)
  refine lv_dup hx hb d11 rfl ?_
  have hfr : ∀ z, va_A [(qm, (.inr (10, ct_raw 10 26) : va_E))] H1.size z → A z := by
    intro z hz
    rcases hz with ⟨k2, e2, h⟩ | h
    · have hk2 : k2 < 1 := (List.getElem?_eq_some_iff.mp h).1
      rw [show k2 = 0 by omega] at h
      have e3 : (qm, _) = (z, e2) := Option.some.inj h
      have := hD1.2 (am_ws rsA adA (ct_ca k) ct_g).length (qm, .inr (10, ct_raw 10 26)) (by simp)
      rw [show z = qm from (congrArg Prod.fst e3).symm]
      exact this
    · exact hA z (Nat.le_trans hS1.1 h)
  have hPc : va_P D am_cs [(qm, .inr (10, ct_raw 10 26))] H1 := ct_P_r hP1
  refine va_callv (va_runI (g := F0 m 12 ls [.ref qm, .ref qm]) (As := []) (rest := [.ref qm]) fx (ct_M l D k qm H1.size) (cwI 0 hts (am_goodIn (p0 := 1047) (by decide +kernel)) rfl rfl rfl (hts _ (am_tb_at (i := 75) (w := .initialized RX10) (by decide +kernel) rfl)) (hts _ (am_tb_at (i := 1045) (w := .methodLink "TownForestLaw" 20 ⟨"TownForestModel", "<init>", "()V"⟩) (by decide +kernel) rfl)) (hts _ (am_tb_at (i := 1046) (w := .instanceMethod ⟨"TownForestModel", "<init>", "()V"⟩) (by decide +kernel) rfl)) rfl ⟨by decide, by decide, by decide +kernel⟩ ⟨(Nat.le_of_ble_eq_true rfl), (Nat.le_of_ble_eq_true rfl)⟩)
    ⟨ct_Pc_blind, fun U hU hW => ⟨rfl, by rw [hU], by rw [hU]; exact hPc, va_K.moved hW.alike hK, hE.warm hW⟩⟩ rfl rfl hl.1 rfl (lv_room (Nat.le_of_ble_eq_true rfl)) d12 ⟨(Nat.le_of_ble_eq_true rfl), (Nat.le_of_ble_eq_true rfl)⟩) hS1 (fun z _ h => hfr z h) hfr (fun u t H2 locs2 ht hvm hw hB hz1 hk1 hS2 => ?_)
  obtain ⟨adM, gM⟩ := u
  obtain ⟨hm1, hm2, hm3⟩ := hw
  obtain ⟨hP2, hD2⟩ := hB
  rw [ht] at hP2
  obtain ⟨hP3, hD3⟩ := ct_join hP1 hD1 hfr hk1 hP2 hD2
  refine lv_astore_n (k := 2) (lv' := [(2, .ref qm), (1, .ref q), (0, .ref b)]) hx hb d15 rfl hl (by decide) rfl (fun ls hl => ?_)
  refine lv_iconst (v := 1) hx hb d16 (by decide) ?_
  refine va_newa (atype := .long) (ty := .long) (N' := 1) (a0 := (1, .inr (.inl (fun _ => 0)))) hx hb (hts _ (am_tb_at (i := 1554) (w := .arrayClass .long) (by decide +kernel) rfl)) rfl hK hP3 hD3 hS2 hA (fun cA => rfl) (by decide) (by decide) (Nat.le_of_ble_eq_true rfl) (Nat.le_of_ble_eq_true rfl) (Nat.le_of_ble_eq_true rfl) d17 (fun qo cL H3 hK4 hP4 hD4 hS4 => ?_)
  refine lv_astore_n (k := 3) (lv' := [(3, .ref qo), (2, .ref qm), (1, .ref q), (0, .ref b)]) hx hb d19 rfl hl (by decide) rfl (fun ls hl => ?_)
  refine lv_iconst (v := 0) hx hb d20 (by decide) ?_
  refine lv_istore (i := 4) (lv' := [(4, .int 0), (3, .ref qo), (2, .ref qm), (1, .ref q), (0, .ref b)]) hx hb d21 hl (by decide) rfl (fun ls hl => ?_)
  obtain ⟨hP5, hD5⟩ := la_merge hP4 hD4 hm3
  have e0 : ct_gl rsA adA adM 0 0 = q := (ct_gl_in (by decide +kernel)).trans ha
  have e29 : ct_gl rsA adA adM 29 0 = qm := (ct_gl_out (by decide +kernel)).trans hm1
  have hlv : lv_has ls 7 (la_lv (ct_gl rsA adA adM) b qo 0) := by
    unfold la_lv
    rw [e0, e29, nI_0]
    exact lv_sub hl [4, 3, 2, 1, 0] rfl
  have C : la_Cx p l s m c D rsW (ct_gl rsA adA adM) (ct_ca k) (ct_tys k ++ [(cL, .long)]) A qo b L xs := ⟨fx, hK4, hE.2.2, hX, hbl, hbA, hL, am_met l rsW_ok (la_hty k cL) 9, rsW_in.1, rsW_in.2.2⟩
  refine W.widen (k := 225 + 0) (n := 8945 + 6 * 0) (Nat.le_of_ble_eq_true rfl) (Nat.le_of_ble_eq_true rfl) ?_
  exact la_loop C hr hlk hA2 hfl rsW_ok (la_hty k cL) rsW_in.2.1 (t3 := 3) rfl hTx hNc L 0 (Nat.zero_le _) (by omega) (la_g0 gM) a_new (fun _ => 0) H3 _ ls (la_new hm2) hP5 hD5 hS4 hlv
