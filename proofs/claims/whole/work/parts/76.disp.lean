/-! ===== the law's loop (by wip/whole/src/gen75.py) ===== -/
def la_tg : List Nat := [228, 301, 326, 351, 376, 401, 426, 487, 524, 561, 586, 623, 672, 709, 758, 783, 844, 869, 906, 974, 1011, 1048, 1097, 1134, 1171, 1208, 1245, 1282, 1307, 1356, 1381, 1406, 1419, 1444, 1481, 1506, 1531, 1556, 1581, 1630, 1643, 1656, 1669]
def la_of : List Int := la_tg.map (fun (t : Nat) => (t : Int) - 40)
theorem la_dsw : decode code 40 = .ok (.tableswitch 1654 0 42 la_of.toArray, 188) := by decide +kernel
theorem la_dl : decode code 23 = .ok (.iload 4, 2) ∧ decode code 25 = .ok (.aload_n 0, 1) ∧ decode code 26 = .ok (.arraylength, 1) ∧ decode code 27 = .ok (.bipush 6, 2) ∧ decode code 29 = .ok (.isub, 1) ∧ decode code 30 = .ok (.if_icmp .gt 1670, 3) ∧ decode code 33 = .ok (.aload_n 0, 1) ∧ decode code 34 = .ok (.iload 4, 2) ∧ decode code 36 = .ok (.iaload, 1) ∧ decode code 37 = .ok (.bipush 63, 2) ∧ decode code 39 = .ok (.iand, 1) ∧ decode code 1694 = .ok (.iinc 4 6, 3) ∧ decode code 1697 = .ok (.goto (-1674), 3) ∧ decode code 1700 = .ok (.iconst 1, 1) ∧ decode code 1701 = .ok (.ireturn, 1) := by decide +kernel
theorem la_and (x : Int32) : ∃ n : Nat, n < 64 ∧ x &&& 63 = nI n := by
  refine ⟨(x.toBitVec &&& (63 : Int32).toBitVec).toNat, ?_, ?_⟩
  · rw [BitVec.toNat_and]
    exact Nat.lt_of_le_of_lt Nat.and_le_right (by decide)
  · apply Int32.toBitVec_inj.mp
    rw [Int32.toBitVec_and]
    unfold nI
    rw [Int32.toBitVec_ofNat', BitVec.ofNat_toNat, BitVec.setWidth_eq]
theorem la_gt {i L : Nat} (hL : L ≤ 3072) (hi : i ≤ L) : (nI L - 6 < nI i) ↔ ¬ i + 6 ≤ L := by
  rcases Nat.lt_or_ge L 6 with h | h
  · refine ⟨fun _ => by omega, fun _ => ?_⟩
    have e : ∀ k, k < 6 → (nI k - 6).toInt < 0 := by decide +kernel
    rw [q_lt, nI_toInt (n := i) (by omega)]
    have := e L h
    omega
  · have e : nI L - 6 = nI (L - 6) := by
      have e1 : nI L = nI (L - 6) + 6 := by
        rw [show (6 : Int32) = nI 6 from rfl, nI_add, Nat.sub_add_cancel h]
      rw [e1]
      exact Int32.add_sub_cancel _ _
    rw [e, nI_ltI (by omega) (by omega)]
    omega
section LA
variable {p : Program} {l : Launch} {e : Env} {s : State} {m : MethodId} {below : List Frame} {meth : Method} {c : Code} {Q : State → Prop} {H : Heap} {locs : List Loc} {cells slots : Nat}
variable {D : va_G} {rs : List (Nat × Nat)} {ad : Nat → Nat → Nat} {ca : Nat → ClassId} {tys : List (ClassId × FieldType)} {A : Nat → Prop} {qo b L : Nat} {cL : ClassId} {xs : Nat → Int32} {ls : Array Slot} {i : Nat}
theorem la_sw (hx : p.tables.exec = Jvm.exec) (hb : c.code = code) {n tgt : Nat} (hn : n < 43) (ht : la_tg[n]? = some tgt) (kk : W p l e room_1 s m #[Value.ref b] below meth c H locs cells slots Q (F0 m tgt ls [])) : W p l e room_1 s m #[Value.ref b] below meth c H locs cells slots Q (F0 m 40 ls [.int (nI n)]) := by
  have e1 : (nI n).toInt = (n : Int) := nI_toInt (by omega)
  refine lv_tableIn (off := (tgt : Int) - 40) (tgt := tgt) hx hb la_dsw (by rw [e1]; omega) (by rw [e1]; omega) ?_ (by omega) kk
  rw [e1, Int.sub_zero, Int.toNat_natCast, List.getElem?_toArray]
  unfold la_of
  rw [List.getElem?_map, ht]
  rfl
set_option maxHeartbeats 4000000 in
theorem la_disp (C : la_Cx p l s m c D rs ad ca tys A qo b L xs) (hfl : l.stackTraces = false) (hrs : am_rsok rs = true) (hty : ∀ r ∈ rs, am_isA r.1 = true → ∃ t0 : Nat, tys[t0]? = some (ca r.1, am_aty r.1)) (h10 : (1, 0) ∈ rs) {t3 : Nat} (ht3 : tys[t3]? = some (cL, .long)) (hE : tw_Ex A s) (hNc : va_Nc tx_N tx_I s) {g : am_G} {σ : aS} {fo : Nat → Int64} (hB : rBo g σ) (hi : i + 6 ≤ L) (hcs : cells + 1 ≤ 601024 ∧ slots + 6 ≤ 7293034)
    (hP : va_P D am_cs (la_ws rs ad ca g qo cL fo) H) (hD : va_D A (la_ws rs ad ca g qo cL fo)) (hS : va_S A s.heap H locs) (hl : lv_has ls 7 (la_lv ad b qo i)) (nx : la_N p l e s m below meth c Q D rs ad ca A qo b cL i cells slots) (nx1 : la_N p l e s m below meth c Q D rs ad ca A qo b cL i (cells + 1) (slots + 6)) {n : Nat} (hn : n < 43) : W p l e room_1 s m #[Value.ref b] below meth c H locs cells slots Q (F0 m 40 ls [.int (nI n)]) := by
  have hx := C.1.1
  have hb := C.1.2.1
  have hc0 : cells ≤ 601024 ∧ slots ≤ 7293034 := ⟨by omega, by omega⟩
  match n, hn with
  | 0, hn => exact la_sw hx hb hn rfl (la_case C la_k0.1 (by decide) la_k0.2.1 la_k0.2.2 (L_feed 0 hB _ _ _ _ _) hi hc0 hP hD hS hl nx)
  | 1, hn => exact la_sw hx hb hn rfl (la_case C la_k1.1 (by decide) la_k1.2.1 la_k1.2.2 (L_text 0 hB _) hi hc0 hP hD hS hl nx)
  | 2, hn => exact la_sw hx hb hn rfl (la_case C la_k2.1 (by decide) la_k2.2.1 la_k2.2.2 (L_fault 0 hB _) hi hc0 hP hD hS hl nx)
  | 3, hn => exact la_sw hx hb hn rfl (la_case C la_k3.1 (by decide) la_k3.2.1 la_k3.2.2 (L_named 0 hB _) hi hc0 hP hD hS hl nx)
  | 4, hn => exact la_sw hx hb hn rfl (la_case C la_k4.1 (by decide) la_k4.2.1 la_k4.2.2 (L_touch 0 hB _) hi hc0 hP hD hS hl nx)
  | 5, hn => exact la_sw hx hb hn rfl (la_case C la_k5.1 (by decide) la_k5.2.1 la_k5.2.2 (L_reroot 0 hB _) hi hc0 hP hD hS hl nx)
  | 6, hn => exact la_sw hx hb hn rfl (la_case C la_k6.1 (by decide) la_k6.2.1 la_k6.2.2 (L_link 0 hB _ _ _ _) hi hc0 hP hD hS hl nx)
  | 7, hn => exact la_sw hx hb hn rfl (la_case C la_k7.1 (by decide) la_k7.2.1 la_k7.2.2 (L_cut 0 hB _ _) hi hc0 hP hD hS hl nx)
  | 8, hn => exact la_sw hx hb hn rfl (la_case C la_k8.1 (by decide) la_k8.2.1 la_k8.2.2 (L_walk 0 hB _ _) hi hc0 hP hD hS hl nx)
  | 9, hn => exact la_sw hx hb hn rfl (la_case C la_k9.1 (by decide) la_k9.2.1 la_k9.2.2 (L_seen 0 hB _) hi hc0 hP hD hS hl nx)
  | 10, hn => exact la_sw hx hb hn rfl (la_case C la_k10.1 (by decide) la_k10.2.1 la_k10.2.2 (L_meet 0 hB _ _) hi hc0 hP hD hS hl nx)
  | 11, hn => exact la_sw hx hb hn rfl (la_case C la_k11.1 (by decide) la_k11.2.1 la_k11.2.2 (L_raise 0 hB _ _ _) hi hc0 hP hD hS hl nx)
  | 12, hn => exact la_sw hx hb hn rfl (la_case C la_k12.1 (by decide) la_k12.2.1 la_k12.2.2 (L_cutDearest 0 hB _ _) hi hc0 hP hD hS hl nx)
  | 13, hn => exact la_sw hx hb hn rfl (la_case C la_k13.1 (by decide) la_k13.2.1 la_k13.2.2 (L_send 0 hB _ _ _) hi hc0 hP hD hS hl nx)
  | 14, hn => exact la_sw hx hb hn rfl (la_case C la_k14.1 (by decide) la_k14.2.1 la_k14.2.2 (L_settle 0 hB _) hi hc0 hP hD hS hl nx)
  | 15, hn => exact la_sw hx hb hn rfl (la_case C la_k15.1 (by decide) la_k15.2.1 la_k15.2.2 (L_exchange 0 hB _ _ _ _) hi hc0 hP hD hS hl nx)
  | 16, hn => exact la_sw hx hb hn rfl (la_case C la_k16.1 (by decide) la_k16.2.1 la_k16.2.2 (L_shed 0 hB _) hi hc0 hP hD hS hl nx)
  | 17, hn => exact la_sw hx hb hn rfl (la_case C la_k17.1 (by decide) la_k17.2.1 la_k17.2.2 (L_value 0 hB _ _) hi hc0 hP hD hS hl nx)
  | 18, hn => exact la_sw hx hb hn rfl (la_town C hfl hrs hty h10 ht3 hE hNc hB hi hcs hP hD hS hl nx1)
  | 19, hn => exact la_sw hx hb hn rfl (la_case C la_k19.1 (by decide) la_k19.2.1 la_k19.2.2 (L_chain 0 hB _ _) hi hc0 hP hD hS hl nx)
  | 20, hn => exact la_sw hx hb hn rfl (la_case C la_k20.1 (by decide) la_k20.2.1 la_k20.2.2 (L_above 0 hB _ _) hi hc0 hP hD hS hl nx)
  | 21, hn => exact la_sw hx hb hn rfl (la_case C la_k21.1 (by decide) la_k21.2.1 la_k21.2.2 (L_along 0 hB _ _ _) hi hc0 hP hD hS hl nx)
  | 22, hn => exact la_sw hx hb hn rfl (la_case C la_k22.1 (by decide) la_k22.2.1 la_k22.2.2 (L_together 0 hB _ _) hi hc0 hP hD hS hl nx)
  | 23, hn => exact la_sw hx hb hn rfl (la_case C la_k23.1 (by decide) la_k23.2.1 la_k23.2.2 (L_far 0 hB _ _) hi hc0 hP hD hS hl nx)
  | 24, hn => exact la_sw hx hb hn rfl (la_case C la_k24.1 (by decide) la_k24.2.1 la_k24.2.2 (L_meets 0 hB _ _) hi hc0 hP hD hS hl nx)
  | 25, hn => exact la_sw hx hb hn rfl (la_case C la_k25.1 (by decide) la_k25.2.1 la_k25.2.2 (L_room 0 hB _ _) hi hc0 hP hD hS hl nx)
  | 26, hn => exact la_sw hx hb hn rfl (la_case C la_k26.1 (by decide) la_k26.2.1 la_k26.2.2 (L_order 0 hB _ _) hi hc0 hP hD hS hl nx)
  | 27, hn => exact la_sw hx hb hn rfl (la_case C la_k27.1 (by decide) la_k27.2.1 la_k27.2.2 (L_place 0 hB _) hi hc0 hP hD hS hl nx)
  | 28, hn => exact la_sw hx hb hn rfl (la_case C la_k28.1 (by decide) la_k28.2.1 la_k28.2.2 (L_joint 0 hB _ _ _) hi hc0 hP hD hS hl nx)
  | 29, hn => exact la_sw hx hb hn rfl (la_case C la_k29.1 (by decide) la_k29.2.1 la_k29.2.2 (L_tightest 0 hB _) hi hc0 hP hD hS hl nx)
  | 30, hn => exact la_sw hx hb hn rfl (la_case C la_k30.1 (by decide) la_k30.2.1 la_k30.2.2 (L_heavy 0 hB _) hi hc0 hP hD hS hl nx)
  | 31, hn => exact la_sw hx hb hn rfl (la_case C la_k31.1 (by decide) la_k31.2.1 la_k31.2.2 (L_potential 0 hB) hi hc0 hP hD hS hl nx)
  | 32, hn => exact la_sw hx hb hn rfl (la_case C la_k32.1 (by decide) la_k32.2.1 la_k32.2.2 (L_would 0 hB _) hi hc0 hP hD hS hl nx)
  | 33, hn => exact la_sw hx hb hn rfl (la_case C la_k33.1 (by decide) la_k33.2.1 la_k33.2.2 (L_widest 0 hB _ _) hi hc0 hP hD hS hl nx)
  | 34, hn => exact la_sw hx hb hn rfl (la_case C la_k34.1 (by decide) la_k34.2.1 la_k34.2.2 (L_midst 0 hB _) hi hc0 hP hD hS hl nx)
  | 35, hn => exact la_sw hx hb hn rfl (la_case C la_k35.1 (by decide) la_k35.2.1 la_k35.2.2 (L_parts 0 hB _) hi hc0 hP hD hS hl nx)
  | 36, hn => exact la_sw hx hb hn rfl (la_case C la_k36.1 (by decide) la_k36.2.1 la_k36.2.2 (L_dearest 0 hB _) hi hc0 hP hD hS hl nx)
  | 37, hn => exact la_sw hx hb hn rfl (la_case C la_k37.1 (by decide) la_k37.2.1 la_k37.2.2 (L_leastFor 0 hB _) hi hc0 hP hD hS hl nx)
  | 38, hn => exact la_sw hx hb hn rfl (la_case C la_k38.1 (by decide) la_k38.2.1 la_k38.2.2 (L_chance 0 hB _ _ _) hi hc0 hP hD hS hl nx)
  | 39, hn => exact la_sw hx hb hn rfl (la_case C la_k39.1 (by decide) la_k39.2.1 la_k39.2.2 (L_undo 0 hB) hi hc0 hP hD hS hl nx)
  | 40, hn => exact la_sw hx hb hn rfl (la_case C la_k40.1 (by decide) la_k40.2.1 la_k40.2.2 (L_keep 0 hB) hi hc0 hP hD hS hl nx)
  | 41, hn => exact la_sw hx hb hn rfl (la_case C la_k41.1 (by decide) la_k41.2.1 la_k41.2.2 (L_back 0 hB) hi hc0 hP hD hS hl nx)
  | 42, hn => exact la_sw hx hb hn rfl (la_case C la_k42.1 (by decide) la_k42.2.1 la_k42.2.2 (L_count 0 hB _) hi hc0 hP hD hS hl nx)
  | n + 43, hn => omega
end LA
