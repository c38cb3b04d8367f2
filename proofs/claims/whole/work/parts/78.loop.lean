/-! ===== the law's loop ===== -/
section LA
variable {p : Program} {l : Launch} {e : Env} {s : State} {m : MethodId} {below : List Frame} {meth : Method} {c : Code}
variable {D : va_G} {rs : List (Nat × Nat)} {ad : Nat → Nat → Nat} {ca : Nat → ClassId} {tys : List (ClassId × FieldType)} {A : Nat → Prop} {qo b L : Nat} {cL : ClassId} {xs : Nat → Int32}
set_option maxHeartbeats 4000000 in
theorem la_loop (C : la_Cx p l s m c D rs ad ca tys A qo b L xs) (hr : meth.sig.returnType = ret) (hlk : meth.locks = false) (hA : ∀ q, A q → s.heap.size ≤ q) (hfl : l.stackTraces = false) (hrs : am_rsok rs = true) (hty : ∀ r ∈ rs, am_isA r.1 = true → ∃ t0 : Nat, tys[t0]? = some (ca r.1, am_aty r.1)) (h10 : (1, 0) ∈ rs) {t3 : Nat} (ht3 : tys[t3]? = some (cL, .long)) (hE : tw_Ex A s) (hNc : va_Nc tx_N tx_I s) :
    ∀ (n i : Nat), i ≤ L → L ≤ i + 6 * n → ∀ (g : am_G) (σ : aS) (fo : Nat → Int64) (H : Heap) (locs : List Loc) (ls : Array Slot), rBo g σ → va_P D am_cs (la_ws rs ad ca g qo cL fo) H → va_D A (la_ws rs ad ca g qo cL fo) → va_S A s.heap H locs → lv_has ls 7 (la_lv ad b qo i) → W p l e room_1 s m #[Value.ref b] below meth c H locs (225 + i) (8945 + 6 * i) (lw_Z below #[Value.ref b] s) (F0 m 23 ls []) := by
  obtain ⟨⟨hx, hb, hml, hown, hts⟩, hK, hN, hX, hbl, hbA, hL, hct, h00, h29⟩ := id C
  obtain ⟨d0, d1, d2, d3, d4, d5, d6, d7, d8, d9, d10, d11, d12, d13, d14⟩ := la_dl
  intro n
  induction n with
  | zero =>
    intro i hi hin g σ fo H locs ls hB hP hD hS hl
    refine lv_iload hx hb d0 (lv_at hl 4 rfl) ?_
    refine lv_aload_n hx hb d1 rfl (lv_at hl 0 rfl) ?_
    refine va_slen hx hb hX hbl hbA hS d2 ?_
    refine lv_bipush (v := 6) hx hb d3 (by decide) ?_
    refine lv_isub hx hb d4 ?_
    refine lv_icmp_gt (tgt := 1700) hx hb d5 (by decide) (fun _ => ?_) (fun q => absurd ((la_gt hL hi).mpr (by omega)) q)
    refine lv_iconst (v := 1) hx hb d13 (by decide) ?_
    refine va_forget (fun q hq => hA _ (hS.2.2 q hq)) ?_
    refine W.widen (k := 601024) (n := 7293034) (by omega) (by omega) ?_
    exact lw_ret hx hb hr hlk d14
  | succ n ih =>
    intro i hi hin g σ fo H locs ls hB hP hD hS hl
    refine lv_iload hx hb d0 (lv_at hl 4 rfl) ?_
    refine lv_aload_n hx hb d1 rfl (lv_at hl 0 rfl) ?_
    refine va_slen hx hb hX hbl hbA hS d2 ?_
    refine lv_bipush (v := 6) hx hb d3 (by decide) ?_
    refine lv_isub hx hb d4 ?_
    refine lv_icmp_gt (tgt := 1700) hx hb d5 (by decide) (fun _ => ?_) (fun hq => ?_)
    · refine lv_iconst (v := 1) hx hb d13 (by decide) ?_
      refine va_forget (fun q hq => hA _ (hS.2.2 q hq)) ?_
      refine W.widen (k := 601024) (n := 7293034) (by omega) (by omega) ?_
      exact lw_ret hx hb hr hlk d14
    · have h6 : i + 6 ≤ L := by
        by_cases q : i + 6 ≤ L
        · exact q
        · exact absurd ((la_gt hL hi).mpr q) hq
      have nx : ∀ cells slots : Nat, cells ≤ 225 + (i + 6) → slots ≤ 8945 + 6 * (i + 6) → la_N p l e s m below meth c (lw_Z below #[Value.ref b] s) D rs ad ca A qo b cL i cells slots := by
        intro cells slots hc hs g2 σ2 fo2 H2 locs2 ls2 hB2 hP2 hD2 hS2 hl2
        refine lv_iinc (v := nI (i + 6)) (lv' := [(4, .int (nI (i + 6))), (0, .ref b), (1, .ref (ad 0 0)), (2, .ref (ad 29 0)), (3, .ref qo)]) hx hb d11 hl2 (k := 4) rfl (nI_add i 6) (by decide) rfl (fun ls3 hl3 => ?_)
        refine lv_goto (tgt := 23) hx hb d12 (by decide) ?_
        refine W.widen (k := 225 + (i + 6)) (n := 8945 + 6 * (i + 6)) hc hs ?_
        exact ih (i + 6) h6 (by omega) g2 σ2 fo2 H2 locs2 ls3 hB2 hP2 hD2 hS2 (lv_sub hl3 [1, 2, 3, 4, 0] rfl)
      refine lv_aload_n hx hb d6 rfl (lv_at hl 0 rfl) ?_
      refine lv_iload hx hb d7 (lv_at hl 4 rfl) ?_
      refine va_sld hx hb hX hbl hbA hS (vp_in_nI (n := i) (by omega) (by omega)) d8 ?_
      refine lv_bipush (v := 63) hx hb d9 (by decide) ?_
      refine lv_iand hx hb d10 ?_
      obtain ⟨z, hz, ez⟩ := la_and (xs (nI i).toNatClampNeg)
      rw [ez]
      rcases Nat.lt_or_ge z 43 with h43 | h43
      · exact la_disp C hfl hrs hty h10 ht3 hE hNc hB h6 ⟨by omega, by omega⟩ hP hD hS hl (nx _ _ (by omega) (by omega)) (nx _ _ (by omega) (by omega)) h43
      · refine lv_tableOut (tgt := 1694) hx hb la_dsw (Or.inr ?_) (by decide) (nx _ _ (by omega) (by omega) g σ fo H locs ls hB hP hD hS hl)
        rw [nI_toInt (by omega)]
        omega
end LA
