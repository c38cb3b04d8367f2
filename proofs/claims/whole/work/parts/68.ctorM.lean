/-! ===== the model's constructor (by wip/whole/src/gen68.py) ===== -/
def rsM : List (Nat × Nat) := [(29, 0), (30, 0), (31, 0), (32, 0), (33, 0), (34, 0), (35, 0)]
def cm_rm : Room := { frames := 9, cells := 6, slots := 3694, locals := 342 }
def cm_f : Nat → Int32 := (upd (upd (upd (upd (upd (upd (upd (upd (upd (upd (upd (upd (upd (upd (upd (upd (upd (upd (upd (upd (upd (upd (upd (upd (upd (upd (upd (upd (upd (upd (upd (upd (upd (fun _ => 0) 0 116) 1 111) 2 119) 3 110) 4 32) 5 108) 6 105) 7 110) 8 107) 9 32) 10 114) 11 111) 12 111) 13 116) 14 32) 15 116) 16 111) 17 117) 18 99) 19 104) 20 32) 21 115) 22 101) 23 116) 24 116) 25 108) 26 101) 27 32) 28 115) 29 101) 30 101) 31 100) 32 32)
def cm_g : am_G := fun c _ => bif c == 31 then cm_f else fun _ => bif c == 133 then -1 else 0
theorem cm_kw : ∀ (k : Nat) (x : Int32), kwl[k]? = some x → cm_f k = x := by
  have h : (List.range 33).all (fun k => decide (kwl[k]? = some (cm_f k))) = true := by decide +kernel
  intro k x hk
  have hl : k < 33 := (List.getElem?_eq_some_iff.mp hk).1
  have h1 := of_decide_eq_true (List.all_eq_true.mp h k (List.mem_range.mpr hl))
  exact Option.some.inj (h1.symm.trans hk)
theorem cm_pure : ∃ g1 g2, am_call 8 153 [.inr (.inr (29, 0))] cm_g = some (none, g1) ∧ am_call 8 154 [.inr (.inr (29, 0))] g1 = some (none, g2) ∧ rMo g2 a_new ∧ ∀ i, g2 110 i 0 = 0 := by
  have h1 : am_call 8 153 [.inr (.inr (29, 0))] cm_g = some (none, am_put (am_put (am_put cm_g 144 0 0) 145 0 0) 146 0 0) := by
    rw [cM_plain 7, eM_plain_0]
  generalize hG : am_put (am_put (am_put cm_g 144 0 0) 145 0 0) 146 0 0 = G at h1
  have z : ∀ c, c ≠ 144 → c ≠ 145 → c ≠ 146 → G c 0 = cm_g c 0 := fun c a1 a2 a3 => by rw [← hG, m_put_ne (by omega), m_put_ne (by omega), m_put_ne (by omega)]
  have e144 : G 144 0 0 = 0 := by rw [← hG, m_put_ne (by omega), m_put_ne (by omega), m_put]
  have e145 : G 145 0 0 = 0 := by rw [← hG, m_put_ne (by omega), m_put]
  obtain ⟨g2, a1, a2, a3⟩ := M_keepText (g := G) (s := tS0) 0 (S := 0) tS0_ok ⟨by rw [z _ (by omega) (by omega) (by omega)]; rfl, fun t ht => absurd ht (Nat.not_lt_zero _)⟩ (by rw [z _ (by omega) (by omega) (by omega), nI_0]; rfl) (by rw [e144]; exact nI_0.symm) (fun k x hk => by have hk : ([] : List Int32)[k]? = some x := hk; simp at hk) e145 (by rw [z _ (by omega) (by omega) (by omega)]; rfl) (by rw [z _ (by omega) (by omega) (by omega)]; rfl) (by rw [z _ (by omega) (by omega) (by omega)]; rfl) (fun k x hk => by rw [z _ (by omega) (by omega) (by omega)]; exact cm_kw k x hk)
  refine ⟨G, g2, h1, a1, a2, fun i => ?_⟩
  rw [a3 110 i (fun q => by unfold sMd at q; omega), ← hG, m_put_ne (by omega), m_put_ne (by omega), m_put_ne (by omega)]
  rfl
def cm_Qc (D : va_G) (k : ct_K3) (h0 sz : Nat) (e : va_E) : Array Value → State → Outcome → State → Prop :=
  va_Qv (fun u : (Nat → Nat → Nat) × am_G => u.1 29 0 = h0 ∧ rMo u.2 a_new ∧ ∀ i, u.2 110 i 0 = 0) (fun u t => va_P D am_cs (am_ws rsM u.1 (ct_ca k) u.2) t.heap ∧ va_D (va_A [(h0, e)] sz) (am_ws rsM u.1 (ct_ca k) u.2)) (va_A [(h0, e)] sz)
section CM
variable {p : Program} {l : Launch} {e : Env} {R : Room} {s : State} {m : MethodId} {args : Array Value} {below : List Frame} {meth : Method} {c : Code} {Q : State → Prop} {ls : Array Slot} {D : va_G} {k : ct_K3} {A : Nat → Prop} {cc : ByteArray} {nL : Nat} {own : String} {h0 qw cn sn : Nat} {e0 : va_E} {y1 : Nat × va_E}
def cm_W (p : Program) (l : Launch) (e : Env) (R : Room) (s : State) (m : MethodId) (args : Array Value) (below : List Frame) (meth : Method) (c : Code) (Q : State → Prop) (ls : Array Slot) (D : va_G) (k : ct_K3) (A : Nat → Prop) (h0 qw cn sn : Nat) (e0 : va_E) (y1 : Nat × va_E) (pc : Nat) (f : Nat → Int32) : Prop :=
  ∀ (H : Heap) (locs : List Loc), va_P D am_cs [(h0, e0), y1, (qw, .inl (k.1, 33, .inl f))] H → va_D A [(h0, e0), y1, (qw, .inl (k.1, 33, .inl f))] → va_S A s.heap H locs → W p l e R s m args below meth c H locs cn sn Q (F0 m pc ls [.ref qw, .ref h0])
theorem cm_st (C : ct_Cx p R s m args meth c cc nL own ls h0 D k A) {pc ln i : Nat} {v : Int32} {w : Int} {f : Nat → Int32} (d0 : decode cc pc = .ok (.dup, 1)) (hpush : ∀ (H : Heap) (locs : List Loc), W p l e R s m args below meth c H locs cn sn Q (F0 m (pc + 1 + ln) ls [.int (nI i), .ref qw, .ref qw, .ref h0]) → W p l e R s m args below meth c H locs cn sn Q (F0 m (pc + 1) ls [.ref qw, .ref qw, .ref h0]))
    (d2 : decode cc (pc + 1 + ln) = .ok (.bipush w, 2)) (hw : (Int8.ofInt w).toInt32 = v) (d3 : decode cc (pc + 1 + ln + 2) = .ok (.iastore, 1)) (hi : i < 33) (kk : cm_W p l e R s m args below meth c Q ls D k A h0 qw cn sn e0 y1 (pc + 1 + ln + 3) (upd f i v)) : cm_W p l e R s m args below meth c Q ls D k A h0 qw cn sn e0 y1 pc f := by
  obtain ⟨⟨hx, hb, hml, hown, hts⟩, hin, hl0, hK, hE, hA⟩ := id C
  intro H locs hP hD hS
  refine lv_dup hx hb d0 rfl ?_
  refine hpush H locs ?_
  refine lv_bipush (n := w) (v := v) hx hb d2 hw ?_
  refine va_iast (D := D) hx hb hK hP hD hS 2 0 (cA := k.1) (n := 33) rfl rfl (vp_in_nI hi (by omega)) d3 (fun H1 locs1 hP1 hD1 hS1 => ?_)
  rw [nI_clamp (by omega)] at hP1 hD1
  exact kk H1 locs1 hP1 hD1 hS1
end CM
theorem cm_ty (k : ct_K3) : ∀ r ∈ rsM, am_isA r.1 = true → ∃ t0 : Nat, (ct_tys k)[t0]? = some (ct_ca k r.1, am_aty r.1) := by
  intro r hr _
  have h : r = (29, 0) ∨ r = (30, 0) ∨ r = (31, 0) ∨ r = (32, 0) ∨ r = (33, 0) ∨ r = (34, 0) ∨ r = (35, 0) := by simpa [rsM] using hr
  rcases h with rfl | rfl | rfl | rfl | rfl | rfl | rfl <;> exact ⟨0, rfl⟩
set_option maxRecDepth 100000 in
set_option maxHeartbeats 4000000 in
theorem ct_M (l : Launch) (D : va_G) (k : ct_K3) (h0 sz : Nat) : Met l ⟨"TownForestModel", "<init>", "()V"⟩ (Cond.code ⟨"TownForestModel", "<init>", "()V"⟩ prog_12_method_1_code 1 none :: am_tb) cm_rm (ct_Pc D k h0 sz (.inr (10, ct_raw 10 26))) (cm_Qc D k h0 sz (.inr (10, ct_raw 10 26))) 6 3694 (va_A [(h0, .inr (10, ct_raw 10 26))] sz) := by
  refine Met.ofW (cc := prog_12_method_1_code) (maxL := 1) (ret := none) (by decide) rfl ?_
  intro p e s m args below meth c s₁ B hml hv
  obtain ⟨rfl, hsz, hP, hK, hE⟩ := hv
  have hts := atoms_spec (ws := Cond.code ⟨"TownForestModel", "<init>", "()V"⟩ prog_12_method_1_code 1 none :: am_tb) B.pre
  have hown : s.vm.findClass "TownForestModel" = some m.cls := findClass_of_methodNamed B.named
  have hin : meth.name = "<init>" := (name_of_methodNamed B.named B.method).1
  subst hsz
  have hl := lv_entry ([.ref h0]) (n := 1) (Nat.le_of_ble_eq_true rfl)
  rw [lg_entry_eq]
  generalize (lg_sl ([.ref h0]) ++ List.replicate (1 - (lg_sl ([.ref h0])).length) Slot.unset).toArray = ls at hl ⊢
  have hl : lv_has ls 1 [(0, .ref h0)] := hl
  have hx := B.exec
  have hb := B.bytes
  have hr := B.returns
  have hnl := B.notSynchronized
  obtain ⟨A, hAe⟩ : ∃ A, A = va_A [(h0, (.inr (10, ct_raw 10 26) : va_E))] s.heap.size := ⟨_, rfl⟩
  have fx : CallFix p m c prog_12_method_1_code 1 s #[.ref h0] am_tb "TownForestModel" := ⟨hx, hb, hml, hown, fun w hw => hts w (List.mem_cons_of_mem _ hw)⟩
  have C : ct_Cx p cm_rm s m #[.ref h0] meth c prog_12_method_1_code 1 "TownForestModel" ls h0 D k A := ⟨fx, hin, hl, hK, hE, fun q h => by rw [hAe]; exact Or.inr h⟩
  have hD0 : va_D A [(h0, (.inr (10, ct_raw 10 26) : va_E))] := by rw [hAe]; exact ct_D1
  rw [← hAe]
  show W p l e cm_rm s m #[.ref h0] below meth c s.heap [] 0 0 (MQ below (cm_Qc D k h0 s.heap.size (.inr (10, ct_raw 10 26))) #[.ref h0] s 6 3694 A) (F0 m 0 ls [])
  generalize hQ : MQ below (cm_Qc D k h0 s.heap.size (.inr (10, ct_raw 10 26))) #[.ref h0] s 6 3694 A = Q
  revert hP hD0
  suffices hh : ct_W p l e cm_rm s m #[.ref h0] below meth c Q ls D A 0 [(h0, .inr (10, ct_raw 10 26))] 0 0 from fun hP hD0 => hh s.heap [] hP hD0 va_S.rf
  refine ct_super C (pc := 0) (idx := 1) (pl := 1048) (by decide +kernel) (by decide +kernel) (by decide +kernel) ⟨Nat.le_of_ble_eq_true rfl, Nat.le_of_ble_eq_true rfl⟩ ?_
  refine ct_arr C (pc := 4) (ln := 3) (n := 700) (N' := 700) (idx := 7) (pl := 1065) (f := 0) (ci := 10) (Cn := RX10) (T := TX10) (N := 26) (by decide +kernel) (fun H locs w => lv_sipush (n := 700) hx hb (by decide +kernel) (by decide) w) (by decide +kernel) (by decide +kernel) (by decide) (by decide) (Nat.le_of_ble_eq_true rfl) (Nat.le_of_ble_eq_true rfl) (Nat.le_of_ble_eq_true rfl) rfl (Nat.le_of_ble_eq_true rfl) (by decide +kernel) (Or.inr ⟨rfl, rfl⟩) rfl (Nat.le_of_ble_eq_true rfl) (fun q1 => ?_)
  intro H locs hP hD hS
  refine lv_aload_n hx hb (k := 0) (by decide +kernel) rfl (lv_at hl 0 rfl) ?_
  refine lv_bipush (n := 33) (v := 33) hx hb (by decide +kernel) (by decide) ?_
  refine va_newa (atype := .int) (ty := .int) (N' := 33) (a0 := (33, .inl (fun _ => 0))) hx hb (fx.2.2.2.2 _ (am_tb_at ct_o.2.2 rfl)) rfl hK hP hD hS C.2.2.2.2.2 (fun cA => rfl) (by decide) (by decide) (Nat.le_of_ble_eq_true rfl) (Nat.le_of_ble_eq_true rfl) (Nat.le_of_ble_eq_true rfl) (by decide +kernel) (fun qw cA H1 hK1 hP1 hD1 hS1 => ?_)
  have e1 : cA = k.1 := ct_cI (t0 := 0) hK1 rfl
  subst e1
  refine (show cm_W p l e cm_rm s m #[.ref h0] below meth c Q ls D k A h0 qw 2 733 (.inr (10, (ct_raw 10 26).set 0 (.ref q1))) (q1, .inl (k.1, 700, .inl (fun _ => 0))) 18 (fun _ => 0) from ?_) H1 _ hP1 hD1 hS1
  refine cm_st C (pc := 18) (ln := 1) (i := 0) (v := 116) (w := 116) (by decide +kernel) (fun H locs w => lv_iconst (n := 0) hx hb (by decide +kernel) (by decide) w) (by decide +kernel) (by decide) (by decide +kernel) (by decide) ?_
  refine cm_st C (pc := 23) (ln := 1) (i := 1) (v := 111) (w := 111) (by decide +kernel) (fun H locs w => lv_iconst (n := 1) hx hb (by decide +kernel) (by decide) w) (by decide +kernel) (by decide) (by decide +kernel) (by decide) ?_
  refine cm_st C (pc := 28) (ln := 1) (i := 2) (v := 119) (w := 119) (by decide +kernel) (fun H locs w => lv_iconst (n := 2) hx hb (by decide +kernel) (by decide) w) (by decide +kernel) (by decide) (by decide +kernel) (by decide) ?_
  refine cm_st C (pc := 33) (ln := 1) (i := 3) (v := 110) (w := 110) (by decide +kernel) (fun H locs w => lv_iconst (n := 3) hx hb (by decide +kernel) (by decide) w) (by decide +kernel) (by decide) (by decide +kernel) (by decide) ?_
  refine cm_st C (pc := 38) (ln := 1) (i := 4) (v := 32) (w := 32) (by decide +kernel) (fun H locs w => lv_iconst (n := 4) hx hb (by decide +kernel) (by decide) w) (by decide +kernel) (by decide) (by decide +kernel) (by decide) ?_
  refine cm_st C (pc := 43) (ln := 1) (i := 5) (v := 108) (w := 108) (by decide +kernel) (fun H locs w => lv_iconst (n := 5) hx hb (by decide +kernel) (by decide) w) (by decide +kernel) (by decide) (by decide +kernel) (by decide) ?_
  refine cm_st C (pc := 48) (ln := 2) (i := 6) (v := 105) (w := 105) (by decide +kernel) (fun H locs w => lv_bipush (n := 6) hx hb (by decide +kernel) (by decide) w) (by decide +kernel) (by decide) (by decide +kernel) (by decide) ?_
  refine cm_st C (pc := 54) (ln := 2) (i := 7) (v := 110) (w := 110) (by decide +kernel) (fun H locs w => lv_bipush (n := 7) hx hb (by decide +kernel) (by decide) w) (by decide +kernel) (by decide) (by decide +kernel) (by decide) ?_
  refine cm_st C (pc := 60) (ln := 2) (i := 8) (v := 107) (w := 107) (by decide +kernel) (fun H locs w => lv_bipush (n := 8) hx hb (by decide +kernel) (by decide) w) (by decide +kernel) (by decide) (by decide +kernel) (by decide) ?_
  refine cm_st C (pc := 66) (ln := 2) (i := 9) (v := 32) (w := 32) (by decide +kernel) (fun H locs w => lv_bipush (n := 9) hx hb (by decide +kernel) (by decide) w) (by decide +kernel) (by decide) (by decide +kernel) (by decide) ?_
  refine cm_st C (pc := 72) (ln := 2) (i := 10) (v := 114) (w := 114) (by decide +kernel) (fun H locs w => lv_bipush (n := 10) hx hb (by decide +kernel) (by decide) w) (by decide +kernel) (by decide) (by decide +kernel) (by decide) ?_
  refine cm_st C (pc := 78) (ln := 2) (i := 11) (v := 111) (w := 111) (by decide +kernel) (fun H locs w => lv_bipush (n := 11) hx hb (by decide +kernel) (by decide) w) (by decide +kernel) (by decide) (by decide +kernel) (by decide) ?_
  refine cm_st C (pc := 84) (ln := 2) (i := 12) (v := 111) (w := 111) (by decide +kernel) (fun H locs w => lv_bipush (n := 12) hx hb (by decide +kernel) (by decide) w) (by decide +kernel) (by decide) (by decide +kernel) (by decide) ?_
  refine cm_st C (pc := 90) (ln := 2) (i := 13) (v := 116) (w := 116) (by decide +kernel) (fun H locs w => lv_bipush (n := 13) hx hb (by decide +kernel) (by decide) w) (by decide +kernel) (by decide) (by decide +kernel) (by decide) ?_
  refine cm_st C (pc := 96) (ln := 2) (i := 14) (v := 32) (w := 32) (by decide +kernel) (fun H locs w => lv_bipush (n := 14) hx hb (by decide +kernel) (by decide) w) (by decide +kernel) (by decide) (by decide +kernel) (by decide) ?_
  refine cm_st C (pc := 102) (ln := 2) (i := 15) (v := 116) (w := 116) (by decide +kernel) (fun H locs w => lv_bipush (n := 15) hx hb (by decide +kernel) (by decide) w) (by decide +kernel) (by decide) (by decide +kernel) (by decide) ?_
  refine cm_st C (pc := 108) (ln := 2) (i := 16) (v := 111) (w := 111) (by decide +kernel) (fun H locs w => lv_bipush (n := 16) hx hb (by decide +kernel) (by decide) w) (by decide +kernel) (by decide) (by decide +kernel) (by decide) ?_
  refine cm_st C (pc := 114) (ln := 2) (i := 17) (v := 117) (w := 117) (by decide +kernel) (fun H locs w => lv_bipush (n := 17) hx hb (by decide +kernel) (by decide) w) (by decide +kernel) (by decide) (by decide +kernel) (by decide) ?_
  refine cm_st C (pc := 120) (ln := 2) (i := 18) (v := 99) (w := 99) (by decide +kernel) (fun H locs w => lv_bipush (n := 18) hx hb (by decide +kernel) (by decide) w) (by decide +kernel) (by decide) (by decide +kernel) (by decide) ?_
  refine cm_st C (pc := 126) (ln := 2) (i := 19) (v := 104) (w := 104) (by decide +kernel) (fun H locs w => lv_bipush (n := 19) hx hb (by decide +kernel) (by decide) w) (by decide +kernel) (by decide) (by decide +kernel) (by decide) ?_
  refine cm_st C (pc := 132) (ln := 2) (i := 20) (v := 32) (w := 32) (by decide +kernel) (fun H locs w => lv_bipush (n := 20) hx hb (by decide +kernel) (by decide) w) (by decide +kernel) (by decide) (by decide +kernel) (by decide) ?_
  refine cm_st C (pc := 138) (ln := 2) (i := 21) (v := 115) (w := 115) (by decide +kernel) (fun H locs w => lv_bipush (n := 21) hx hb (by decide +kernel) (by decide) w) (by decide +kernel) (by decide) (by decide +kernel) (by decide) ?_
  refine cm_st C (pc := 144) (ln := 2) (i := 22) (v := 101) (w := 101) (by decide +kernel) (fun H locs w => lv_bipush (n := 22) hx hb (by decide +kernel) (by decide) w) (by decide +kernel) (by decide) (by decide +kernel) (by decide) ?_
  refine cm_st C (pc := 150) (ln := 2) (i := 23) (v := 116) (w := 116) (by decide +kernel) (fun H locs w => lv_bipush (n := 23) hx hb (by decide +kernel) (by decide) w) (by decide +kernel) (by decide) (by decide +kernel) (by decide) ?_
  refine cm_st C (pc := 156) (ln := 2) (i := 24) (v := 116) (w := 116) (by decide +kernel) (fun H locs w => lv_bipush (n := 24) hx hb (by decide +kernel) (by decide) w) (by decide +kernel) (by decide) (by decide +kernel) (by decide) ?_
  refine cm_st C (pc := 162) (ln := 2) (i := 25) (v := 108) (w := 108) (by decide +kernel) (fun H locs w => lv_bipush (n := 25) hx hb (by decide +kernel) (by decide) w) (by decide +kernel) (by decide) (by decide +kernel) (by decide) ?_
  refine cm_st C (pc := 168) (ln := 2) (i := 26) (v := 101) (w := 101) (by decide +kernel) (fun H locs w => lv_bipush (n := 26) hx hb (by decide +kernel) (by decide) w) (by decide +kernel) (by decide) (by decide +kernel) (by decide) ?_
  refine cm_st C (pc := 174) (ln := 2) (i := 27) (v := 32) (w := 32) (by decide +kernel) (fun H locs w => lv_bipush (n := 27) hx hb (by decide +kernel) (by decide) w) (by decide +kernel) (by decide) (by decide +kernel) (by decide) ?_
  refine cm_st C (pc := 180) (ln := 2) (i := 28) (v := 115) (w := 115) (by decide +kernel) (fun H locs w => lv_bipush (n := 28) hx hb (by decide +kernel) (by decide) w) (by decide +kernel) (by decide) (by decide +kernel) (by decide) ?_
  refine cm_st C (pc := 186) (ln := 2) (i := 29) (v := 101) (w := 101) (by decide +kernel) (fun H locs w => lv_bipush (n := 29) hx hb (by decide +kernel) (by decide) w) (by decide +kernel) (by decide) (by decide +kernel) (by decide) ?_
  refine cm_st C (pc := 192) (ln := 2) (i := 30) (v := 101) (w := 101) (by decide +kernel) (fun H locs w => lv_bipush (n := 30) hx hb (by decide +kernel) (by decide) w) (by decide +kernel) (by decide) (by decide +kernel) (by decide) ?_
  refine cm_st C (pc := 198) (ln := 2) (i := 31) (v := 100) (w := 100) (by decide +kernel) (fun H locs w => lv_bipush (n := 31) hx hb (by decide +kernel) (by decide) w) (by decide +kernel) (by decide) (by decide +kernel) (by decide) ?_
  refine cm_st C (pc := 204) (ln := 2) (i := 32) (v := 32) (w := 32) (by decide +kernel) (fun H locs w => lv_bipush (n := 32) hx hb (by decide +kernel) (by decide) w) (by decide +kernel) (by decide) (by decide +kernel) (by decide) ?_
  intro H locs hP hD hS
  refine ct_put (pc := 210) (idx := 13) (pl := 1068) (f := 3) (ci := 10) (Cn := RX10) (T := TX10) (N := 26) C hP hD hS rfl (Nat.le_of_ble_eq_true rfl) (by decide +kernel) (Or.inr ⟨rfl, rfl⟩) rfl rfl (Nat.le_of_ble_eq_true rfl) (by decide +kernel) ?_
  refine ct_int C (pc := 213) (idx := 16) (pl := 1070) (f := 5) (ci := 10) (n := (-1)) (v := (-1)) (Cn := RX10) (T := TX10) (N := 26) (by decide +kernel) (by decide +kernel) (by decide) (by decide +kernel) rfl (Nat.le_of_ble_eq_true rfl) (by decide +kernel) rfl rfl rfl (Nat.le_of_ble_eq_true rfl) ?_
  refine ct_arr C (pc := 218) (ln := 3) (n := 2904) (N' := 2904) (idx := 20) (pl := 1076) (f := 11) (ci := 10) (Cn := RX10) (T := TX10) (N := 26) (by decide +kernel) (fun H locs w => lv_sipush (n := 2904) hx hb (by decide +kernel) (by decide) w) (by decide +kernel) (by decide +kernel) (by decide) (by decide) (Nat.le_of_ble_eq_true rfl) (Nat.le_of_ble_eq_true rfl) (Nat.le_of_ble_eq_true rfl) rfl (Nat.le_of_ble_eq_true rfl) (by decide +kernel) (Or.inr ⟨rfl, rfl⟩) rfl (Nat.le_of_ble_eq_true rfl) (fun q3 => ?_)
  refine ct_arr C (pc := 227) (ln := 2) (n := 24) (N' := 24) (idx := 23) (pl := 1082) (f := 17) (ci := 10) (Cn := RX10) (T := TX10) (N := 26) (by decide +kernel) (fun H locs w => lv_bipush (n := 24) hx hb (by decide +kernel) (by decide) w) (by decide +kernel) (by decide +kernel) (by decide) (by decide) (Nat.le_of_ble_eq_true rfl) (Nat.le_of_ble_eq_true rfl) (Nat.le_of_ble_eq_true rfl) rfl (Nat.le_of_ble_eq_true rfl) (by decide +kernel) (Or.inr ⟨rfl, rfl⟩) rfl (Nat.le_of_ble_eq_true rfl) (fun q4 => ?_)
  refine ct_arr C (pc := 235) (ln := 2) (n := 24) (N' := 24) (idx := 26) (pl := 1083) (f := 18) (ci := 10) (Cn := RX10) (T := TX10) (N := 26) (by decide +kernel) (fun H locs w => lv_bipush (n := 24) hx hb (by decide +kernel) (by decide) w) (by decide +kernel) (by decide +kernel) (by decide) (by decide) (Nat.le_of_ble_eq_true rfl) (Nat.le_of_ble_eq_true rfl) (Nat.le_of_ble_eq_true rfl) rfl (Nat.le_of_ble_eq_true rfl) (by decide +kernel) (Or.inr ⟨rfl, rfl⟩) rfl (Nat.le_of_ble_eq_true rfl) (fun q5 => ?_)
  refine ct_arr C (pc := 243) (ln := 2) (n := 9) (N' := 9) (idx := 29) (pl := 1088) (f := 23) (ci := 10) (Cn := RX10) (T := TX10) (N := 26) (by decide +kernel) (fun H locs w => lv_bipush (n := 9) hx hb (by decide +kernel) (by decide) w) (by decide +kernel) (by decide +kernel) (by decide) (by decide) (Nat.le_of_ble_eq_true rfl) (Nat.le_of_ble_eq_true rfl) (Nat.le_of_ble_eq_true rfl) rfl (Nat.le_of_ble_eq_true rfl) (by decide +kernel) (Or.inr ⟨rfl, rfl⟩) rfl (Nat.le_of_ble_eq_true rfl) (fun q6 => ?_)
  intro H locs hP hD hS
  have hP : va_P D am_cs (am_ws rsM (fun c _ => match c with | 29 => h0 | 30 => q1 | 31 => qw | 32 => q3 | 33 => q4 | 34 => q5 | 35 => q6 | _ => 0) (ct_ca k) cm_g) H := hP
  have hD : va_D A (am_ws rsM (fun c _ => match c with | 29 => h0 | 30 => q1 | 31 => qw | 32 => q3 | 33 => q4 | 34 => q5 | 35 => q6 | _ => 0) (ct_ca k) cm_g) := hD
  have ha : (fun c _ => match c with | 29 => h0 | 30 => q1 | 31 => qw | 32 => q3 | 33 => q4 | 34 => q5 | 35 => q6 | _ => 0 : Nat → Nat → Nat) 29 0 = h0 := rfl
  generalize (fun c _ => match c with | 29 => h0 | 30 => q1 | 31 => qw | 32 => q3 | 33 => q4 | 34 => q5 | 35 => q6 | _ => 0 : Nat → Nat → Nat) = ad at hP hD ha
  obtain ⟨g1, g2, k1, k2, k3, k4⟩ := cm_pure
  have hct : am_Ct l D rsM ad (ct_ca k) (ct_tys k) A 8 (am_call 8) := am_met l (by decide +kernel) (cm_ty k) 8
  refine lv_aload_n hx hb (k := 0) (by decide +kernel) rfl (lv_at hl 0 rfl) ?_
  refine W.eq (g2 := F0 m 252 ls [.ref (ad 29 0)]) (by rw [ha]) ?_
  refine la_call (b := 252) (idx := 32) (mi := 153) (n := 0) (rt := 0) (ci := 10) (pl := 1049) (c0 := 29) (i0 := 0) (as := []) (rest := []) (d := 8) (A0 := A) (cells := 6) (slots := 3694) (R := cm_rm) fx hK hE.2.2 ⟨(Nat.le_of_ble_eq_true rfl), (Nat.le_of_ble_eq_true rfl)⟩ ⟨(Nat.le_of_ble_eq_true rfl), (Nat.le_of_ble_eq_true rfl)⟩ hct (by decide +kernel) (by decide +kernel) k1 rfl (fun v hv => by cases hv) (by decide) ⟨_, rfl⟩ hP hD hS (fun _ h => h) hl.1 (Nat.le_of_ble_eq_true rfl) (fun H1 locs1 hP1 hD1 hS1 _ _ => ?_)
  refine lv_aload_n hx hb (k := 0) (by decide +kernel) rfl (lv_at hl 0 rfl) ?_
  refine W.eq (g2 := F0 m 256 ls [.ref (ad 29 0)]) (by rw [ha]; rfl) ?_
  refine la_call (b := 256) (idx := 35) (mi := 154) (n := 0) (rt := 0) (ci := 10) (pl := 1053) (c0 := 29) (i0 := 0) (as := []) (rest := []) (d := 8) (A0 := A) (cells := 6) (slots := 3694) (R := cm_rm) fx hK hE.2.2 ⟨(Nat.le_of_ble_eq_true rfl), (Nat.le_of_ble_eq_true rfl)⟩ ⟨(Nat.le_of_ble_eq_true rfl), (Nat.le_of_ble_eq_true rfl)⟩ hct (by decide +kernel) (by decide +kernel) k2 rfl (fun v hv => by cases hv) (by decide) ⟨_, rfl⟩ hP1 hD1 hS1 (fun _ h => h) hl.1 (Nat.le_of_ble_eq_true rfl) (fun H2 locs2 hP2 hD2 hS2 _ _ => ?_)
  rw [← hQ]
  refine W.vret hx hb hr (fun t ht hW => ⟨⟨(ad, g2), rfl, ⟨ha, k3, k4⟩, by rw [ht]; exact hP2, by rw [← hAe]; exact hD2⟩, by rw [← hAe]; exact hS2.F ht⟩) hS2.2.2 (by decide +kernel)
