/-! ===== the law's start ===== -/
def rsW : List (Nat × Nat) := rsA ++ rsM
theorem rsW_ok : am_rsok rsW = true := by decide +kernel
theorem rsW_cl : ct_cl rsA = true ∧ ct_cl rsM = true ∧ ct_dj rsA rsM = true := by decide +kernel
theorem rsW_in : (0, 0) ∈ rsW ∧ (1, 0) ∈ rsW ∧ (29, 0) ∈ rsW := by decide +kernel
/-- the codes of the class's memory -/
def la_isC (c : Nat) : Bool := decide (c ≤ 28) || (decide (100 ≤ c) && decide (c ≤ 129))
def la_g0 (gM : am_G) : am_G := fun c i => bif la_isC c then ct_g c i else gM c i
def la_rdk (P : Nat → Bool) (c : Nat) : Bool := match am_lay c with
  | some (.inl (_, fs)) => fs.all (fun f => f.1 == 1 || (f.1 == 2 || P f.2.1))
  | some (.inr (.inl _)) => P c
  | _ => true
theorem la_rd_of {P : Nat → Bool} {c k : Nat} (h : la_rdk P c = true) (hr : am_rd c k = true) : P k = true := by
  unfold la_rdk at h
  unfold am_rd at hr
  cases hl : am_lay c with
  | none => rw [hl] at hr; cases hr
  | some y =>
    rw [hl] at h hr
    match y, h, hr with
    | .inl (ci, fs), h, hr =>
      obtain ⟨f, hf, q⟩ := List.any_eq_true.mp hr
      have h1 := List.all_eq_true.mp h f hf
      simp only [Bool.and_eq_true, Bool.not_eq_true', beq_iff_eq] at q
      rw [q.1, q.2.1] at h1
      rw [← q.2.2]
      simpa using h1
    | .inr (.inl n), h, hr =>
      have e : c = k := by simpa using hr
      rw [← e]
      exact h
    | .inr (.inr _), h, hr => cases hr
theorem la_rdA : rsA.all (fun r => la_rdk la_isC r.1) = true := by decide +kernel
theorem la_rdM : rsM.all (fun r => la_rdk (fun k => !la_isC k) r.1) = true := by decide +kernel
/-- both sides' cells as one world -/
theorem la_merge {D : va_G} {A : Nat → Prop} {H : Heap} {k : ct_K3} {adA adM : Nat → Nat → Nat} {gM : am_G} {Z : va_W} (hP : va_P D am_cs ((am_ws rsA adA (ct_ca k) ct_g ++ am_ws rsM adM (ct_ca k) gM) ++ Z) H) (hD : va_D A ((am_ws rsA adA (ct_ca k) ct_g ++ am_ws rsM adM (ct_ca k) gM) ++ Z)) (h4 : ∀ i, gM 110 i 0 = 0) :
    va_P D am_cs (am_ws rsW (ct_gl rsA adA adM) (ct_ca k) (la_g0 gM) ++ Z) H ∧ va_D A (am_ws rsW (ct_gl rsA adA adM) (ct_ca k) (la_g0 gM) ++ Z) := by
  have e0 : ∀ r ∈ rsA, adA r.1 r.2 = ct_gl rsA adA adM r.1 r.2 := fun r hr => (ct_gl_in (List.elem_iff.mpr hr)).symm
  have e1 : ∀ r ∈ rsM, adM r.1 r.2 = ct_gl rsA adA adM r.1 r.2 := fun r hr => (ct_gl_out (ct_dj_of rsW_cl.2.2 hr)).symm
  constructor
  · unfold rsW
    rw [ct_ws_app]
    refine va_P.app (va_P.app (ct_P_to (ct_P_l (ct_P_l hP)) e0 rsW_cl.1 (fun r hr c hc => ?_) ct_g4) (ct_P_to (ct_P_r (ct_P_l hP)) e1 rsW_cl.2.1 (fun r hr c hc => ?_) h4)) (ct_P_r hP)
    · have := la_rd_of (List.all_eq_true.mp la_rdA r hr) hc
      unfold la_g0
      rw [this]
      rfl
    · have := la_rd_of (List.all_eq_true.mp la_rdM r hr) hc
      have this : la_isC c = false := by simpa using this
      unfold la_g0
      rw [this]
      rfl
  · refine ct_D_fst hD ?_
    unfold rsW
    rw [ct_ws_app, List.map_append, List.map_append, List.map_append, List.map_append, ct_ws_fst, ct_ws_fst, ct_ws_fst, ct_ws_fst]
    rw [List.map_congr_left (fun r hr => (e0 r hr).symm), List.map_congr_left (fun r hr => (e1 r hr).symm)]
theorem la_new {gM : am_G} (h : rMo gM a_new) : rBo (la_g0 gM) a_new := by
  refine ⟨new_A (fun c hc => ?_) rfl, h.C (fun c j hc => ?_), ok_new⟩
  · rcases hc with rfl | rfl | rfl | rfl | rfl | rfl | rfl | rfl | rfl | rfl | rfl <;> rfl
  · unfold la_g0
    have e : la_isC c = false := by
      unfold sCm at hc
      unfold la_isC
      simp only [Bool.or_eq_false_iff, Bool.and_eq_false_iff, decide_eq_false_iff_not]
      omega
    rw [e]
    rfl
theorem la_hty (k : ct_K3) (cL : ClassId) : ∀ r ∈ rsW, am_isA r.1 = true → ∃ t0 : Nat, (ct_tys k ++ [(cL, FieldType.long)])[t0]? = some (ct_ca k r.1, am_aty r.1) := by
  intro r _ _
  by_cases h1 : r.1 = 15
  · rw [h1]
    exact ⟨1, rfl⟩
  · by_cases h2 : r.1 = 24
    · rw [h2]
      exact ⟨2, rfl⟩
    · refine ⟨0, ?_⟩
      have a1 : ct_ca k r.1 = k.1 := by
        unfold ct_ca
        rw [beq_eq_false_iff_ne.mpr h1, beq_eq_false_iff_ne.mpr h2]
        rfl
      have a2 : am_aty r.1 = .int := by
        unfold am_aty
        split
        · exact absurd (by assumption) h1
        · exact absurd (by assumption) h2
        · rfl
      rw [a1, a2]
      rfl
theorem la_specA {args : Array Value} {s : State} (h : (Cond.arrayOver (.array .int)).before args s = true) : ∃ (comp c : ClassId) (k : Class), s.vm.findClass "[I" = some comp ∧ s.vm.classes[c]? = some k ∧ k.kind = .array comp (.array .int) ∧ s.vm.findClass "[[I" = some c := by
  have n1 : (FieldType.array FieldType.int).toString = "[I" := by decide
  have n2 : "[" ++ (FieldType.array FieldType.int).toString = "[[I" := by decide
  rw [← n1, ← n2]
  have h : (Cond.arrayOver (.array .int)).holds args s none s [] = true := h
  simp only [Cond.holds, Cond.value, beq_iff_eq] at h
  cases hc : s.vm.findClass (FieldType.array FieldType.int).toString with
  | none => simp [hc] at h
  | some comp =>
    simp only [hc, Option.bind_some, Option.bind_eq_some_iff, Option.map_eq_some_iff] at h
    obtain ⟨c, hi, k, hk, hb⟩ := h
    obtain ⟨hlt, hp, -⟩ := Array.findIdx?_eq_some_iff_getElem.mp hi
    have hkk : s.vm.classes[c] = k := (Array.getElem?_eq_some_iff.mp hk).2
    rw [hkk] at hp
    cases hkind : k.kind with
    | array component ty =>
      rw [hkind] at hb hp
      simp at hb hp
      exact ⟨comp, c, k, rfl, hk, by rw [hkind, hp, hb.1], hb.2⟩
    | _ => rw [hkind] at hb; simp at hb
/-- the classes, as the tables have them -/
theorem la_cls {args : Array Value} {s : State} (hts : ∀ w ∈ lw_tbl, w.before args s = true) : ∃ D : va_G, ∀ (c : Nat) (q : vw_C), am_cs[c]? = some q → u_Kn s q.1 q.2.1 q.2.2 (D.1 c) (D.2 c) := by
  have ht : ∀ w ∈ am_tb, w.before args s = true := fun w hw => hts w (List.mem_filter.mp hw).1
  have h : ∀ c : Nat, ∃ (cC : ClassId) (iS : Nat → Nat), ∀ q : vw_C, am_cs[c]? = some q → u_Kn s q.1 q.2.1 q.2.2 cC iS := by
    intro c
    match c with
    | 0 =>
      obtain ⟨a, b, h⟩ := u_known (C := RX0) (T := TX0) (N := 8) (n := 8) ht (am_cls (ci := 0) rfl).1 (ht _ (am_tb_at (i := 92) (w := .instantiable "TownForest$Forest" 8) (by decide +kernel) rfl))
      exact ⟨a, b, fun q hq => by cases hq; exact h⟩
    | 1 =>
      obtain ⟨a, b, h⟩ := u_known (C := RX1) (T := TX1) (N := 3) (n := 3) ht (am_cls (ci := 1) rfl).1 (ht _ (am_tb_at (i := 316) (w := .instantiable "TownForest$Gamble" 3) (by decide +kernel) rfl))
      exact ⟨a, b, fun q hq => by cases hq; exact h⟩
    | 2 =>
      obtain ⟨a, b, h⟩ := u_known (C := RX2) (T := TX2) (N := 3) (n := 3) ht (am_cls (ci := 2) rfl).1 (ht _ (am_tb_at (i := 231) (w := .instantiable "TownForest$History" 3) (by decide +kernel) rfl))
      exact ⟨a, b, fun q hq => by cases hq; exact h⟩
    | 3 =>
      obtain ⟨a, b, h⟩ := u_known (C := RX3) (T := TX3) (N := 4) (n := 4) ht (am_cls (ci := 3) rfl).1 (ht _ (am_tb_at (i := 142) (w := .instantiable "TownForest$Names" 4) (by decide +kernel) rfl))
      exact ⟨a, b, fun q hq => by cases hq; exact h⟩
    | 4 =>
      obtain ⟨a, b, h⟩ := u_known (C := RX4) (T := TX4) (N := 7) (n := 7) ht (am_cls (ci := 4) rfl).1 (ht _ (am_tb_at (i := 171) (w := .instantiable "TownForest$Reader" 7) (by decide +kernel) rfl))
      exact ⟨a, b, fun q hq => by cases hq; exact h⟩
    | 5 =>
      obtain ⟨a, b, h⟩ := u_known (C := RX5) (T := TX5) (N := 2) (n := 2) ht (am_cls (ci := 5) rfl).1 (ht _ (am_tb_at (i := 251) (w := .instantiable "TownForest$Sight" 2) (by decide +kernel) rfl))
      exact ⟨a, b, fun q hq => by cases hq; exact h⟩
    | 6 =>
      obtain ⟨a, b, h⟩ := u_known (C := RX6) (T := TX6) (N := 7) (n := 7) ht (am_cls (ci := 6) rfl).1 (ht _ (am_tb_at (i := 283) (w := .instantiable "TownForest$Survey" 7) (by decide +kernel) rfl))
      exact ⟨a, b, fun q hq => by cases hq; exact h⟩
    | 7 =>
      obtain ⟨a, b, h⟩ := u_known (C := RX7) (T := TX7) (N := 6) (n := 6) ht (am_cls (ci := 7) rfl).1 (ht _ (am_tb_at (i := 165) (w := .instantiable "TownForest$Teller" 6) (by decide +kernel) rfl))
      exact ⟨a, b, fun q hq => by cases hq; exact h⟩
    | 8 =>
      obtain ⟨a, b, h⟩ := u_known (C := RX8) (T := TX8) (N := 2) (n := 2) ht (am_cls (ci := 8) rfl).1 (ht _ (am_tb_at (i := 266) (w := .instantiable "TownForest$Way" 2) (by decide +kernel) rfl))
      exact ⟨a, b, fun q hq => by cases hq; exact h⟩
    | 9 =>
      obtain ⟨a, b, h⟩ := u_known (C := RX9) (T := TX9) (N := 12) (n := 12) ht (am_cls (ci := 9) rfl).1 (ht _ (am_tb_at (i := 84) (w := .instantiable "TownForest" 12) (by decide +kernel) rfl))
      exact ⟨a, b, fun q hq => by cases hq; exact h⟩
    | 10 =>
      obtain ⟨a, b, h⟩ := u_known (C := RX10) (T := TX10) (N := 26) (n := 26) ht (am_cls (ci := 10) rfl).1 (ht _ (am_tb_at (i := 1044) (w := .instantiable "TownForestModel" 26) (by decide +kernel) rfl))
      exact ⟨a, b, fun q hq => by cases hq; exact h⟩
    | _ + 11 => exact ⟨0, fun _ => 0, fun q hq => by simp [am_cs] at hq⟩
  exact ⟨(fun c => Classical.choose (h c), fun c => Classical.choose (Classical.choose_spec (h c))), fun c q hq => Classical.choose_spec (Classical.choose_spec (h c)) q hq⟩
theorem la_arrs {D : va_G} {args : Array Value} {s : State} (hts : ∀ w ∈ lw_tbl, w.before args s = true) (hD : ∀ (c : Nat) (q : vw_C), am_cs[c]? = some q → u_Kn s q.1 q.2.1 q.2.2 (D.1 c) (D.2 c)) : ∃ k : ct_K3, va_K D am_cs (ct_tys k) s ∧ ct_Ex k s := by
  have w1 : (Cond.arrayClass .int).before args s = true := hts _ (List.mem_of_getElem? (i := 140) (by decide +kernel))
  have w2 : (Cond.arrayOver (.object "TownForest$Forest")).before args s = true := hts _ (List.mem_of_getElem? (i := 237) (by decide +kernel))
  have w3 : (Cond.arrayOver (.array .int)).before args s = true := hts _ (List.mem_of_getElem? (i := 289) (by decide +kernel))
  obtain ⟨cI, kI, cz, a1, a2, a3⟩ := Cond.arrayClass_spec w1
  obtain ⟨cf, cF, kF, b1, b2, b3, b4, b5⟩ := Cond.arrayOver_spec w2
  obtain ⟨cI', cII, kII, c1, c2, c3, c4⟩ := la_specA w3
  have n0 : "[" ++ FieldType.int.toString = "[I" := by decide
  have n2 : "[" ++ (FieldType.array FieldType.int).toString = "[[I" := by decide
  have e1 : cI' = cI := by
    rw [← n0] at c1
    exact Option.some.inj (c1.symm.trans a1)
  subst e1
  refine ⟨(cI', cF, cII), ⟨hD, fun t q hq => ?_⟩, va_AO.of w2, ⟨kII, kI, cz, c2, c3, c4, a2, a3⟩, fun a i x h hm => va_Nw.of rfl (hts _ hm)⟩
  match t, hq with
  | 0, hq => cases hq; exact ⟨fun n z => ⟨fun k h => (by cases h), kI, a2, cz, a3⟩, a1⟩
  | 1, hq => cases hq; exact ⟨fun n z => ⟨fun k h => (by cases h), kF, b3, cf, b4⟩, kF, cf, b3, b4, b1, b5⟩
  | 2, hq => cases hq; exact ⟨fun n z => ⟨fun k h => (by cases h), kII, c2, cI', c3⟩, by show s.vm.findClass _ = some cII; rw [n2]; exact c4⟩
  | _ + 3, hq => simp [ct_tys] at hq
theorem la_tex {args : Array Value} {s : State} (hts : ∀ w ∈ lw_tbl, w.before args s = true) (hgv : (Jvm.Cond.and given_1 narrow_1).before args s = true) : tw_Ex (fun q => s.heap.size ≤ q) s ∧ va_Nc tx_N tx_I s := by
  have hs := flat_of_before _ hgv
  have g1 : (Cond.exactly (.string "TownForest" 212) "java/lang/String").before args s = true := hs _ (by decide +kernel)
  have g2 : (Cond.exactly (.string "TownForest" 219) "java/lang/String").before args s = true := hs _ (by decide +kernel)
  have g3 : (Cond.isRef (.static Bundle.tN "UNASSIGNED_STACK" Bundle.steD)).before args s = true := hs _ (by decide +kernel)
  have g4 : (Cond.isRef (.static Bundle.tN "SUPPRESSED_SENTINEL" Bundle.listD)).before args s = true := hs _ (by decide +kernel)
  have g5 : (Cond.not (.castable tx_N tx_I)).before args s = true := hs _ (by decide +kernel)
  obtain ⟨a1, -, -, -, e1, -⟩ := Cond.exactly_spec g1
  obtain ⟨a2, -, -, -, e2, -⟩ := Cond.exactly_spec g2
  have hini : (Cond.initialized Bundle.tN).before args s = true := hts _ (List.mem_of_getElem? (i := 78) (by decide +kernel))
  have hA : ∀ a : Nat, a < s.heap.size → ¬ (fun q => s.heap.size ≤ q) a := fun a h q => Nat.not_le.mpr h q
  refine ⟨⟨fun w hw => va_Nw.of (List.all_eq_true.mp tx_ngot w hw) (hts w (of_decide_eq_true (List.all_eq_true.mp tx_ngin w hw))), ⟨a1, vk_R.of (hts _ (List.mem_of_getElem? (i := 984) (by decide +kernel))) e1⟩, ⟨a2, vk_R.of (hts _ (List.mem_of_getElem? (i := 1020) (by decide +kernel))) e2⟩, vx_Zqof (hts _ (List.mem_of_getElem? (i := 971) (by decide +kernel))) hini g3 hA, vx_Zqof (hts _ (List.mem_of_getElem? (i := 973) (by decide +kernel))) hini g4 hA⟩, va_Nc.of g5⟩
