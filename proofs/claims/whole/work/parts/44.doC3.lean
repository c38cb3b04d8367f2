/-! ===== TownForest: exchange, the tape, the text ===== -/
section AA
variable {g : am_G} {σ : aS}
/-- where two towns are cut apart at the dearest of their way, they hang together no more -/
theorem sx_go {n : Nat} {par : Nat → Option Nat} (h : f_ok n par) (hn : n ≤ 24) {t : Nat} (ht : t < n) {x : Nat} (hx : x ∈ f_a par t) : ∃ pre, f_a par t = pre ++ f_a par x ∧ ∀ z ∈ pre, x ∉ f_a par x → True := by
  obtain ⟨pre, e⟩ := f_a_suf h hn t ht x hx
  exact ⟨pre, e, fun _ _ _ => trivial⟩
theorem cutd_apart {F : fF} (hw : f_wf F) {a b : Nat} (ha : a < fN F) (hb : b < fN F) (hr : f_r (fP F) a = f_r (fP F) b) (hab : a ≠ b) : f_r (fP (f_cutd (f_walk F a b) (f_way (fP F) a b))) a ≠ f_r (fP (f_cutd (f_walk F a b) (f_way (fP F) a b))) b := by
  have hl2 : 2 ≤ (f_way (fP F) a b).length := by
    have wl := way_len hw ha hb
    have q0 : ¬ (f_way (fP F) a b).length = 0 := fun q => wl.1.mp q hr
    have q1 : ¬ (f_way (fP F) a b).length = 1 := fun q => hab (wl.2.mp q)
    omega
  obtain ⟨k, hk⟩ := f_dx_some (wsL F a b) (fun v hv => (wsL_pos hw ha hb v hv).1) (by rw [f_ws_len]; omega)
  have hkl := (f_dx_lt _ k hk).1
  rw [f_ws_len] at hkl
  obtain ⟨x, y, hx, hy⟩ := get2 (L := f_way (fP F) a b) (k := k) (by omega)
  have hw2 := wf_walk hw ha hb
  have hN2 : fN (f_walk F a b) = fN F := wk_N
  have hxn : x < fN F := f_way_lt hw.2.1 hw.1 ha hb x (List.mem_of_getElem? hx)
  have hyn : y < fN F := f_way_lt hw.2.1 hw.1 ha hb y (List.mem_of_getElem? hy)
  have hyx : fP (f_walk F a b) y = some x := way_up hw ha hb hr hx hy
  have ed : f_cutd (f_walk F a b) (f_way (fP F) a b) = f_cut (f_walk F a b) x y := by
    unfold f_cutd
    have e1 : (f_dx (f_ws (fP (f_walk F a b)) (fL (f_walk F a b)) (f_way (fP F) a b))).1 = some k := by
      rw [walk_ws hw ha hb hr, walk_wsL hw ha hb hr]; exact hk
    rw [e1]
    dsimp only
    rw [List.getD_eq_getElem?_getD, hx, List.getD_eq_getElem?_getD, hy]
    rfl
  rw [ed]
  -- in the walked forest the way from b up is the way turned over; x is above y, y is b or beneath
  have hwc := wf_cut hw2 (a := x) (b := y) (by rw [hN2]; exact hxn) (by rw [hN2]; exact hyn) (Or.inr hyx)
  have hyb : y ∈ f_a (fP (f_walk F a b)) b := by
    show y ∈ f_a (fP (f_reroot F a)) b
    rw [f_way_rr hw ha hb hr]
    exact List.mem_reverse.mpr (List.mem_of_getElem? hy)
  -- behind rerooting at x
  have hpar : ∀ z, z < fN F → fP (f_cut (f_walk F a b) x y) z = if z = y then none else fP (f_reroot (f_walk F a b) x) z := fun z _ => by
    show uo (fP (f_reroot (f_walk F a b) x)) y none z = _
    unfold uo
    rfl
  have hpy : fP (f_cut (f_walk F a b) x y) y = none := by rw [hpar y hyn, if_pos rfl]
  have hNc : fN (f_cut (f_walk F a b) x y) = fN F := by
    show fN (f_walk (f_walk F a b) x y) = fN F
    rw [wk_N, hN2]
  -- b's root is y
  have hb1 : f_r (fP (f_cut (f_walk F a b) x y)) b = y := by
    have key : ∀ t, t < fN F → y ∈ f_a (fP (f_walk F a b)) t → y ∈ f_a (fP (f_cut (f_walk F a b) x y)) t := by
      have hokw : f_ok (fN F) (fP (f_walk F a b)) := ok_reroot hw ha
      refine f_ind hokw fun t ht ih hyt => ?_
      by_cases e : t = y
      · rw [e]; exact f_a_self _ _
      · cases hp : fP (f_walk F a b) t with
        | none =>
          rw [f_a_none hokw hw.1 ht hp] at hyt
          exact absurd (by simpa using hyt) (fun q : y = t => e q.symm)
        | some p =>
          rw [f_a_some hokw hw.1 ht hp] at hyt
          have hyp : y ∈ f_a (fP (f_walk F a b)) p := (List.mem_cons.mp hyt).resolve_left (fun q => e q.symm)
          have htx : t ∉ f_a (fP (f_walk F a b)) x := fun q => by
            have h1 : y ∈ f_a (fP (f_walk F a b)) x := f_a_tr hokw hw.1 hxn q (by rw [f_a_some hokw hw.1 ht hp]; exact hyt)
            have h2 := f_d_le hokw hw.1 hxn h1
            rw [f_d_some hokw hw.1 hyn hyx] at h2
            omega
          have e2 : fP (f_cut (f_walk F a b) x y) t = some p := by
            rw [hpar t ht, if_neg e, (rr_out hw2 (by rw [hN2]; exact hxn) htx).1]
            exact hp
          rw [f_a_some (by rw [← hNc]; exact hwc.2.1) hw.1 ht e2]
          exact List.mem_cons_of_mem _ (ih p hp hyp)
    exact f_r_of hwc.2.1 hwc.1 (by rw [hNc]; exact hb) (key b hb hyb) hpy
  -- a's root is x
  have hxa : a ∈ f_a (fP (f_walk F a b)) x := by
    have hrx : f_r (fP (f_walk F a b)) x = a := by
      show f_r (fP (f_reroot F a)) x = a
      refine rr_root hw ha hxn ?_
      have hxw := List.mem_of_getElem? hx
      obtain ⟨m, A, B, hm⟩ := f_md_ex hw.2.1 hw.1 hb a ha hr
      rw [f_way_md hw.2.1 hm] at hxw
      rcases List.mem_append.mp hxw with q | q
      · exact (f_r_up hw.2.1 hw.1 a ha x (by rw [hm.1]; exact List.mem_append_left _ q)).symm
      · rcases List.mem_cons.mp q with rfl | q
        · exact (f_r_up hw.2.1 hw.1 a ha x hm.mem.1).symm
        · rw [hr]
          exact (f_r_up hw.2.1 hw.1 b hb x (by rw [hm.2.1]; exact List.mem_append_left _ (List.mem_reverse.mp q))).symm
    have := (f_r_lt (ok_reroot hw ha) hw.1 x hxn).2.2
    have hrx : f_r (fP (f_reroot F a)) x = a := hrx
    rw [hrx] at this
    exact this
  have ha1 : f_r (fP (f_cut (f_walk F a b) x y)) a = x := by
    have hokw : f_ok (fN F) (fP (f_walk F a b)) := ok_reroot hw ha
    obtain ⟨pre, e⟩ := f_a_suf hokw hw.1 x hxn a hxa
    have hra := rr_a_in hw2 (t := x) (by rw [hN2]; exact hxn) pre.length pre a rfl (by rw [hN2]; exact ha) e
    have hyn2 : y ∉ f_a (fP (f_walk F a b)) x := fun q => by
      have h2 := f_d_le hokw hw.1 hxn q
      rw [f_d_some hokw hw.1 hyn hyx] at h2
      omega
    have hokr : f_ok (fN F) (fP (f_reroot (f_walk F a b) x)) := by
      have := ok_reroot hw2 (t := x) (by rw [hN2]; exact hxn)
      rw [hN2] at this
      exact this
    have key : ∀ t, t < fN F → t ∈ f_a (fP (f_walk F a b)) x → (∀ z ∈ f_a (fP (f_reroot (f_walk F a b) x)) t, z ∈ f_a (fP (f_walk F a b)) x) → f_a (fP (f_cut (f_walk F a b) x y)) t = f_a (fP (f_reroot (f_walk F a b) x)) t := by
      refine f_ind hokr fun t ht ih htx hin => ?_
      have ety : t ≠ y := fun q => hyn2 (by rw [← q]; exact htx)
      have e2 : fP (f_cut (f_walk F a b) x y) t = fP (f_reroot (f_walk F a b) x) t := by rw [hpar t ht, if_neg ety]
      have hokc : f_ok (fN F) (fP (f_cut (f_walk F a b) x y)) := by rw [← hNc]; exact hwc.2.1
      cases hp : fP (f_reroot (f_walk F a b) x) t with
      | none => rw [f_a_none hokr hw.1 ht hp, f_a_none hokc hw.1 ht (by rw [e2]; exact hp)]
      | some p =>
        have hpm : p ∈ f_a (fP (f_reroot (f_walk F a b) x)) t := by rw [f_a_some hokr hw.1 ht hp]; exact List.mem_cons_of_mem _ (f_a_self _ _)
        rw [f_a_some hokr hw.1 ht hp, f_a_some hokc hw.1 ht (by rw [e2]; exact hp), ih p hp (hin p hpm) (fun z hz => hin z (by rw [f_a_some hokr hw.1 ht hp]; exact List.mem_cons_of_mem _ hz))]
    have hka := key a ha hxa (fun z hz => by
      rw [hra] at hz
      rcases List.mem_cons.mp hz with rfl | hz
      · exact hxa
      · rw [e]; exact List.mem_append_left _ (List.mem_reverse.mp hz))
    refine f_r_of hwc.2.1 hwc.1 (by rw [hNc]; exact ha) ?_ ?_
    · rw [hka, hra]
      have hxx : x ∈ pre ++ f_a (fP (f_walk F a b)) a := by rw [← e]; exact f_a_self _ _
      rcases List.mem_append.mp hxx with q | q
      · exact List.mem_cons_of_mem _ (List.mem_reverse.mpr q)
      · have hpa : fP (f_walk F a b) a = none := rr_hd hw ha
        rw [f_a_none hokw hw.1 ha hpa] at q
        have : x = a := by simpa using q
        rw [this]; exact List.mem_cons_self
    · rw [hpar x hxn, if_neg (fun q : x = y => hyn2 (by rw [← q]; exact f_a_self _ _))]
      exact rr_hd hw2 (by rw [hN2]; exact hxn)
  rw [ha1, hb1]
  intro q
  rw [q] at hyx
  have h2 := f_d_some (ok_reroot hw ha) hw.1 hyn hyx
  omega
theorem A_exchange (d : Nat) (h : rA g σ) (ho : a_ok σ) (x y l c : Int32) : SimC (am_call (d + 9) 99 [.inr (.inr (0, 0)), .inl x, .inl y, .inl l, .inl c] g) g (o_exchange σ x y l c) := by
  rw [cC_exchange, eC_exchange_0]
  unfold o_exchange
  rcases tw2_cs _ ho.1.1 x y with ⟨h1, h2⟩ | ⟨a, b, ha, hb, rfl, rfl, h3⟩
  · rw [h1, C_canBeLink_f (d + 5) h ho h2, bi_some, if_pos rfl]; exact ⟨g, rfl, h, m_fr.rf⟩
  · rw [h3, C_canBeLink_t (d + 5) h ho ha hb, bi_some]
    dsimp only
    by_cases e : (1 ≤ l ∧ l ≤ 9999) ∧ 1 ≤ c ∧ c ≤ 9999
    · obtain ⟨g0, i1, i2, i3⟩ := C_lay (w := 0) (d + 5) h.2.1 ho.1 ha hb
      have hl := (f_way_nd ho.1 ha hb).2
      have hA := h.ask i3.YA
      have hL := f_way_lt ho.1.2.1 ho.1.1 ha hb
      have wl := way_len ho.1 ha hb
      have q1 := q_clamp (lo := 1) (hi := 9999) (by omega) (by omega) e.1
      have q2 := q_clamp (lo := 1) (hi := 9999) (by omega) (by omega) e.2
      have hle : ∀ k, k ≤ 24 → (nI k ≤ (1 : Int32) ↔ k ≤ 1) := fun k hk => by
        constructor
        · intro q
          by_cases e : k ≤ 1
          · exact e
          · exact absurd q (nI_ge (a := 1) (by omega) (by omega))
        · intro q; exact nI_le (b := 1) q (by omega)
      obtain ⟨g1, r1, r2, r3, r4, r5⟩ := hA.rem (d + 6) ho
      have hY1 := r3 _ i2
      rw [if_pos e, if_neg q_110, if_pos e, i1, bv_some, i2.1]
      by_cases eab : a = b
      · rw [if_pos ((nI_len1 (by omega)).mpr (wl.2.mpr eab)), if_pos eab]
        exact ⟨g0, rfl, hA, i3.YA.askC⟩
      · rw [if_neg (fun q => eab (wl.2.mp ((nI_len1 (by omega)).mp q))), if_neg eab]
        by_cases er : f_r (fP (aF σ)) a = f_r (fP (aF σ)) b
        · have e2 : 2 ≤ (f_way (fP (aF σ)) a b).length := by
            have z0 : ¬ (f_way (fP (aF σ)) a b).length = 0 := fun q => wl.1.mp q er
            have z1 : ¬ (f_way (fP (aF σ)) a b).length = 1 := fun q => eab (wl.2.mp q)
            omega
          have hdx := dx_eM ho.1 ha hb e2
          rw [if_pos er, if_neg (fun q => by have := (hle _ hl).mp q; omega), C_dearestLength (d + 4) hA.2.1 ho.1 i2 hL hl (f_way_lks ho.1.2.1 ho.1.1 ha hb), bi_some, hdx.1]
          by_cases ed : (f_dx (wsL (aF σ) a b)).2 ≤ l.toNatClampNeg
          · rw [if_pos ed, if_neg (by rw [q1.1]; exact nI_nlt ed (by omega))]
            exact ⟨g0, rfl, hA, i3.YA.askC⟩
          · obtain ⟨g2, k1, k2, k3⟩ := C_walkFrom (d + 5) r2 ho.1 ha hb
            have hY2 := hY1.sF k3
            have hw2 := wf_walk ho.1 ha hb
            have hL2 : ∀ x ∈ f_way (fP (aF σ)) a b, x < fN (f_walk (aF σ) a b) := fun x hx => by rw [wk_N]; exact hL x hx
            obtain ⟨g3, l1, l2, l3⟩ := C_cutDearestLink (d + 3) k2 hw2 hY2 hL2 hl (walk_lks ho.1 ha hb er)
            obtain ⟨hw3, hN3⟩ := wf_cutd hw2 hL2 (walk_lks ho.1 ha hb er)
            have ha3 : a < fN (f_cutd (f_walk (aF σ) a b) (f_way (fP (aF σ)) a b)) := by rw [hN3, wk_N]; exact ha
            have hb3 : b < fN (f_cutd (f_walk (aF σ) a b) (f_way (fP (aF σ)) a b)) := by rw [hN3, wk_N]; exact hb
            obtain ⟨g4, m1, m2, m3⟩ := C_linkUnder (d + 4) l2 hw3 ha3 hb3 l.toNatClampNeg c.toNatClampNeg
            rw [← q1.1, ← q2.1] at m1
            rw [if_neg ed, if_pos (by rw [q1.1]; exact nI_lt (by omega) (by omega)), r1, bv_some, hY1.1, if_neg (fun q => by have := (hle _ hl).mp q; omega), C_dearestLength (d + 4) r2 ho.1 hY1 hL hl (f_way_lks ho.1.2.1 ho.1.1 ha hb), bi_some, k1, bv_some, l1, bv_some, m1, bv_some, hdx.1]
            exact ⟨g4, rfl, r5 _ _ ((k3.tr l3).tr m3) m2, (((i3.YA.askC.tr r4).tr k3.FC).tr l3.FC).tr m3.FC⟩
        · have e0 : (f_way (fP (aF σ)) a b).length = 0 := wl.1.mpr er
          obtain ⟨g4, m1, m2, m3⟩ := C_linkUnder (d + 4) r2 ho.1 ha hb l.toNatClampNeg c.toNatClampNeg
          rw [← q1.1, ← q2.1] at m1
          rw [if_neg er, if_pos ((hle _ hl).mpr (by omega)), r1, bv_some, hY1.1, if_pos ((hle _ hl).mpr (by omega)), m1, bv_some]
          exact ⟨g4, rfl, r5 _ _ m3 m2, (i3.YA.askC.tr r4).tr m3.FC⟩
    · rw [if_neg e, if_pos rfl, if_neg e]; exact ⟨g, rfl, h, m_fr.rf⟩
end AA
