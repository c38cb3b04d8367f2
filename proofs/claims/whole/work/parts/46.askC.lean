/-! ===== TownForest: what is asked ===== -/
theorem f_hd_lt {F : fF} (hw : f_wf F) : ∀ (k t : Nat), t < fN F → f_hd (fP F) (fQ F) k t < fN F
  | 0, t, ht => ht
  | k + 1, t, ht => by
    rw [f_hd]
    cases hp : fP F t with
    | none => exact ht
    | some p =>
      dsimp only
      split
      · exact f_hd_lt hw k p (hw.p ht hp)
      · exact ht
theorem f_tl_lt {F : fF} (hw : f_wf F) : ∀ (k t : Nat), t < fN F → f_tl (fQ F) k t < fN F
  | 0, t, ht => ht
  | k + 1, t, ht => by
    rw [f_tl]
    cases hp : fQ F t with
    | none => exact ht
    | some p => exact f_tl_lt hw k p (hw.2.2.1 t p ht hp).1
section AK
variable {g : am_G} {σ : aS}
theorem A_fault (d : Nat) (h : rA g σ) (x : Int32) : SimC (am_call (d + 9) 86 [.inr (.inr (0, 0)), .inl x] g) g (w_fault σ x, σ) := by
  rw [cC_fault, eC_fault_0, h.2.2.2.2.2.2.1, h.2.2.2.2.2.2.2]
  unfold w_fault
  refine ⟨g, ?_, h, m_fr.rf⟩
  split
  · rfl
  · split <;> rfl
theorem A_named (d : Nat) (h : rA g σ) (x : Int32) : SimC (am_call (d + 9) 87 [.inr (.inr (0, 0)), .inl x] g) g (w_named σ x, σ) := by
  obtain ⟨b, hb⟩ := h.2.2.1
  rw [cC_named, eC_named_0, N_find (d + 7) hb, bi_some]
  exact ⟨g, rfl, h, m_fr.rf⟩
theorem A_seen (d : Nat) (h : rA g σ) (x : Int32) : SimC (am_call (d + 9) 93 [.inr (.inr (0, 0)), .inl x] g) g (w_seen σ x, σ) := by
  rw [cC_seen, eC_seen_0, h.2.2.2.2.2.1.1]
  unfold w_seen
  by_cases e0 : x < 0
  · rw [if_pos e0, if_neg (fun q => by have := (q_lt _ _).mp e0; have := (q_le _ _).mp q.1; omega)]; exact ⟨g, rfl, h, m_fr.rf⟩
  · have e0' : 0 ≤ x := by rw [q_le]; rw [q_lt] at e0; omega
    rw [if_neg e0]
    by_cases e1 : x < 9
    · rw [if_pos e1, if_pos (show 0 ≤ x ∧ x < 9 from ⟨e0', e1⟩)]
      obtain ⟨t, ht, rfl⟩ : ∃ t, t < 9 ∧ x = nI t := (q_town x (n := 9) (by omega)).resolve_left (fun q => q ⟨e0', e1⟩)
      cases hV : aV σ with
      | none => rw [if_pos (show b01 (none : Option (List Int32)).isSome = 0 from rfl)]; exact ⟨g, rfl, h, m_fr.rf⟩
      | some l =>
        obtain ⟨hl, hk⟩ := h.2.2.2.2.2.1.2 l hV
        have hg := List.getElem?_eq_getElem (l := l) (i := t) (by omega)
        rw [if_neg (show ¬ b01 (some l).isSome = 0 from q_110), q_in ht (by omega), cond_true, nI_clamp (by omega), hk t _ hg]
        dsimp only
        rw [List.getD_eq_getElem?_getD, hg]
        exact ⟨g, rfl, h, m_fr.rf⟩
    · rw [if_neg e1, if_neg (fun q => e1 q.2)]; exact ⟨g, rfl, h, m_fr.rf⟩
theorem q_rg {x : Int32} {n : Nat} (hn : n < 2 ^ 31) (e0 : ¬ x < 0) (e1 : x < nI n) : ∃ t, t < n ∧ x = nI t := (q_town x hn).resolve_left (fun q => q ⟨by rw [q_le]; rw [q_lt] at e0; omega, e1⟩)
theorem q_n0' {x : Int32} (e0 : x < 0) : ¬ 0 ≤ x := fun q => by have := (q_lt _ _).mp e0; have := (q_le _ _).mp q; omega
theorem q_p0' {x : Int32} (e0 : ¬ x < 0) : 0 ≤ x := by rw [q_le]; rw [q_lt] at e0; omega
theorem A_chain (d : Nat) (h : rA g σ) (ho : a_ok σ) (x y : Int32) : SimC (am_call (d + 9) 103 [.inr (.inr (0, 0)), .inl x, .inl y] g) g (w_chain (aF σ) x y, σ) := by
  rw [cC_chain, eC_chain_0]
  unfold w_chain
  rcases tw_cs _ ho.1.1 x with ⟨h1, h2⟩ | ⟨t, ht, rfl, h3⟩
  · rw [h1, C_has_f (d + 7) h.2.1 h2, bi_some, if_pos rfl]; exact ⟨g, rfl, h, m_fr.rf⟩
  · rw [h3, C_has_t (d + 7) h.2.1 ho.1 ht, bi_some, if_neg q_110]
    dsimp only
    by_cases e0 : y < 0
    · rw [if_pos e0, if_neg (fun q => q_n0' e0 q.1)]; exact ⟨g, rfl, h, m_fr.rf⟩
    · rw [if_neg e0]
      by_cases e1 : y < 5
      · have hh := f_hd_lt ho.1 24 t ht
        have htl := f_tl_lt ho.1 24 t ht
        rw [if_pos e1, if_pos ⟨q_p0' e0, e1⟩, C_headOf (d + 7) h.2.1 ho.1 ht, bi_some, C_tailOf (d + 7) h.2.1 ho.1 ht, bi_some, C_depthOf (d + 7) h.2.1 ho.1 htl, bi_some, C_depthOf (d + 7) h.2.1 ho.1 hh, bi_some, C_depthOf (d + 7) h.2.1 ho.1 ht, bi_some, C_depthOf (d + 7) h.2.1 ho.1 hh, bi_some]
        by_cases y0 : y = 0
        · rw [if_pos y0, if_pos y0]; exact ⟨g, rfl, h, m_fr.rf⟩
        · rw [if_neg y0, if_neg y0]
          by_cases y1 : y = 1
          · rw [if_pos y1, if_pos y1]; exact ⟨g, rfl, h, m_fr.rf⟩
          · rw [if_neg y1, if_neg y1]
            by_cases y2 : y = 2
            · rw [if_pos y2, if_pos y2]; exact ⟨g, rfl, h, m_fr.rf⟩
            · rw [if_neg y2, if_neg y2]
              by_cases y3 : y = 3
              · rw [if_pos y3, if_pos y3]; exact ⟨g, rfl, h, m_fr.rf⟩
              · obtain ⟨g1, i1, i2, i3⟩ := C_lay (w := 0) (d + 5) h.2.1 ho.1 hh htl
                have hA := h.ask i3.YA
                rw [if_neg y3, if_neg y3, i1, bv_some, C_lengths (d + 5) hA.2.1 ho.1 i2 (f_way_lt ho.1.2.1 ho.1.1 hh htl) (f_way_nd ho.1 hh htl).2 (f_way_lks ho.1.2.1 ho.1.1 hh htl), bi_some]
                exact ⟨g1, rfl, hA, i3.YA.askC⟩
      · rw [if_neg e1, if_neg (fun q => e1 q.2)]; exact ⟨g, rfl, h, m_fr.rf⟩
theorem A_above (d : Nat) (h : rA g σ) (ho : a_ok σ) (x y : Int32) : SimC (am_call (d + 9) 104 [.inr (.inr (0, 0)), .inl x, .inl y] g) g (w_above (aF σ) x y, σ) := by
  rw [cC_above, eC_above_0]
  unfold w_above
  rcases tw_cs _ ho.1.1 x with ⟨h1, h2⟩ | ⟨t, ht, rfl, h3⟩
  · rw [h1, C_has_f (d + 7) h.2.1 h2, bi_some, if_pos rfl]; exact ⟨g, rfl, h, m_fr.rf⟩
  · have hd := f_d_lt ho.1 ht
    rw [h3, C_has_t (d + 7) h.2.1 ho.1 ht, bi_some, if_neg q_110]
    dsimp only
    by_cases e0 : 0 ≤ y
    · rw [if_pos e0, if_pos e0, C_depthOf (d + 7) h.2.1 ho.1 ht, bi_some]
      by_cases e1 : y ≤ nI (f_d (fP (aF σ)) t)
      · have hq := q_clamp (lo := 0) (by omega) (by omega) ⟨e0, e1⟩
        have hcl := C_climb (d + 7) h.2.1 ho.1 ht (K := y.toNatClampNeg) (by omega)
        rw [← hq.1] at hcl
        rw [if_pos e1, if_pos e1, hcl, bi_some]
        exact ⟨g, rfl, h, m_fr.rf⟩
      · rw [if_neg e1, if_neg e1]; exact ⟨g, rfl, h, m_fr.rf⟩
    · rw [if_neg e0, if_neg e0]; exact ⟨g, rfl, h, m_fr.rf⟩
theorem A_along (d : Nat) (h : rA g σ) (ho : a_ok σ) (x y z : Int32) : SimC (am_call (d + 9) 105 [.inr (.inr (0, 0)), .inl x, .inl y, .inl z] g) g (w_along (aF σ) x y z, σ) := by
  rw [cC_along, eC_along_0]
  unfold w_along
  rcases tw2_cs _ ho.1.1 x y with ⟨h1, h2⟩ | ⟨a, b, ha, hb, rfl, rfl, h3⟩
  · rw [h1, C_hasBoth_f (d + 6) h.2.1 ho.1 h2, bi_some, if_pos rfl]; exact ⟨g, rfl, h, m_fr.rf⟩
  · rw [h3, C_hasBoth_t (d + 6) h.2.1 ho.1 ha hb, bi_some, if_neg q_110]
    dsimp only
    by_cases e0 : 0 ≤ z
    · obtain ⟨g1, i1, i2, i3⟩ := C_lay (w := 0) (d + 5) h.2.1 ho.1 ha hb
      have hA := h.ask i3.YA
      have hl := (f_way_nd ho.1 ha hb).2
      rw [if_pos e0, if_pos e0, i1, bv_some, i2.1]
      by_cases e1 : nI (f_way (fP (aF σ)) a b).length ≤ z
      · rw [if_pos e1, if_pos e1]; exact ⟨g1, rfl, hA, i3.YA.askC⟩
      · obtain ⟨t, ht, rfl⟩ := q_rg (n := (f_way (fP (aF σ)) a b).length) (by omega) (fun q => q_n0' q e0) (by rw [q_lt]; rw [q_le] at e1; omega)
        have hg := List.getElem?_eq_getElem ht
        rw [if_neg e1, if_neg e1, q_in (show t < 24 by omega) (by omega), cond_true, nI_clamp (by omega), i2.2 t _ hg, List.getD_eq_getElem?_getD, hg]
        exact ⟨g1, rfl, hA, i3.YA.askC⟩
    · rw [if_neg e0, if_neg e0]; exact ⟨g, rfl, h, m_fr.rf⟩
theorem A_together (d : Nat) (h : rA g σ) (ho : a_ok σ) (x y : Int32) : SimC (am_call (d + 9) 106 [.inr (.inr (0, 0)), .inl x, .inl y] g) g (w_together (aF σ) x y, σ) := by
  rw [cC_together, eC_together_0]
  unfold w_together
  rcases tw2_cs _ ho.1.1 x y with ⟨h1, h2⟩ | ⟨a, b, ha, hb, rfl, rfl, h3⟩
  · rw [h1, C_hasBoth_f (d + 6) h.2.1 ho.1 h2, bi_some, if_pos rfl]; exact ⟨g, rfl, h, m_fr.rf⟩
  · rw [h3, C_hasBoth_t (d + 6) h.2.1 ho.1 ha hb, bi_some, if_neg q_110, C_hangTogether (d + 6) h.2.1 ho.1 ha hb, bi_some]
    dsimp only
    by_cases er : f_r (fP (aF σ)) a = f_r (fP (aF σ)) b
    · rw [if_pos er, if_neg q_110]; exact ⟨g, rfl, h, m_fr.rf⟩
    · rw [if_neg er, if_pos rfl]; exact ⟨g, rfl, h, m_fr.rf⟩
theorem A_far (d : Nat) (h : rA g σ) (ho : a_ok σ) (x y : Int32) : SimC (am_call (d + 9) 107 [.inr (.inr (0, 0)), .inl x, .inl y] g) g (w_far (aF σ) x y, σ) := by
  rw [cC_far, eC_far_0]
  unfold w_far
  rcases tw2_cs _ ho.1.1 x y with ⟨h1, h2⟩ | ⟨a, b, ha, hb, rfl, rfl, h3⟩
  · rw [h1, C_hasBoth_f (d + 6) h.2.1 ho.1 h2, bi_some, if_pos rfl]; exact ⟨g, rfl, h, m_fr.rf⟩
  · obtain ⟨g1, i1, i2, i3⟩ := C_lay (w := 0) (d + 5) h.2.1 ho.1 ha hb
    have hA := h.ask i3.YA
    have hl := (f_way_nd ho.1 ha hb).2
    have wl := way_len ho.1 ha hb
    rw [h3, C_hasBoth_t (d + 6) h.2.1 ho.1 ha hb, bi_some, if_neg q_110, i1, bv_some, i2.1]
    dsimp only
    by_cases er : f_r (fP (aF σ)) a = f_r (fP (aF σ)) b
    · rw [if_neg (by rw [nI_len0 (by omega)]; exact fun q => wl.1.mp q er), if_pos er, C_lengths (d + 5) hA.2.1 ho.1 i2 (f_way_lt ho.1.2.1 ho.1.1 ha hb) hl (f_way_lks ho.1.2.1 ho.1.1 ha hb), bi_some]
      exact ⟨g1, rfl, hA, i3.YA.askC⟩
    · rw [if_pos (by rw [nI_len0 (by omega)]; exact wl.1.mpr er), if_neg er]
      exact ⟨g1, rfl, hA, i3.YA.askC⟩
theorem A_meets (d : Nat) (h : rA g σ) (ho : a_ok σ) (x y : Int32) : SimC (am_call (d + 9) 108 [.inr (.inr (0, 0)), .inl x, .inl y] g) g (w_meets (aF σ) x y, σ) := by
  rw [cC_meets, eC_meets_0]
  unfold w_meets
  rcases tw2_cs _ ho.1.1 x y with ⟨h1, h2⟩ | ⟨a, b, ha, hb, rfl, rfl, h3⟩
  · rw [h1, C_hasBoth_f (d + 6) h.2.1 ho.1 h2, bi_some, if_pos rfl]; exact ⟨g, rfl, h, m_fr.rf⟩
  · rw [h3, C_hasBoth_t (d + 6) h.2.1 ho.1 ha hb, bi_some, if_neg q_110, C_meetingOf (d + 6) h.2.1 ho.1 ha hb, bi_some]
    dsimp only
    cases hm : f_m (fP (aF σ)) a b with
    | none => rw [eC_none, if_pos rfl]; exact ⟨g, rfl, h, m_fr.rf⟩
    | some m =>
      rw [eC_some, if_neg (q_ne1 (q24 ho.1.1 (f_m_lt ho.1.2.1 ha hm)))]; exact ⟨g, rfl, h, m_fr.rf⟩
theorem A_room (d : Nat) (h : rA g σ) (ho : a_ok σ) (x y : Int32) : SimC (am_call (d + 9) 109 [.inr (.inr (0, 0)), .inl x, .inl y] g) g (w_room (aF σ) x y, σ) := by
  rw [cC_room, eC_room_0]
  unfold w_room
  rcases tw2_cs _ ho.1.1 x y with ⟨h1, h2⟩ | ⟨a, b, ha, hb, rfl, rfl, h3⟩
  · rw [h1, C_hasBoth_f (d + 6) h.2.1 ho.1 h2, bi_some, if_pos rfl]; exact ⟨g, rfl, h, m_fr.rf⟩
  · obtain ⟨g1, i1, i2, i3⟩ := C_lay (w := 0) (d + 5) h.2.1 ho.1 ha hb
    have hA := h.ask i3.YA
    rw [h3, C_hasBoth_t (d + 6) h.2.1 ho.1 ha hb, bi_some, if_neg q_110, i1, bv_some, C_leastOf_5 (d + 5) hA.2.1 ho.1 i2 (f_way_lt ho.1.2.1 ho.1.1 ha hb) (f_way_nd ho.1 ha hb).2 (f_way_lks ho.1.2.1 ho.1.1 ha hb), bi_some]
    exact ⟨g1, rfl, hA, i3.YA.askC⟩
theorem A_order (d : Nat) (h : rA g σ) (ho : a_ok σ) (x z : Int32) : SimC (am_call (d + 9) 110 [.inr (.inr (0, 0)), .inl x, .inl z] g) g (w_order (aF σ) x z, σ) := by
  rw [cC_order, eC_order_0]
  unfold w_order
  rcases tw_cs _ ho.1.1 x with ⟨h1, h2⟩ | ⟨t, ht, rfl, h3⟩
  · rw [h1, C_has_f (d + 7) h.2.1 h2, bi_some, if_pos rfl]; exact ⟨g, rfl, h, m_fr.rf⟩
  · rw [h3, C_has_t (d + 7) h.2.1 ho.1 ht, bi_some, if_neg q_110]
    dsimp only
    by_cases e0 : 0 ≤ z
    · have hr := (f_r_lt ho.1.2.1 ho.1.1 t ht).1
      obtain ⟨g1, i1, i2, i3⟩ := C_lineUp (d + 6) h.2.1 ho.1 hr
      have hA := h.ask i3.VA
      have hl : (f_or (aF σ) (f_r (fP (aF σ)) t)).length ≤ 24 := Nat.le_trans (f_or_len ho.1 hr) ho.1.1
      rw [if_pos e0, if_pos e0, C_rootOf (d + 7) h.2.1 ho.1 ht, bi_some, i1, bv_some, i2.1]
      by_cases e1 : nI (f_or (aF σ) (f_r (fP (aF σ)) t)).length ≤ z
      · rw [if_pos e1, if_pos e1]; exact ⟨g1, rfl, hA, i3.VA.askC⟩
      · obtain ⟨k, hk, rfl⟩ := q_rg (n := (f_or (aF σ) (f_r (fP (aF σ)) t)).length) (by omega) (fun q => q_n0' q e0) (by rw [q_lt]; rw [q_le] at e1; omega)
        have hg := List.getElem?_eq_getElem hk
        rw [if_neg e1, if_neg e1, q_in (show k < 24 by omega) (by omega), cond_true, nI_clamp (by omega), i2.2 k _ hg, List.getD_eq_getElem?_getD, hg]
        exact ⟨g1, rfl, hA, i3.VA.askC⟩
    · rw [if_neg e0, if_neg e0]; exact ⟨g, rfl, h, m_fr.rf⟩
theorem A_place (d : Nat) (h : rA g σ) (ho : a_ok σ) (x : Int32) : SimC (am_call (d + 9) 111 [.inr (.inr (0, 0)), .inl x] g) g (w_place (aF σ) x, σ) := by
  rw [cC_place, eC_place_0]
  unfold w_place
  rcases tw_cs _ ho.1.1 x with ⟨h1, h2⟩ | ⟨t, ht, rfl, h3⟩
  · rw [h1, C_has_f (d + 7) h.2.1 h2, bi_some, if_pos rfl]; exact ⟨g, rfl, h, m_fr.rf⟩
  · have hr := (f_r_lt ho.1.2.1 ho.1.1 t ht).1
    obtain ⟨g1, i1, i2, i3⟩ := C_lineUp (d + 6) h.2.1 ho.1 hr
    have hn := ho.1.1
    rw [h3, C_has_t (d + 7) h.2.1 ho.1 ht, bi_some, if_neg q_110, C_rootOf (d + 7) h.2.1 ho.1 ht, bi_some, i1, bv_some, C_placeOf (d + 7) i2 (Nat.le_trans (f_or_len ho.1 hr) hn) (fun x hx => by have := (f_or_mem1 ho.1 _ hr x hx).1; omega) (by omega), bi_some]
    exact ⟨g1, rfl, h.ask i3.VA, i3.VA.askC⟩
theorem w3_at {g : am_G} {p : Nat × Nat × Nat} (h : rP g p) {k : Nat} (hk : k < 3) : g 27 0 k = w_3 p (nI k) := by
  have hk : k = 0 ∨ k = 1 ∨ k = 2 := by omega
  rcases hk with rfl | rfl | rfl
  · exact h.1
  · exact h.2.1
  · exact h.2.2
theorem A_joint (d : Nat) (h : rA g σ) (ho : a_ok σ) (x y z : Int32) : SimC (am_call (d + 9) 112 [.inr (.inr (0, 0)), .inl x, .inl y, .inl z] g) g (w_joint (aF σ) x y z, σ) := by
  rw [cC_joint, eC_joint_0]
  unfold w_joint
  rcases tw2_cs _ ho.1.1 x y with ⟨h1, h2⟩ | ⟨a, b, ha, hb, rfl, rfl, h3⟩
  · rw [h1, C_hasBoth_f (d + 6) h.2.1 ho.1 h2, bi_some, if_pos rfl]; exact ⟨g, rfl, h, m_fr.rf⟩
  · rw [h3, C_hasBoth_t (d + 6) h.2.1 ho.1 ha hb, bi_some, if_neg q_110]
    dsimp only
    by_cases e0 : z < 0
    · rw [if_pos e0, if_neg (fun q => q_n0' e0 q.1)]; exact ⟨g, rfl, h, m_fr.rf⟩
    · rw [if_neg e0]
      by_cases e1 : z < 3
      · rw [if_pos e1, if_pos ⟨q_p0' e0, e1⟩, C_hangTogether (d + 6) h.2.1 ho.1 ha hb, bi_some]
        by_cases er : f_r (fP (aF σ)) a = f_r (fP (aF σ)) b
        · rw [if_pos er, if_neg q_110, if_pos er]; exact ⟨g, rfl, h, m_fr.rf⟩
        · obtain ⟨g1, i1, i2, i3⟩ := C_findJoint (d + 4) h.2.1 ho.1 ha hb er
          obtain ⟨k, hk, rfl⟩ := q_rg (n := 3) (by omega) e0 e1
          rw [if_neg er, if_pos rfl, if_neg er, i1, bv_some, q_in hk (by omega), cond_true, nI_clamp (by omega)]
          refine ⟨g1, ?_, h.ask i3.SuA, i3.SuA.askC⟩
          cases hj : f_jo (aF σ) a b with
          | none =>
            rw [hj] at i2
            have hk : k = 0 ∨ k = 1 ∨ k = 2 := by omega
            rcases hk with rfl | rfl | rfl
            · rw [i2.1]
            · rw [i2.2.1]
            · rw [i2.2.2]
          | some p =>
            rw [hj] at i2
            rw [w3_at i2.1 hk]
      · rw [if_neg e1, if_neg (fun q => e1 q.2)]; exact ⟨g, rfl, h, m_fr.rf⟩
theorem A_widest (d : Nat) (h : rA g σ) (ho : a_ok σ) (x z : Int32) : SimC (am_call (d + 9) 117 [.inr (.inr (0, 0)), .inl x, .inl z] g) g (w_widest (aF σ) x z, σ) := by
  rw [cC_widest, eC_widest_0]
  unfold w_widest
  rcases tw_cs _ ho.1.1 x with ⟨h1, h2⟩ | ⟨t, ht, rfl, h3⟩
  · rw [h1, C_has_f (d + 7) h.2.1 h2, bi_some, if_pos rfl]; exact ⟨g, rfl, h, m_fr.rf⟩
  · rw [h3, C_has_t (d + 7) h.2.1 ho.1 ht, bi_some, if_neg q_110]
    dsimp only
    by_cases e0 : z < 0
    · rw [if_pos e0, if_neg (fun q => q_n0' e0 q.1)]; exact ⟨g, rfl, h, m_fr.rf⟩
    · rw [if_neg e0]
      by_cases e1 : z < 3
      · obtain ⟨g1, i1, i2, i3⟩ := C_findWidest (d + 4) h.2.1 ho.1 ht
        obtain ⟨k, hk, rfl⟩ := q_rg (n := 3) (by omega) e0 e1
        rw [if_pos e1, if_pos ⟨q_p0' e0, e1⟩, i1, bv_some, q_in hk (by omega), cond_true, nI_clamp (by omega), w3_at i2 hk]
        exact ⟨g1, rfl, h.ask i3.SuA, i3.SuA.askC⟩
      · rw [if_neg e1, if_neg (fun q => e1 q.2)]; exact ⟨g, rfl, h, m_fr.rf⟩
theorem A_tightest (d : Nat) (h : rA g σ) (ho : a_ok σ) (x : Int32) : SimC (am_call (d + 9) 113 [.inr (.inr (0, 0)), .inl x] g) g (w_tightest (aF σ) x, σ) := by
  rw [cC_tightest, eC_tightest_0]
  unfold w_tightest
  rcases tw_cs _ ho.1.1 x with ⟨h1, h2⟩ | ⟨t, ht, rfl, h3⟩
  · rw [h1, C_has_f (d + 7) h.2.1 h2, bi_some, if_pos rfl]; exact ⟨g, rfl, h, m_fr.rf⟩
  · rw [h3, C_has_t (d + 7) h.2.1 ho.1 ht, bi_some, if_neg q_110, C_lowerOfExtreme_5 (d + 6) h.2.1 ho.1 ht, bi_some]; exact ⟨g, rfl, h, m_fr.rf⟩
theorem A_dearest (d : Nat) (h : rA g σ) (ho : a_ok σ) (x : Int32) : SimC (am_call (d + 9) 120 [.inr (.inr (0, 0)), .inl x] g) g (w_dearest (aF σ) x, σ) := by
  rw [cC_dearest, eC_dearest_0]
  unfold w_dearest
  rcases tw_cs _ ho.1.1 x with ⟨h1, h2⟩ | ⟨t, ht, rfl, h3⟩
  · rw [h1, C_has_f (d + 7) h.2.1 h2, bi_some, if_pos rfl]; exact ⟨g, rfl, h, m_fr.rf⟩
  · rw [h3, C_has_t (d + 7) h.2.1 ho.1 ht, bi_some, if_neg q_110, C_lowerOfExtreme_4 (d + 6) h.2.1 ho.1 ht, bi_some]; exact ⟨g, rfl, h, m_fr.rf⟩
theorem A_heavy (d : Nat) (h : rA g σ) (ho : a_ok σ) (x : Int32) : SimC (am_call (d + 9) 114 [.inr (.inr (0, 0)), .inl x] g) g (w_heavy (aF σ) x, σ) := by
  rw [cC_heavy, eC_heavy_0]
  unfold w_heavy
  rcases tw_cs _ ho.1.1 x with ⟨h1, h2⟩ | ⟨t, ht, rfl, h3⟩
  · rw [h1, C_has_f (d + 7) h.2.1 h2, bi_some, if_pos rfl]; exact ⟨g, rfl, h, m_fr.rf⟩
  · obtain ⟨g1, i1, i2⟩ := C_heavyChildOf (d + 6) h.2.1 ho.1 ht
    rw [h3, C_has_t (d + 7) h.2.1 ho.1 ht, bi_some, if_neg q_110, i1, bi_some]
    dsimp only
    refine ⟨g1, ?_, h.ask i2.s7A, i2.s7A.askC⟩
    cases hv : f_hv (aF σ) t with
    | none => rw [eC_none, if_pos rfl]; rfl
    | some c => rw [eC_some, if_neg (q_ne1 (q24 ho.1.1 (f_hv_some hv).1))]; rfl
theorem A_potential (d : Nat) (h : rA g σ) (ho : a_ok σ) : SimC (am_call (d + 9) 115 [.inr (.inr (0, 0))] g) g (nI (f_po (aF σ)), σ) := by
  obtain ⟨g1, i1, i2⟩ := C_heavyNotPreferred (d + 6) h.2.1 ho.1
  rw [cC_potential, eC_potential_0, i1, bi_some]
  exact ⟨g1, rfl, h.ask i2.s7A, i2.s7A.askC⟩
theorem A_would (d : Nat) (h : rA g σ) (ho : a_ok σ) (x : Int32) : SimC (am_call (d + 9) 116 [.inr (.inr (0, 0)), .inl x] g) g (w_would (aF σ) x, σ) := by
  rw [cC_would, eC_would_0]
  unfold w_would
  rcases tw_cs _ ho.1.1 x with ⟨h1, h2⟩ | ⟨t, ht, rfl, h3⟩
  · rw [h1, C_has_f (d + 7) h.2.1 h2, bi_some, if_pos rfl]; exact ⟨g, rfl, h, m_fr.rf⟩
  · rw [h3, C_has_t (d + 7) h.2.1 ho.1 ht, bi_some, if_neg q_110, C_switchesTo (d + 7) h.2.1 ho.1 ht, bi_some]; exact ⟨g, rfl, h, m_fr.rf⟩
theorem A_midst (d : Nat) (h : rA g σ) (ho : a_ok σ) (x : Int32) : SimC (am_call (d + 9) 118 [.inr (.inr (0, 0)), .inl x] g) g (w_midst (aF σ) x, σ) := by
  rw [cC_midst, eC_midst_0]
  unfold w_midst
  rcases tw_cs _ ho.1.1 x with ⟨h1, h2⟩ | ⟨t, ht, rfl, h3⟩
  · rw [h1, C_has_f (d + 7) h.2.1 h2, bi_some, if_pos rfl]; exact ⟨g, rfl, h, m_fr.rf⟩
  · obtain ⟨g1, i1, i2⟩ := C_midstOfTreeOf (d + 6) h.2.1 ho.1 ht
    rw [h3, C_has_t (d + 7) h.2.1 ho.1 ht, bi_some, if_neg q_110, i1, bi_some]
    exact ⟨g1, rfl, h.ask i2.s7A, i2.s7A.askC⟩
theorem A_parts (d : Nat) (h : rA g σ) (ho : a_ok σ) (x : Int32) : SimC (am_call (d + 9) 119 [.inr (.inr (0, 0)), .inl x] g) g (w_parts (aF σ) x, σ) := by
  rw [cC_parts, eC_parts_0]
  unfold w_parts
  by_cases e : 0 ≤ x ∧ x ≤ 9999
  · have hq := q_clamp (lo := 0) (hi := 9999) (by omega) (by omega) e
    have hp := C_partsBy (d + 7) h.2.1 ho.1 (K := x.toNatClampNeg) (by omega)
    rw [← hq.1] at hp
    rw [C_isWithin_t (d + 7) g e, bi_some, if_neg q_110, if_pos e, hp, bi_some]; exact ⟨g, rfl, h, m_fr.rf⟩
  · rw [C_isWithin_f (d + 7) g e, bi_some, if_pos rfl, if_neg e]; exact ⟨g, rfl, h, m_fr.rf⟩
theorem f_lf_le (F : fF) (hw : f_wf F) (k : Nat) : ∀ l, f_lf F k = some l → l ≤ 9999 := by
  unfold f_lf
  split
  · intro l hl; cases hl; omega
  · have key : ∀ (m t : Nat) (b : Option Nat), t + m = fN F → (∀ l, b = some l → l ≤ 9999) → ∀ l, fo (fun least t => if fP F t ≠ none ∧ (∀ l, least = some l → fL F t < l) ∧ f_pa F (fL F t) ≤ k then some (fL F t) else least) b t m = some l → l ≤ 9999 := by
      intro m
      induction m with
      | zero => intro t b _ hb; exact hb
      | succ m ih =>
        intro t b ht hb
        rw [fo]
        refine ih (t + 1) _ (by omega) ?_
        intro l hl
        split at hl
        · rename_i hc
          cases hl
          exact (hw.2.2.2 t (by omega) hc.1).2.1
        · exact hb l hl
    exact key (fN F) 0 none (by omega) (fun l hl => by cases hl)
theorem A_leastFor (d : Nat) (h : rA g σ) (ho : a_ok σ) (x : Int32) : SimC (am_call (d + 9) 121 [.inr (.inr (0, 0)), .inl x] g) g (w_leastFor (aF σ) x, σ) := by
  rw [cC_leastFor, eC_leastFor_0]
  unfold w_leastFor
  by_cases e : 1 ≤ x ∧ x ≤ 24
  · have hq := q_clamp (lo := 1) (hi := 24) (by omega) (by omega) e
    have hp := C_leastLengthFor (d + 6) h.2.1 ho.1 (K := x.toNatClampNeg) (by omega)
    rw [← hq.1] at hp
    rw [C_isWithin_t (d + 7) g e, bi_some, if_neg q_110, if_pos e, hp, bi_some]
    refine ⟨g, ?_, h, m_fr.rf⟩
    cases hv : f_lf (aF σ) x.toNatClampNeg with
    | none => rw [eC_none, if_pos rfl]; rfl
    | some c => rw [eC_some, if_neg (q_ne1 (by have := f_lf_le _ ho.1 _ c hv; omega))]; rfl
  · rw [C_isWithin_f (d + 7) g e, bi_some, if_pos rfl, if_neg e]; exact ⟨g, rfl, h, m_fr.rf⟩
theorem A_count (d : Nat) (h : rA g σ) (ho : a_ok σ) (x : Int32) : SimC (am_call (d + 9) 126 [.inr (.inr (0, 0)), .inl x] g) g (w_count σ x, σ) := by
  have es : g 118 0 0 = nI (aU σ).length := by obtain ⟨-, o, -, -, q, -⟩ := h.2.2.2.1; exact q
  rw [cC_count, eC_count_0, h.2.1.1, h.2.1.2.1, es, h.1.1, C_trees (d + 7) h.2.1 ho.1, C_chains (d + 7) h.2.1 ho.1, bi_some, bi_some, bi_some]
  refine ⟨g, ?_, h, m_fr.rf⟩
  unfold w_count f_tr
  dsimp only
  repeat' split
  all_goals rfl
theorem A_town (d : Nat) (h : rA g σ) (ho : a_ok σ) {t : Nat} (ht : t < fN (aF σ)) (x : Int32) (hx : 0 ≤ x ∧ x < 10) : SimC (am_call (d + 9) 102 [.inr (.inr (0, 0)), .inl (nI t), .inl x] g) g (w_town (aF σ) t x, σ) := by
  have hn := ho.1.1
  have h31 := q24 hn ht
  obtain ⟨g1, i1, i2⟩ := C_sizeOf (d + 5) h.2.1 ho.1 ht
  have e1 : am_call (d + 8) 131 [.inr (.inr (0, 0)), .inl (nI t), .inl x] g = some (some (.inl (w_town (aF σ) t x)), if x = 5 then g1 else g) := by
    rw [cC_factOfTown, eC_factOfTown_0, q_c24 hn ht, cond_true, nI_clamp h31, h.2.1.p ht, h.2.1.q ht, h.2.1.v ht, C_rootOf (d + 6) h.2.1 ho.1 ht, C_depthOf (d + 6) h.2.1 ho.1 ht, C_valuesUnder (d + 5) h.2.1 ho.1 ht, C_childrenOf (d + 6) h.2.1 ho.1 ht, i1]
    simp only [bi_some, cond_true]
    unfold w_town
    have x5 : ∀ {c : Int32}, x = c → c ≠ 5 → ¬ x = 5 := fun h1 h2 h3 => h2 (by rw [← h1, h3])
    cases hp : fP (aF σ) t with
    | none =>
      rw [eC_none, if_pos rfl]
      by_cases y0 : x = 0
      · rw [if_pos y0, if_pos y0, if_neg (x5 y0 (by decide))]
      · rw [if_neg y0, if_neg y0]
        by_cases y1 : x = 1
        · rw [if_pos y1, if_pos y1, if_neg q_110, if_neg (x5 y1 (by decide))]; rfl
        · rw [if_neg y1, if_neg y1]
          by_cases y2 : x = 2
          · rw [if_pos y2, if_pos y2, if_neg (x5 y2 (by decide))]
            cases hq : fQ (aF σ) t with
            | none => rw [eC_none, if_pos rfl]; rfl
            | some c => rw [eC_some, if_neg (q_ne1 (ho.1.q31 ht c hq))]; rfl
          · rw [if_neg y2, if_neg y2]
            by_cases y3 : x = 3
            · rw [if_pos y3, if_pos y3, if_neg (x5 y3 (by decide))]
            · rw [if_neg y3, if_neg y3]
              by_cases y4 : x = 4
              · rw [if_pos y4, if_pos y4, if_neg (x5 y4 (by decide))]
              · rw [if_neg y4, if_neg y4]
                by_cases y5 : x = 5
                · rw [if_pos y5, if_pos y5, if_pos y5]
                · rw [if_neg y5, if_neg y5, if_neg y5]
                  by_cases y6 : x = 6
                  · rw [if_pos y6, if_pos y6]
                  · rw [if_neg y6, if_neg y6]
                    by_cases y7 : x = 7
                    · rw [if_pos y7, if_pos y7, if_neg q_110]; rfl
                    · rw [if_neg y7, if_neg y7]
                      by_cases y8 : x = 8
                      · rw [if_pos y8, if_pos y8, if_neg q_110]; rfl
                      · rw [if_neg y8, if_neg y8]
    | some p =>
      have hpn := ho.1.p ht hp
      have hpe : fP (aF σ) t ≠ none := by rw [hp]; simp
      rw [eC_some, if_neg (q_ne1 (q24 hn hpn)), h.2.1.l ht hpe, h.2.1.c ht hpe]
      by_cases y0 : x = 0
      · rw [if_pos y0, if_pos y0, if_neg (x5 y0 (by decide))]
      · rw [if_neg y0, if_neg y0]
        by_cases y1 : x = 1
        · rw [if_pos y1, if_pos y1, if_pos trivial, if_neg (x5 y1 (by decide))]; rfl
        · rw [if_neg y1, if_neg y1]
          by_cases y2 : x = 2
          · rw [if_pos y2, if_pos y2, if_neg (x5 y2 (by decide))]
            cases hq : fQ (aF σ) t with
            | none => rw [eC_none, if_pos rfl]; rfl
            | some c => rw [eC_some, if_neg (q_ne1 (ho.1.q31 ht c hq))]; rfl
          · rw [if_neg y2, if_neg y2]
            by_cases y3 : x = 3
            · rw [if_pos y3, if_pos y3, if_neg (x5 y3 (by decide))]
            · rw [if_neg y3, if_neg y3]
              by_cases y4 : x = 4
              · rw [if_pos y4, if_pos y4, if_neg (x5 y4 (by decide))]
              · rw [if_neg y4, if_neg y4]
                by_cases y5 : x = 5
                · rw [if_pos y5, if_pos y5, if_pos y5]
                · rw [if_neg y5, if_neg y5, if_neg y5]
                  by_cases y6 : x = 6
                  · rw [if_pos y6, if_pos y6]
                  · rw [if_neg y6, if_neg y6]
                    by_cases y7 : x = 7
                    · rw [if_pos y7, if_pos y7, if_pos trivial]; rfl
                    · rw [if_neg y7, if_neg y7]
                      by_cases y8 : x = 8
                      · rw [if_pos y8, if_pos y8, if_pos trivial]; rfl
                      · rw [if_neg y8, if_neg y8]
  rw [cC_town, eC_town_0, C_has_t (d + 7) h.2.1 ho.1 ht, bi_some, if_neg q_110, if_neg (fun q => q_n0' q hx.1), if_pos hx.2, e1, bi_some]
  by_cases y5 : x = 5
  · rw [if_pos y5]; exact ⟨g1, rfl, h.ask i2.s7A, i2.s7A.askC⟩
  · rw [if_neg y5]; exact ⟨g, rfl, h, m_fr.rf⟩
theorem A_chance_loop (d : Nat) {N : Nat} (hN : N ≤ 60) (x1 x3 : Int32) : ∀ (m k fuel l : Nat) (g : am_G) (F : fF), k + m = N → m < fuel → rC g 3 F → f_wf F → 0 < fN F → g 122 0 0 = nI l →
    ∃ g', am_run (am_call (d + 8)) 122 fuel 36 [some (.inr (.inr (0, 0))), some (.inl x1), some (.inl (nI N)), some (.inl x3), some (.inl (nI k))] [] g = some (some (.inl (if x3 = 0 then nI (f_tr (f_ch_n F l m).1) else if x3 = 1 then fS (f_ch_n F l m).1 else if x3 = 2 then nI (f_po (f_ch_n F l m).1) else nI (f_r (fP (f_ch_n F l m).1) 0))), g') ∧ m_fr sAsk g g'
  | 0, k, fuel, l, g, F, hk, hf, hc, hw, h0, hl => by
    obtain ⟨fuel, rfl⟩ : ∃ k', fuel = k' + 1 := ⟨fuel - 1, by omega⟩
    have e : k = N := by omega
    subst e
    rw [eC_chance_36, if_pos (nI_le (Nat.le_refl _) (by omega)), f_ch_n]
    by_cases y0 : x3 = 0
    · rw [if_pos y0, if_pos y0, C_trees (d + 7) hc hw, bi_some]; exact ⟨g, rfl, m_fr.rf⟩
    · rw [if_neg y0, if_neg y0]
      by_cases y1 : x3 = 1
      · rw [if_pos y1, if_pos y1, hc.2.1]; exact ⟨g, rfl, m_fr.rf⟩
      · rw [if_neg y1, if_neg y1]
        by_cases y2 : x3 = 2
        · obtain ⟨g1, i1, i2⟩ := C_heavyNotPreferred (d + 6) hc hw
          rw [if_pos y2, if_pos y2, i1, bi_some]
          exact ⟨g1, rfl, i2.mono fun c j q => Or.inr (Or.inr (Or.inr (Or.inr (Or.inl ⟨q.2, by have := q.1; unfold fc; omega⟩))))⟩
        · have hr := C_rootOf (d + 7) hc hw h0
          rw [← q_n0] at hr
          rw [if_neg y2, if_neg y2, hr, bi_some]; exact ⟨g, rfl, m_fr.rf⟩
  | m + 1, k, fuel, l, g, F, hk, hf, hc, hw, h0, hl => by
    obtain ⟨fuel, rfl⟩ : ∃ k', fuel = k' + 1 := ⟨fuel - 1, by omega⟩
    obtain ⟨g1, i1, i2, i3, i4⟩ := B_doOne (d + 2) hc hw h0 hl
    obtain ⟨w1, w2⟩ := wf_chance hw h0 l
    rw [eC_chance_36, if_neg (nI_ge (by omega) (by omega)), i1, bv_some, nI_1, f_ch_n]
    obtain ⟨g2, j1, j2⟩ := A_chance_loop d hN x1 x3 m (k + 1) fuel (f_chance F l).2 g1 (f_chance F l).1 (by omega) (by omega) i2 w1 (by rw [w2]; exact h0) i3
    exact ⟨g2, j1, i4.BA.tr j2⟩
theorem A_chance (d : Nat) (h : rA g σ) (ho : a_ok σ) (x n k : Int32) : SimC (am_call (d + 9) 122 [.inr (.inr (0, 0)), .inl x, .inl n, .inl k] g) g (w_chance σ x n k, σ) := by
  have hn := ho.1.1
  obtain ⟨b, hb⟩ := h.2.2.1
  rw [cC_chance, eC_chance_0]
  unfold w_chance
  by_cases e0 : x < -1
  · rw [if_pos e0, if_neg (fun q => by have := (q_lt _ _).mp e0; have := (q_le _ _).mp q.1; omega)]; exact ⟨g, rfl, h, m_fr.rf⟩
  · have e0' : -1 ≤ x := by rw [q_le]; rw [q_lt] at e0; omega
    rw [if_neg e0]
    by_cases e1 : 1 ≤ n ∧ n ≤ 60
    · rw [C_isWithin_t (d + 7) g e1, bi_some, if_neg q_110]
      by_cases e2 : k < 0
      · rw [if_pos e2, if_neg (fun q => q_n0' e2 q.2.2.1.1)]; exact ⟨g, rfl, h, m_fr.rf⟩
      · rw [if_neg e2]
        by_cases e3 : k < 4
        · rw [if_neg (by rw [q_le]; rw [q_lt] at e3; omega), h.2.1.1]
          by_cases e4 : 0 < fN (aF σ)
          · have hcond : -1 ≤ x ∧ (1 ≤ n ∧ n ≤ 60) ∧ (0 ≤ k ∧ k < 4) ∧ 0 < fN (aF σ) := ⟨e0', e1, ⟨q_p0' e2, e3⟩, e4⟩
            have hq := q_clamp (lo := 1) (hi := 60) (by omega) (by omega) e1
            rw [if_neg (by rw [nI_len0 (by omega)]; omega), if_pos hcond]
            have fin : ∀ (y : Int32) (l : Nat), y = nI l → ∃ g', am_bv (am_call (d + 8) 35 [.inr (.inr (28, 0)), .inr (.inr (1, 0)), .inl y] g) (fun g2 => am_run (am_call (d + 8)) 122 99999 36 [some (.inr (.inr (0, 0))), some (.inl x), some (.inl n), some (.inl k), some (.inl (0 : Int32))] [] g2) = some (some (.inl (if k = 0 then nI (f_tr (f_ch_n (f_sS (aF σ) 0) l n.toNatClampNeg).1) else if k = 1 then fS (f_ch_n (f_sS (aF σ) 0) l n.toNatClampNeg).1 else if k = 2 then nI (f_po (f_ch_n (f_sS (aF σ) 0) l n.toNatClampNeg).1) else nI (f_r (fP (f_ch_n (f_sS (aF σ) 0) l n.toNatClampNeg).1) 0))), g') ∧ m_fr sAsk g g' := by
              intro y l hy
              obtain ⟨g1, i1, i2, i3, i4⟩ := B_start (d + 6) h.2.1 ho.1 y
              rw [hy] at i3
              obtain ⟨g2, j1, j2⟩ := A_chance_loop d hq.2.2 x k n.toNatClampNeg 0 99999 l g1 (f_sS (aF σ) 0) (by omega) (by omega) i2 ho.1 e4 i3
              rw [← hq.1] at j1
              rw [i1, bv_some]
              exact ⟨g2, j1, i4.BA.tr j2⟩
            by_cases e5 : x = -1
            · obtain ⟨s, hs1, hs2⟩ := ho.2.2.2.2.1
              have hs3 : (aE σ).toNatClampNeg = s := by rw [hs2, nI_clamp (by omega)]
              obtain ⟨g2, j1, j2⟩ := fin (aE σ) s hs2
              rw [if_pos e5, hb.2.2.2.1, j1, if_pos e5, hs3]
              exact ⟨g2, rfl, h.ask j2, j2.askC⟩
            · have e0'' : ¬ x < 0 := fun q => e5 (by
                rw [q_eq, q_m1]
                have h1 := (q_lt _ _).mp q
                have h2 := (q_le _ _).mp e0'
                rw [q_m1] at h2
                rw [Int32.toInt_zero] at h1
                omega)
              obtain ⟨l, hl1, hl2⟩ := nI_of e0''
              have hl3 : x.toNatClampNeg = l := by rw [hl2, nI_clamp hl1]
              obtain ⟨g2, j1, j2⟩ := fin x l hl2
              rw [if_neg e5, j1, if_neg e5, hl3]
              exact ⟨g2, rfl, h.ask j2, j2.askC⟩
          · rw [if_pos (by rw [nI_len0 (by omega)]; omega), if_neg (fun q => e4 q.2.2.2)]; exact ⟨g, rfl, h, m_fr.rf⟩
        · rw [if_pos (by rw [q_le]; rw [q_lt] at e3; omega), if_neg (fun q => e3 q.2.2.1.2)]; exact ⟨g, rfl, h, m_fr.rf⟩
    · rw [C_isWithin_f (d + 7) g e1, bi_some, if_pos rfl, if_neg (fun q => e1 q.2.1)]; exact ⟨g, rfl, h, m_fr.rf⟩
end AK
