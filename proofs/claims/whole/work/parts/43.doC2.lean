/-! ===== TownForest: ways, undo, images ===== -/
section AA
variable {g : am_G} {σ : aS}
theorem nI_len0 {k : Nat} (hk : k < 2 ^ 31) : nI k = 0 ↔ k = 0 := nI_eq (b := 0) hk (by omega)
theorem nI_len1 {k : Nat} (hk : k < 2 ^ 31) : nI k = 1 ↔ k = 1 := nI_eq (b := 1) hk (by omega)
theorem A_walk (d : Nat) (h : rA g σ) (ho : a_ok σ) (x y : Int32) : SimC (am_call (d + 9) 92 [.inr (.inr (0, 0)), .inl x, .inl y] g) g (o_walk σ x y) := by
  rw [cC_walk, eC_walk_0]
  unfold o_walk
  rcases tw2_cs _ ho.1.1 x y with ⟨h1, h2⟩ | ⟨a, b, ha, hb, rfl, rfl, h3⟩
  · rw [h1, C_hasBoth_f (d + 6) h.2.1 ho.1 h2, bi_some, if_pos rfl]; exact ⟨g, rfl, h, m_fr.rf⟩
  · obtain ⟨g0, i1, i2, i3⟩ := C_lay (w := 0) (d + 5) h.2.1 ho.1 ha hb
    have hl := (f_way_nd ho.1 ha hb).2
    have hA := h.ask i3.YA
    rw [h3, C_hasBoth_t (d + 6) h.2.1 ho.1 ha hb, bi_some, if_neg q_110, i1, bv_some, i2.1]
    dsimp only
    by_cases er : f_r (fP (aF σ)) a = f_r (fP (aF σ)) b
    · have e0 : ¬ (f_way (fP (aF σ)) a b).length = 0 := fun q => (way_len ho.1 ha hb).1.mp q er
      obtain ⟨g1, r1, r2, r3, r4, r5⟩ := hA.rem (d + 6) ho
      obtain ⟨g2, k1, k2, k3⟩ := C_walkFrom (d + 5) r2 ho.1 ha hb
      have hY1 := r3 _ i2
      have hY2 := hY1.sF k3
      have hw2 := wf_walk ho.1 ha hb
      have hL2 : ∀ x ∈ f_way (fP (aF σ)) a b, x < fN (f_walk (aF σ) a b) := fun x hx => by rw [wk_N]; exact f_way_lt ho.1.2.1 ho.1.1 ha hb x hx
      have hk2 := walk_lks ho.1 ha hb er
      obtain ⟨g3, l1, l2, l3⟩ := C_look (d + 3) k2 hw2 hY2 hL2 hl hk2 (fS (f_walk (aF σ) a b) - fS (aF σ))
      have hc3 : rC g3 0 (f_walk (aF σ) a b) := k2.fr l3 (fun c hc => by have := hc.2; omega)
      have hY3 : rY g3 0 (f_way (fP (aF σ)) a b) := hY2.fr l3 (fun q => by have := q.2; omega) (fun q => by have := q.2; omega)
      rw [if_neg (by rw [nI_len0 (by omega)]; exact e0), if_pos er, r1, bv_some, k1, bv_some, k2.2.1, r2.2.1, l1, bv_some, C_lengths (d + 5) hc3 hw2 hY3 hL2 hl hk2, bi_some]
      refine ⟨g3, rfl, ?_, ((i3.YA.askC.tr r4).tr k3.FC).tr (l3.mono fun c j q => by have := q.2; show c ≤ 28 ∨ (100 ≤ c ∧ c ≤ 129); omega)⟩
      obtain ⟨b1, b2, ⟨bb, b3⟩, b4, b5, b6, b7, b8⟩ := r5 _ _ k3 k2
      have z : ∀ c j, (c ≠ 19 ∧ c ≠ 120) → ¬ sS c j := fun c j hc q => by have := q.2; omega
      exact ⟨b1.fr l3 (z _ _ (by omega)) (z _ _ (by omega)), hc3, ⟨bb, b3.fr l3 (fun c hc => z _ _ (by omega))⟩, b4.fr l3 (z _ _ (by omega)) (z _ _ (by omega)) (fun c j _ _ hc => z _ _ (by unfold fc at hc; omega)), b5.fr l3 (z _ _ (by omega)) (fun c hc => z _ _ (by omega)), l2, by rw [l3 108 0 (z _ _ (by omega))]; exact b7, by rw [l3 109 0 (z _ _ (by omega))]; exact b8⟩
    · rw [if_pos (by rw [nI_len0 (by omega)]; exact (way_len ho.1 ha hb).1.mpr er), if_neg er]
      exact ⟨g0, rfl, hA, i3.YA.askC⟩
theorem q_rng {x : Int32} (h : -9999 ≤ x ∧ x ≤ 9999) : -9999 ≤ x.toInt ∧ x.toInt ≤ 9999 := by
  have h1 := (q_le _ _).mp h.1
  have h2 := (q_le _ _).mp h.2
  rw [q_m9999] at h1
  rw [q_9999] at h2
  exact ⟨h1, h2⟩
theorem A_raise (d : Nat) (h : rA g σ) (ho : a_ok σ) (x y z : Int32) : SimC (am_call (d + 9) 95 [.inr (.inr (0, 0)), .inl x, .inl y, .inl z] g) g (o_raise σ x y z) := by
  rw [cC_raise, eC_raise_0]
  unfold o_raise
  rcases tw2_cs _ ho.1.1 x y with ⟨h1, h2⟩ | ⟨a, b, ha, hb, rfl, rfl, h3⟩
  · rw [h1, C_hasBoth_f (d + 6) h.2.1 ho.1 h2, bi_some, if_pos rfl]; exact ⟨g, rfl, h, m_fr.rf⟩
  · obtain ⟨g0, i1, i2, i3⟩ := C_lay (w := 0) (d + 5) h.2.1 ho.1 ha hb
    have hl := (f_way_nd ho.1 ha hb).2
    have hA := h.ask i3.YA
    have hL := f_way_lt ho.1.2.1 ho.1.1 ha hb
    rw [h3, C_hasBoth_t (d + 6) h.2.1 ho.1 ha hb, bi_some, if_neg q_110]
    dsimp only
    by_cases ez : -9999 ≤ z ∧ z ≤ 9999
    · have hz := q_rng ez
      rw [C_isWithin_t (d + 7) g ez, bi_some, if_neg q_110, if_pos ez, i1, bv_some, i2.1]
      by_cases er : f_r (fP (aF σ)) a = f_r (fP (aF σ)) b
      · have e0 : ¬ (f_way (fP (aF σ)) a b).length = 0 := fun q => (way_len ho.1 ha hb).1.mp q er
        rw [if_neg (by rw [nI_len0 (by omega)]; exact e0), if_pos er, C_keepsWithin_4 (d + 5) hA.2.1 ho.1 i2 hL hl (f_way_lks ho.1.2.1 ho.1.1 ha hb) hz, bi_some, show (1 : Int32).toInt = 1 from rfl]
        by_cases ek : f_kw (wsL (aF σ) a b) z.toInt 1 = true
        · obtain ⟨g1, r1, r2, r3, r4, r5⟩ := hA.rem (d + 6) ho
          obtain ⟨g2, k1, k2, k3⟩ := C_walkFrom (d + 5) r2 ho.1 ha hb
          have hY2 := (r3 _ i2).sF k3
          have hw2 := wf_walk ho.1 ha hb
          have hL2 : ∀ x ∈ f_way (fP (aF σ)) a b, x < fN (f_walk (aF σ) a b) := fun x hx => by rw [wk_N]; exact hL x hx
          obtain ⟨g3, l1, l2, l3⟩ := C_addToAll_4 (d + 5) k2 hw2 hY2 hL2 hl (f_way_nd ho.1 ha hb).1 (fun k u v hu hv => way_up ho.1 ha hb er hu hv) hz (kw_tail ek (walk_wsL ho.1 ha hb er))
          rw [if_pos ek, if_neg q_110, if_pos ek, r1, bv_some, k1, bv_some, l1, bv_some, (hY2.sF l3).1, show (1 : Int32) = nI 1 from rfl, pk_sub (by omega)]
          exact ⟨g3, rfl, r5 _ _ (k3.tr l3) l2, ((i3.YA.askC.tr r4).tr k3.FC).tr l3.FC⟩
        · rw [if_neg ek, if_pos rfl, if_neg ek]
          exact ⟨g0, rfl, hA, i3.YA.askC⟩
      · rw [if_pos (by rw [nI_len0 (by omega)]; exact (way_len ho.1 ha hb).1.mpr er), if_neg er]
        exact ⟨g0, rfl, hA, i3.YA.askC⟩
    · rw [C_isWithin_f (d + 7) g ez, bi_some, if_pos rfl, if_neg ez]; exact ⟨g, rfl, h, m_fr.rf⟩
theorem q_neg {x : Int32} (h : -9999 ≤ x.toInt ∧ x.toInt ≤ 9999) : (-x).toInt = -x.toInt := fb_negI (by omega)
theorem A_send (d : Nat) (h : rA g σ) (ho : a_ok σ) (x y z : Int32) : SimC (am_call (d + 9) 97 [.inr (.inr (0, 0)), .inl x, .inl y, .inl z] g) g (o_send σ x y z) := by
  rw [cC_send, eC_send_0]
  unfold o_send
  rcases tw2_cs _ ho.1.1 x y with ⟨h1, h2⟩ | ⟨a, b, ha, hb, rfl, rfl, h3⟩
  · rw [h1, C_hasBoth_f (d + 6) h.2.1 ho.1 h2, bi_some, if_pos rfl]; exact ⟨g, rfl, h, m_fr.rf⟩
  · obtain ⟨g0, i1, i2, i3⟩ := C_lay (w := 0) (d + 5) h.2.1 ho.1 ha hb
    have hl := (f_way_nd ho.1 ha hb).2
    have hA := h.ask i3.YA
    have hL := f_way_lt ho.1.2.1 ho.1.1 ha hb
    rw [h3, C_hasBoth_t (d + 6) h.2.1 ho.1 ha hb, bi_some, if_neg q_110]
    dsimp only
    by_cases ez : -9999 ≤ z ∧ z ≤ 9999
    · have hz0 := q_rng ez
      have hzn := q_neg hz0
      have hz : -9999 ≤ (-z).toInt ∧ (-z).toInt ≤ 9999 := by omega
      rw [C_isWithin_t (d + 7) g ez, bi_some, if_neg q_110, if_pos ez, i1, bv_some, i2.1]
      by_cases er : f_r (fP (aF σ)) a = f_r (fP (aF σ)) b
      · have e0 : ¬ (f_way (fP (aF σ)) a b).length = 0 := fun q => (way_len ho.1 ha hb).1.mp q er
        rw [if_neg (by rw [nI_len0 (by omega)]; exact e0), if_pos er, C_keepsWithin_5 (d + 5) hA.2.1 ho.1 i2 hL hl (f_way_lks ho.1.2.1 ho.1.1 ha hb) hz, bi_some, show (0 : Int32).toInt = 0 from rfl, hzn]
        by_cases ek : f_kw (wsC (aF σ) a b) (-z.toInt) 0 = true
        · obtain ⟨g1, r1, r2, r3, r4, r5⟩ := hA.rem (d + 6) ho
          obtain ⟨g2, k1, k2, k3⟩ := C_walkFrom (d + 5) r2 ho.1 ha hb
          have hY2 := (r3 _ i2).sF k3
          have hw2 := wf_walk ho.1 ha hb
          have hL2 : ∀ x ∈ f_way (fP (aF σ)) a b, x < fN (f_walk (aF σ) a b) := fun x hx => by rw [wk_N]; exact hL x hx
          obtain ⟨g3, l1, l2, l3⟩ := C_addToAll_5 (d + 5) k2 hw2 hY2 hL2 hl (f_way_nd ho.1 ha hb).1 (fun k u v hu hv => way_up ho.1 ha hb er hu hv) hz (by rw [hzn]; exact kw_tail ek (walk_wsC ho.1 ha hb er))
          rw [hzn] at l2
          rw [if_pos ek, if_neg q_110, if_pos ek, r1, bv_some, k1, bv_some, l1, bv_some, (hY2.sF l3).1, show (1 : Int32) = nI 1 from rfl, pk_sub (by omega)]
          exact ⟨g3, rfl, r5 _ _ (k3.tr l3) l2, ((i3.YA.askC.tr r4).tr k3.FC).tr l3.FC⟩
        · rw [if_neg ek, if_pos rfl, if_neg ek]
          exact ⟨g0, rfl, hA, i3.YA.askC⟩
      · rw [if_pos (by rw [nI_len0 (by omega)]; exact (way_len ho.1 ha hb).1.mpr er), if_neg er]
        exact ⟨g0, rfl, hA, i3.YA.askC⟩
    · rw [C_isWithin_f (d + 7) g ez, bi_some, if_pos rfl, if_neg ez]; exact ⟨g, rfl, h, m_fr.rf⟩
theorem dx_eM {F : fF} (hw : f_wf F) {a b : Nat} (ha : a < fN F) (hb : b < fN F) (hl : 2 ≤ (f_way (fP F) a b).length) : eM ((f_dx (wsL F a b)).1.map (fun _ => (f_dx (wsL F a b)).2)) = nI (f_dx (wsL F a b)).2 ∧ 1 ≤ (f_dx (wsL F a b)).2 ∧ (f_dx (wsL F a b)).2 ≤ 9999 := by
  obtain ⟨k, hk⟩ := f_dx_some (wsL F a b) (fun v hv => (wsL_pos hw ha hb v hv).1) (by rw [f_ws_len]; omega)
  have h1 := f_dx_lt (wsL F a b) k hk
  have h2 := wsL_pos hw ha hb _ (List.mem_of_getElem? h1.2)
  rw [hk]
  exact ⟨rfl, h2⟩
theorem A_cutDearest (d : Nat) (h : rA g σ) (ho : a_ok σ) (x y : Int32) : SimC (am_call (d + 9) 96 [.inr (.inr (0, 0)), .inl x, .inl y] g) g (o_cutDearest σ x y) := by
  rw [cC_cutDearest, eC_cutDearest_0]
  unfold o_cutDearest
  rcases tw2_cs _ ho.1.1 x y with ⟨h1, h2⟩ | ⟨a, b, ha, hb, rfl, rfl, h3⟩
  · rw [h1, C_hasBoth_f (d + 6) h.2.1 ho.1 h2, bi_some, if_pos rfl]; exact ⟨g, rfl, h, m_fr.rf⟩
  · obtain ⟨g0, i1, i2, i3⟩ := C_lay (w := 0) (d + 5) h.2.1 ho.1 ha hb
    have hl := (f_way_nd ho.1 ha hb).2
    have hA := h.ask i3.YA
    have hL := f_way_lt ho.1.2.1 ho.1.1 ha hb
    have wl := way_len ho.1 ha hb
    rw [h3, C_hasBoth_t (d + 6) h.2.1 ho.1 ha hb, bi_some, if_neg q_110, i1, bv_some, i2.1, show (2 : Int32) = nI 2 from rfl]
    dsimp only
    by_cases e : f_r (fP (aF σ)) a = f_r (fP (aF σ)) b ∧ a ≠ b
    · have e2 : 2 ≤ (f_way (fP (aF σ)) a b).length := by
        have q0 : ¬ (f_way (fP (aF σ)) a b).length = 0 := fun q => wl.1.mp q e.1
        have q1 : ¬ (f_way (fP (aF σ)) a b).length = 1 := fun q => e.2 (wl.2.mp q)
        omega
      obtain ⟨g1, r1, r2, r3, r4, r5⟩ := hA.rem (d + 6) ho
      obtain ⟨g2, k1, k2, k3⟩ := C_walkFrom (d + 5) r2 ho.1 ha hb
      have hY2 := (r3 _ i2).sF k3
      have hw2 := wf_walk ho.1 ha hb
      have hL2 : ∀ x ∈ f_way (fP (aF σ)) a b, x < fN (f_walk (aF σ) a b) := fun x hx => by rw [wk_N]; exact hL x hx
      obtain ⟨g3, l1, l2, l3⟩ := C_cutDearestLink (d + 3) k2 hw2 hY2 hL2 hl (walk_lks ho.1 ha hb e.1)
      rw [if_pos (nI_le e2 (by omega)), if_pos e, C_dearestLength (d + 4) hA.2.1 ho.1 i2 hL hl (f_way_lks ho.1.2.1 ho.1.1 ha hb), bi_some, r1, bv_some, k1, bv_some, l1, bv_some, (dx_eM ho.1 ha hb e2).1]
      exact ⟨g3, rfl, r5 _ _ (k3.tr l3) l2, ((i3.YA.askC.tr r4).tr k3.FC).tr l3.FC⟩
    · have e2 : ¬ 2 ≤ (f_way (fP (aF σ)) a b).length := fun q => e ⟨by
        by_cases er : f_r (fP (aF σ)) a = f_r (fP (aF σ)) b
        · exact er
        · have := wl.1.mpr er; omega, fun q1 => by have := wl.2.mpr q1; omega⟩
      rw [if_neg (nI_ge (by omega) (by omega)), if_neg e]
      exact ⟨g0, rfl, hA, i3.YA.askC⟩
theorem way_walk (ho : f_wf (aF σ)) {a b : Nat} (ha : a < fN (aF σ)) (hb : b < fN (aF σ)) (hr : f_r (fP (aF σ)) a = f_r (fP (aF σ)) b) : f_ws (fP (f_walk (aF σ) a b)) (fL (f_walk (aF σ) a b)) (f_way (fP (aF σ)) a b) = wsL (aF σ) a b := by
  rw [walk_ws ho ha hb hr, walk_wsL ho ha hb hr]
theorem A_undo (d : Nat) (h : rA g σ) : SimC (am_call (d + 9) 123 [.inr (.inr (0, 0))] g) g (o_undo σ) := by
  rw [cC_undo, eC_undo_0]
  unfold o_undo
  obtain ⟨h1, h2, ⟨b, h3⟩, h4, h5, h6, h7, h8⟩ := h
  rcases List.eq_nil_or_concat (aU σ) with e | ⟨U, G, e⟩
  · have h4' := h4
    rw [e] at h4'
    rw [C_goBack_none (d + 6) h4', bi_some, if_pos rfl, e]
    exact ⟨g, rfl, ⟨h1, h2, ⟨b, h3⟩, h4, h5, h6, h7, h8⟩, m_fr.rf⟩
  · have h4' := h4
    rw [e, List.concat_eq_append] at h4'
    obtain ⟨g1, k1, k2, k3, k4, k5⟩ := C_goBack (d + 6) h4'
    have z : ∀ c, (c = 100 ∨ c = 13 ∨ c = 9 ∨ c = 101 ∨ (104 ≤ c ∧ c ≤ 106) ∨ c = 19 ∨ c = 120 ∨ c = 108 ∨ c = 109) → ¬ (sF 0 c 0 ∨ (c = 118 ∧ 0 = 0)) := fun c hc q => by
      unfold sF at q
      omega
    have es : g1 118 0 0 = nI U.length := by obtain ⟨-, o, -, -, q, -⟩ := k2; exact q
    have e1 : (aU σ).getLast? = some G := by rw [e, List.concat_eq_append]; simp
    have e2 : (aU σ).dropLast = U := by rw [e, List.concat_eq_append]; simp
    have e3 : (aU σ).length - 1 = U.length := by rw [e, List.concat_eq_append]; simp
    rw [k1, bi_some, if_neg q_110, e1, es]
    dsimp only
    rw [e2, e3]
    exact ⟨g1, rfl, ⟨h1.fr k5 (z _ (by omega)) (z _ (by omega)), k3, ⟨b, h3.fr k5 (fun c hc => z _ (by omega))⟩, k2, h5.fr k5 (z _ (by omega)) (fun c hc q => by unfold sF at q; omega), h6.fr k5 (z _ (by omega)) (z _ (by omega)), by rw [k5 108 0 (z _ (by omega))]; exact h7, by rw [k5 109 0 (z _ (by omega))]; exact h8⟩, k5.mono fun c j q => by unfold sF at q; show c ≤ 28 ∨ (100 ≤ c ∧ c ≤ 129); omega⟩
theorem A_keep (d : Nat) (h : rA g σ) (ho : a_ok σ) : SimC (am_call (d + 9) 124 [.inr (.inr (0, 0))] g) g (o_keep σ) := by
  rw [cC_keep, eC_keep_0]
  unfold o_keep
  obtain ⟨h1, h2, ⟨b, h3⟩, h4, h5, h6, h7, h8⟩ := h
  obtain ⟨g1, k1, k2, k3⟩ := C_copyFrom (i := 2) (j := 0) (d + 7) h2 ho.1 (by omega)
  have hf : m_fr (fun c j => sF 2 c j ∨ (c = 101 ∧ j = 0)) g (am_put g1 101 0 (1 : Int32)) := (k3.mono fun c j q => Or.inl q).put (Or.inr ⟨rfl, rfl⟩)
  have z : ∀ c, c ≠ 101 → ¬ (sF 2 c 0 ∨ (c = 101 ∧ 0 = 0)) := fun c hc q => by
    unfold sF at q
    omega
  have hF : rC (am_put g1 101 0 (1 : Int32)) 0 (aF σ) := h2.cg fun c hc => hf c 0 (z _ (by omega))
  rw [k1, bv_some, C_trees (d + 7) hF ho.1, bi_some]
  refine ⟨_, rfl, ⟨h1.fr hf (z _ (by omega)) (z _ (by omega)), hF, ⟨b, h3.fr hf (fun c hc => z _ (by omega))⟩, h4.fr hf (z _ (by omega)) (z _ (by omega)) (fun c j _ _ hc q => by unfold sF at q; unfold fc at hc; omega), ⟨m_put _ _ _ _ _, fun G hG => ?_⟩, h6.fr hf (z _ (by omega)) (z _ (by omega)), by rw [hf 108 0 (z _ (by omega))]; exact h7, by rw [hf 109 0 (z _ (by omega))]; exact h8⟩, hf.mono fun c j q => by unfold sF at q; show c ≤ 28 ∨ (100 ≤ c ∧ c ≤ 129); omega⟩
  cases hG
  exact k2.cg fun c hc => m_put_ne (by omega)
theorem A_back (d : Nat) (h : rA g σ) (ho : a_ok σ) : SimC (am_call (d + 9) 125 [.inr (.inr (0, 0))] g) g (o_back σ) := by
  rw [cC_back, eC_back_0]
  unfold o_back
  obtain ⟨h1, h2, ⟨b, h3⟩, h4, h5, h6, h7, h8⟩ := h
  cases hI : aI σ with
  | none =>
    rw [h5.1, hI, if_pos (show b01 (none : Option fF).isSome = 0 from rfl)]
    exact ⟨g, rfl, ⟨h1, h2, ⟨b, h3⟩, h4, h5, h6, h7, h8⟩, m_fr.rf⟩
  | some G =>
    obtain ⟨hG, -⟩ := ho.2.2.2.1 G hI
    obtain ⟨g1, k1, k2, k3⟩ := C_copyFrom (i := 0) (j := 2) (d + 7) (h5.2 G hI) hG (by omega)
    obtain ⟨g2, l1, l2, l3⟩ := C_forget (g := g1) (d + 7)
    have hf : m_fr (fun c j => sF 0 c j ∨ (j = 0 ∧ (c = 117 ∨ c = 118))) g g2 := (k3.mono fun c j q => Or.inl q).tr (l3.mono fun c j q => Or.inr q)
    have z : ∀ c, (c = 100 ∨ c = 13 ∨ c = 9 ∨ c = 101 ∨ (104 ≤ c ∧ c ≤ 106) ∨ c = 19 ∨ c = 120 ∨ c = 108 ∨ c = 109) → ¬ (sF 0 c 0 ∨ (0 = 0 ∧ (c = 117 ∨ c = 118))) := fun c hc q => by
      unfold sF at q
      omega
    have hF : rC g2 0 G := k2.fr l3 (fun c hc => by have := hc.2; omega)
    rw [h5.1, hI, if_neg (show ¬ b01 (some G).isSome = 0 from q_110), k1, bv_some, l1, bv_some, C_trees (d + 7) hF hG, bi_some]
    have h5' : rI g2 (some G) := by
      rw [hI] at h5
      exact h5.fr hf (z _ (by omega)) (fun c hc q => by unfold sF at q; omega)
    exact ⟨g2, rfl, ⟨h1.fr hf (z _ (by omega)) (z _ (by omega)), hF, ⟨b, h3.fr hf (fun c hc => z _ (by omega))⟩, l2, h5', h6.fr hf (z _ (by omega)) (z _ (by omega)), by rw [hf 108 0 (z _ (by omega))]; exact h7, by rw [hf 109 0 (z _ (by omega))]; exact h8⟩, hf.mono fun c j q => by unfold sF at q; show c ≤ 28 ∨ (100 ≤ c ∧ c ≤ 129); omega⟩
end AA
