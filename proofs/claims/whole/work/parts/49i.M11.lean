/-! ===== the model: what is asked ===== -/
section MM
variable {g : am_G} {σ : aS}
theorem P_thrown (d : Nat) (g : am_G) : am_call (d + 9) 132 [.inr (.inr (29, 0))] g = some (some (.inl (g 131 0 0)), g) := by
  rw [cM_thrown, eM_thrown_0]
theorem P_fault (d : Nat) (h : rMo g σ) (x : Int32) : SimM (am_call (d + 9) 164 [.inr (.inr (29, 0)), .inl x] g) g (w_fault σ x, σ) := by
  have h0 := h.put131 0
  rw [cM_fault, eM_fault_0, h0.2.2.2.2.2.2.1.1, h0.2.2.2.2.2.2.1.2]
  unfold w_fault
  refine ⟨_, ?_, h0, m131⟩
  split
  · rfl
  · split <;> rfl
theorem P_nameAt33 (d : Nat) {L : List Int32} (hl : L.length ≤ 24) (hL : ∀ (k : Nat) (x : Int32), L[k]? = some x → g 33 0 k = x) (x : Int32) : am_call (d + 1) 155 [.inl x, .inr (.inr (33, 0)), .inl (nI L.length)] g = some (some (.inl (eC (n_find L x))), g) := by
  rw [cM_nameAt_33, eM_nameAt_33_0]
  have := for_find (fun k t => am_run (am_call d) 155 k 2 [some (.inl x), some (.inr (.inr (33, 0))), some (.inl (nI L.length)), some (.inl (nI t))] [] g) L.length (fun t => decide (L[t]? = some x)) (fun t => some (some (.inl (nI t)), g)) (some (some (.inl (-1)), g)) (fun k t ht => by
    obtain ⟨y, hy⟩ : ∃ y, L[t]? = some y := ⟨_, List.getElem?_eq_getElem ht⟩
    rw [eM_nameAt_33_2, if_neg (nI_ge ht (by omega)), q_c24 hl ht, cond_true, nI_clamp (by omega), hL t y hy, nI_1, hy]
    by_cases hyx : y = x
    · rw [if_pos hyx, if_pos (by rw [hyx]; simp)]
    · rw [if_neg hyx, if_neg (by simpa using hyx)]) (fun k => by
    rw [eM_nameAt_33_2, if_pos (nI_le (Nat.le_refl _) (by omega))]) L.length 0 99999 (by omega) (by omega)
  refine Eq.trans this ?_
  unfold n_find
  cases ff (fun t => decide (L[t]? = some x)) 0 L.length with
  | none => rfl
  | some t => rfl
theorem P_nameAt34 (d : Nat) {L : List Int32} (hl : L.length ≤ 24) (hL : ∀ (k : Nat) (x : Int32), L[k]? = some x → g 34 0 k = x) (x : Int32) : am_call (d + 1) 155 [.inl x, .inr (.inr (34, 0)), .inl (nI L.length)] g = some (some (.inl (eC (n_find L x))), g) := by
  rw [cM_nameAt_34, eM_nameAt_34_0]
  have := for_find (fun k t => am_run (am_call d) 155 k 2 [some (.inl x), some (.inr (.inr (34, 0))), some (.inl (nI L.length)), some (.inl (nI t))] [] g) L.length (fun t => decide (L[t]? = some x)) (fun t => some (some (.inl (nI t)), g)) (some (some (.inl (-1)), g)) (fun k t ht => by
    obtain ⟨y, hy⟩ : ∃ y, L[t]? = some y := ⟨_, List.getElem?_eq_getElem ht⟩
    rw [eM_nameAt_34_2, if_neg (nI_ge ht (by omega)), q_c24 hl ht, cond_true, nI_clamp (by omega), hL t y hy, nI_1, hy]
    by_cases hyx : y = x
    · rw [if_pos hyx, if_pos (by rw [hyx]; simp)]
    · rw [if_neg hyx, if_neg (by simpa using hyx)]) (fun k => by
    rw [eM_nameAt_34_2, if_pos (nI_le (Nat.le_refl _) (by omega))]) L.length 0 99999 (by omega) (by omega)
  refine Eq.trans this ?_
  unfold n_find
  cases ff (fun t => decide (L[t]? = some x)) 0 L.length with
  | none => rfl
  | some t => rfl
theorem P_named (d : Nat) (h : rMo g σ) (ho : a_ok σ) (x : Int32) : SimM (am_call (d + 9) 165 [.inr (.inr (29, 0)), .inl x] g) g (w_named σ x, σ) := by
  have h0 := h.put131 0
  have hl : (aL σ).length ≤ 24 := by rw [← ho.2.1]; exact ho.1.1
  rw [cM_named, eM_named_0, h0.2.1.2.2.2, ho.2.1, P_nameAt33 (d + 7) hl h0.2.2.1.1, bi_some]
  exact ⟨_, rfl, h0, m131⟩
theorem P_seen (d : Nat) (h : rMo g σ) (ho : a_ok σ) (x : Int32) : SimM (am_call (d + 9) 184 [.inr (.inr (29, 0)), .inl x] g) g (w_seen σ x, σ) := by
  have h0 := h.put131 0
  rw [cM_seen, eM_seen_0]
  unfold w_seen
  by_cases e : 0 ≤ x ∧ x < 9
  · obtain ⟨t, ht, rfl⟩ : ∃ t, t < 9 ∧ x = nI t := (q_town x (n := 9) (by omega)).resolve_left (fun q => q e)
    rw [M_isIn_t (d + 7) _ (show (0 : Int32) ≤ nI t ∧ nI t ≤ 8 from ⟨e.1, nI_le (b := 8) (by omega) (by omega)⟩), bi_some, if_neg q_110, h0.2.2.2.2.2.1.1, if_pos e]
    cases hV : aV σ with
    | none => rw [if_pos (show b01 (none : Option (List Int32)).isSome = 0 from rfl)]; exact ⟨_, rfl, h0, m131⟩
    | some l =>
      have hl := ho.2.2.2.2.2.2.2 l hV
      have hg := List.getElem?_eq_getElem (l := l) (i := t) (by omega)
      rw [if_neg (show ¬ b01 (some l).isSome = 0 from q_110), q_in ht (by omega), cond_true, nI_clamp (by omega), h0.2.2.2.2.2.1.2 l hV t _ hg]
      dsimp only
      rw [List.getD_eq_getElem?_getD, hg]
      exact ⟨_, rfl, h0, m131⟩
  · rw [M_isIn_f (d + 7) _ (fun q => e ⟨q.1, by
      have := (q_le _ _).mp q.2
      rw [q_lt]
      rw [show (8 : Int32).toInt = 8 from rfl] at this
      rw [show (9 : Int32).toInt = 9 from rfl]
      omega⟩), bi_some, if_pos rfl, if_neg e]; exact ⟨_, rfl, h0, m131⟩
theorem P_together (d : Nat) (h : rMo g σ) (ho : a_ok σ) (x y : Int32) : SimM (am_call (d + 9) 204 [.inr (.inr (29, 0)), .inl x, .inl y] g) g (w_together (aF σ) x y, σ) := by
  have h0 := h.put131 0
  rw [cM_together, eM_together_0]
  unfold w_together
  rcases tw2_cs _ ho.1.1 x y with ⟨h1, h2⟩ | ⟨a, b, ha, hb, rfl, rfl, h3⟩
  · rw [h1, M_areTowns_f (d + 5) h0.2.1.2.2.2 ho.1.1 h2, bi_some, if_pos rfl]; exact ⟨_, rfl, h0, m131⟩
  · rw [h3, M_areTowns_t (d + 5) h0.2.1.2.2.2 ho.1.1 (isT_n ho.1.1 ha) (isT_n ho.1.1 hb), bi_some, if_neg q_110, M_areTogether (d + 4) h0.2.1 ho.1 ha hb, bi_some]
    dsimp only
    by_cases er : f_r (fP (aF σ)) a = f_r (fP (aF σ)) b
    · rw [if_pos er, if_neg q_110]; exact ⟨_, rfl, h0, m131⟩
    · rw [if_neg er, if_pos rfl]; exact ⟨_, rfl, h0, m131⟩
theorem P_far (d : Nat) (h : rMo g σ) (ho : a_ok σ) (x y : Int32) : SimM (am_call (d + 9) 207 [.inr (.inr (29, 0)), .inl x, .inl y] g) g (w_far (aF σ) x y, σ) := by
  have h0 := h.put131 0
  rw [cM_far, eM_far_0]
  unfold w_far
  rcases tw2_cs _ ho.1.1 x y with ⟨h1, h2⟩ | ⟨a, b, ha, hb, rfl, rfl, h3⟩
  · rw [h1, M_areTowns_f (d + 5) h0.2.1.2.2.2 ho.1.1 h2, bi_some, if_pos rfl]; exact ⟨_, rfl, h0, m131⟩
  · rw [h3, M_areTowns_t (d + 5) h0.2.1.2.2.2 ho.1.1 (isT_n ho.1.1 ha) (isT_n ho.1.1 hb), bi_some, if_neg q_110, M_areTogether (d + 4) h0.2.1 ho.1 ha hb, bi_some]
    dsimp only
    by_cases er : f_r (fP (aF σ)) a = f_r (fP (aF σ)) b
    · rw [if_pos er, if_neg q_110, M_farOf (d + 3) h0.2.1 ho.1 ha hb er, bi_some, if_pos er]; exact ⟨_, rfl, h0, m131⟩
    · rw [if_neg er, if_pos rfl, if_neg er]; exact ⟨_, rfl, h0, m131⟩
theorem P_meets (d : Nat) (h : rMo g σ) (ho : a_ok σ) (x y : Int32) : SimM (am_call (d + 9) 208 [.inr (.inr (29, 0)), .inl x, .inl y] g) g (w_meets (aF σ) x y, σ) := by
  have h0 := h.put131 0
  rw [cM_meets, eM_meets_0]
  unfold w_meets
  rcases tw2_cs _ ho.1.1 x y with ⟨h1, h2⟩ | ⟨a, b, ha, hb, rfl, rfl, h3⟩
  · rw [h1, M_areTowns_f (d + 5) h0.2.1.2.2.2 ho.1.1 h2, bi_some, if_pos rfl]; exact ⟨_, rfl, h0, m131⟩
  · rw [h3, M_areTowns_t (d + 5) h0.2.1.2.2.2 ho.1.1 (isT_n ho.1.1 ha) (isT_n ho.1.1 hb), bi_some, if_neg q_110, M_areTogether (d + 4) h0.2.1 ho.1 ha hb, bi_some]
    dsimp only
    by_cases er : f_r (fP (aF σ)) a = f_r (fP (aF σ)) b
    · rw [if_pos er, if_neg q_110, M_meetOf (d + 4) h0.2.1 ho.1 ha hb er, bi_some]; exact ⟨_, rfl, h0, m131⟩
    · rw [if_neg er, if_pos rfl, f_m_none ho.1.2.1 ho.1.1 ha hb er]; exact ⟨_, rfl, h0, m131⟩
theorem P_heavy (d : Nat) (h : rMo g σ) (ho : a_ok σ) (x : Int32) : SimM (am_call (d + 9) 219 [.inr (.inr (29, 0)), .inl x] g) g (w_heavy (aF σ) x, σ) := by
  have h0 := h.put131 0
  rw [cM_heavy, eM_heavy_0]
  unfold w_heavy
  rcases tw_cs _ ho.1.1 x with ⟨h1, h2⟩ | ⟨t, ht, rfl, h3⟩
  · rw [h1, M_isTown_f (d + 6) h0.2.1.2.2.2 ho.1.1 h2, bi_some, if_pos rfl]; exact ⟨_, rfl, h0, m131⟩
  · rw [h3, M_isTown_t (d + 6) h0.2.1.2.2.2 ho.1.1 (isT_n ho.1.1 ht), bi_some, if_neg q_110, M_heavyOf (d + 3) h0.2.1 ho.1 ht, bi_some]; exact ⟨_, rfl, h0, m131⟩
theorem P_potential (d : Nat) (h : rMo g σ) (ho : a_ok σ) : SimM (am_call (d + 9) 221 [.inr (.inr (29, 0))] g) g (nI (f_po (aF σ)), σ) := by
  have h0 := h.put131 0
  rw [cM_potential, eM_potential_0, M_potentialNow (d + 2) h0.2.1 ho.1, bi_some]; exact ⟨_, rfl, h0, m131⟩
theorem P_would (d : Nat) (h : rMo g σ) (ho : a_ok σ) (x : Int32) : SimM (am_call (d + 9) 222 [.inr (.inr (29, 0)), .inl x] g) g (w_would (aF σ) x, σ) := by
  have h0 := h.put131 0
  rw [cM_would, eM_would_0]
  unfold w_would
  rcases tw_cs _ ho.1.1 x with ⟨h1, h2⟩ | ⟨t, ht, rfl, h3⟩
  · rw [h1, M_isTown_f (d + 6) h0.2.1.2.2.2 ho.1.1 h2, bi_some, if_pos rfl]; exact ⟨_, rfl, h0, m131⟩
  · rw [h3, M_isTown_t (d + 6) h0.2.1.2.2.2 ho.1.1 (isT_n ho.1.1 ht), bi_some, if_neg q_110, M_would1 (d + 5) h0.2.1 ho.1 ht, bi_some]; exact ⟨_, rfl, h0, m131⟩
theorem P_parts (d : Nat) (h : rMo g σ) (ho : a_ok σ) (x : Int32) : SimM (am_call (d + 9) 227 [.inr (.inr (29, 0)), .inl x] g) g (w_parts (aF σ) x, σ) := by
  have h0 := h.put131 0
  rw [cM_parts, eM_parts_0]
  unfold w_parts
  by_cases e : 0 ≤ x ∧ x ≤ 9999
  · have hq := q_clamp (lo := 0) (hi := 9999) (by omega) (by omega) e
    have hp := M_partsOf (d + 5) h0.2.1 ho.1 (K := x.toNatClampNeg) (by omega)
    rw [← hq.1] at hp
    rw [M_isIn_t (d + 7) _ e, bi_some, if_neg q_110, hp, bi_some, if_pos e]; exact ⟨_, rfl, h0, m131⟩
  · rw [M_isIn_f (d + 7) _ e, bi_some, if_pos rfl, if_neg e]; exact ⟨_, rfl, h0, m131⟩
theorem P_order (d : Nat) (h : rMo g σ) (ho : a_ok σ) (x z : Int32) : SimM (am_call (d + 9) 212 [.inr (.inr (29, 0)), .inl x, .inl z] g) g (w_order (aF σ) x z, σ) := by
  have h0 := h.put131 0
  rw [cM_order, eM_order_0]
  unfold w_order
  rcases tw_cs _ ho.1.1 x with ⟨h1, h2⟩ | ⟨t, ht, rfl, h3⟩
  · rw [h1, M_isTown_f (d + 6) h0.2.1.2.2.2 ho.1.1 h2, bi_some, if_pos rfl]; exact ⟨_, rfl, h0, m131⟩
  · rw [h3, M_isTown_t (d + 6) h0.2.1.2.2.2 ho.1.1 (isT_n ho.1.1 ht), bi_some, if_neg q_110]
    dsimp only
    by_cases e : 0 ≤ z
    · obtain ⟨hr1, hr2, -⟩ := f_r_lt ho.1.2.1 ho.1.1 t ht
      have hl : (f_or (aF σ) (f_r (fP (aF σ)) t)).length ≤ 24 := Nat.le_trans (f_or_len ho.1 hr1) ho.1.1
      have e0 : (f_or (aF σ) (f_r (fP (aF σ)) t))[0]? = some (f_r (fP (aF σ)) t) := by rw [f_or_eq ho.1 hr1]; rfl
      have := M_order_loop (d + 4) h0.2.1 ho.1 hr1 hr2 (nI t) z (f_or (aF σ) (f_r (fP (aF σ)) t)).length 0 99999 (by omega) (by omega) (by have := (q_le _ _).mp e; rw [Int32.toInt_zero] at this; exact this)
      rw [e0, eC_some] at this
      rw [if_pos e, M_rootOf (d + 5) h0.2.1 ho.1 ht, bi_some, if_pos e]
      exact ⟨_, this, h0, m131⟩
    · rw [if_neg e, if_neg e]; exact ⟨_, rfl, h0, m131⟩
theorem P_place (d : Nat) (h : rMo g σ) (ho : a_ok σ) (x : Int32) : SimM (am_call (d + 9) 213 [.inr (.inr (29, 0)), .inl x] g) g (w_place (aF σ) x, σ) := by
  have h0 := h.put131 0
  rw [cM_place, eM_place_0]
  unfold w_place
  rcases tw_cs _ ho.1.1 x with ⟨h1, h2⟩ | ⟨t, ht, rfl, h3⟩
  · rw [h1, M_isTown_f (d + 6) h0.2.1.2.2.2 ho.1.1 h2, bi_some, if_pos rfl]; exact ⟨_, rfl, h0, m131⟩
  · obtain ⟨hr1, hr2, -⟩ := f_r_lt ho.1.2.1 ho.1.1 t ht
    have hl : (f_or (aF σ) (f_r (fP (aF σ)) t)).length ≤ 24 := Nat.le_trans (f_or_len ho.1 hr1) ho.1.1
    have e0 : (f_or (aF σ) (f_r (fP (aF σ)) t))[0]? = some (f_r (fP (aF σ)) t) := by rw [f_or_eq ho.1 hr1]; rfl
    have := M_place_loop (d + 4) h0.2.1 ho.1 hr1 hr2 ht ((or_iff ho.1 hr1 hr2 t).mpr ⟨ht, rfl⟩) (f_or (aF σ) (f_r (fP (aF σ)) t)).length 0 99999 (by omega) (by omega) (fun j hj => by omega)
    rw [e0, eC_some] at this
    rw [h3, M_isTown_t (d + 6) h0.2.1.2.2.2 ho.1.1 (isT_n ho.1.1 ht), bi_some, if_neg q_110, M_rootOf (d + 5) h0.2.1 ho.1 ht, bi_some]
    exact ⟨_, this, h0, m131⟩
theorem P_midst (d : Nat) (h : rMo g σ) (ho : a_ok σ) (x : Int32) : SimM (am_call (d + 9) 225 [.inr (.inr (29, 0)), .inl x] g) g (w_midst (aF σ) x, σ) := by
  have h0 := h.put131 0
  have hw := ho.1
  have hn := hw.1
  rw [cM_midst, eM_midst_0]
  unfold w_midst
  rcases tw_cs _ ho.1.1 x with ⟨h1, h2⟩ | ⟨t, ht, rfl, h3⟩
  · rw [h1, M_isTown_f (d + 6) h0.2.1.2.2.2 ho.1.1 h2, bi_some, if_pos rfl]; exact ⟨_, rfl, h0, m131⟩
  · rw [h3, M_isTown_t (d + 6) h0.2.1.2.2.2 ho.1.1 (isT_n ho.1.1 ht), bi_some, if_neg q_110]
    refine ⟨am_put g 131 0 (0 : Int32), ?_, h0, m131⟩
    exact (for_inv (fun k (best : Option Nat) (_ : Option am_V) c => am_run (am_call (d + 8)) 225 k 13 [some (.inr (.inr (29, 0))), some (.inl (nI t)), some (.inl (eC best)), some (.inl (nI c))] [] (am_put g 131 0 (0 : Int32))) (fN (aF σ)) (fun best c => if f_r (fP (aF σ)) c = f_r (fP (aF σ)) t ∧ (∀ b, best = some b → f_gw (aF σ) c < f_gw (aF σ) b) then some c else best) (fun best => some (some (.inl (eC best)), am_put g 131 0 (0 : Int32))) (fun best _ => ∀ b, best = some b → b < fN (aF σ)) (fun k best o c hc hi => by
      have hgc := f_gw_le hw c
      refine ⟨⟨none, ?_⟩, fun b hb => ?_⟩
      · rw [eM_midst_13, h0.2.1.2.2.2, if_neg (nI_ge hc (by omega)), M_areTogether (d + 4) h0.2.1 hw hc ht, bi_some, nI_1]
        by_cases e1 : f_r (fP (aF σ)) c = f_r (fP (aF σ)) t
        · rw [if_pos e1, if_neg q_110]
          cases best with
          | none => rw [eC_none, if_pos (by decide), if_pos ⟨e1, fun b hb => by cases hb⟩]; rfl
          | some b =>
            have hbn := hi b rfl
            have hgb := f_gw_le hw b
            rw [eC_some, if_neg (q_nn (q24 hn hbn)), M_greatestWithout (d + 3) h0.2.1 hw hc, bi_some, M_greatestWithout (d + 3) h0.2.1 hw hbn, bi_some]
            by_cases e2 : f_gw (aF σ) c < f_gw (aF σ) b
            · rw [if_neg (nI_ge e2 (by omega)), if_pos ⟨e1, fun b' hb' => by cases hb'; exact e2⟩]; rfl
            · rw [if_pos (nI_le (by omega) (by omega)), if_neg (fun q => e2 (q.2 b rfl))]; rfl
        · rw [if_neg e1, if_pos rfl, if_neg (fun q => e1 q.1)]
      · split at hb
        · cases hb; exact hc
        · exact hi b hb) (fun k best o _ => by
      rw [eM_midst_13, h0.2.1.2.2.2, if_pos (nI_le (Nat.le_refl _) (by omega))]) (m := fN (aF σ)) (t := 0) (b := none) (o := none) (k := 99999) (by omega) (by omega) (fun b hb => by cases hb)).1
theorem P_tightest (d : Nat) (h : rMo g σ) (ho : a_ok σ) (x : Int32) : SimM (am_call (d + 9) 217 [.inr (.inr (29, 0)), .inl x] g) g (w_tightest (aF σ) x, σ) := by
  have h0 := h.put131 0
  have hw := ho.1
  have hn := hw.1
  rw [cM_tightest, eM_tightest_0]
  unfold w_tightest
  rcases tw_cs _ ho.1.1 x with ⟨h1, h2⟩ | ⟨t, ht, rfl, h3⟩
  · rw [h1, M_isTown_f (d + 6) h0.2.1.2.2.2 ho.1.1 h2, bi_some, if_pos rfl]; exact ⟨_, rfl, h0, m131⟩
  · rw [h3, M_isTown_t (d + 6) h0.2.1.2.2.2 ho.1.1 (isT_n ho.1.1 ht), bi_some, if_neg q_110]
    refine ⟨am_put g 131 0 (0 : Int32), ?_, h0, m131⟩
    exact (for_inv (fun k (best : Option Nat) (_ : Option am_V) c => am_run (am_call (d + 8)) 217 k 13 [some (.inr (.inr (29, 0))), some (.inl (nI t)), some (.inl (eM best)), some (.inl (nI c))] [] (am_put g 131 0 (0 : Int32))) (fN (aF σ)) (fun best c => if fP (aF σ) c ≠ none ∧ f_r (fP (aF σ)) c = f_r (fP (aF σ)) t ∧ (∀ b, best = some b → decide (fC (aF σ) c < fC (aF σ) b) = true) then some c else best) (fun best => some (some (.inl (eM best)), am_put g 131 0 (0 : Int32))) (fun best _ => ∀ b, best = some b → b < fN (aF σ) ∧ fP (aF σ) b ≠ none) (fun k best o c hc hi => by
      refine ⟨⟨none, ?_⟩, fun b hb => ?_⟩
      · rw [eM_tightest_13, h0.2.1.2.2.2, if_neg (nI_ge hc (by omega)), M_parent (d + 6) h0.2.1 hn hc, bi_some, nI_1]
        by_cases hp : fP (aF σ) c = none
        · rw [if_pos ((eM_neg (hw.p31 hc)).mpr hp), if_neg (fun q => q.1 hp)]
        · rw [if_neg (fun q => hp ((eM_neg (hw.p31 hc)).mp q)), M_areTogether (d + 4) h0.2.1 hw hc ht, bi_some]
          by_cases e1 : f_r (fP (aF σ)) c = f_r (fP (aF σ)) t
          · rw [if_pos e1, if_neg q_110]
            cases best with
            | none => rw [eM_none, if_pos (by decide), if_pos ⟨hp, e1, fun b hb => by cases hb⟩]; rfl
            | some b =>
              obtain ⟨hbn, hbp⟩ := hi b rfl
              have l1 := cap_some hw hc hp
              have l2 := cap_some hw hbn hbp
              rw [eM_some, if_neg (q_nn (q24 hn hbn)), M_ofC (d + 7) h0.2.1 hn hc, bi_some, M_ofC (d + 7) h0.2.1 hn hbn, bi_some, l1.1, l2.1]
              by_cases e2 : fC (aF σ) c < fC (aF σ) b
              · rw [if_neg (nI_ge e2 (by omega)), if_pos ⟨hp, e1, fun b' hb' => by cases hb'; exact decide_eq_true e2⟩]; rfl
              · rw [if_pos (nI_le (by omega) (by omega)), if_neg (fun q => e2 (of_decide_eq_true (q.2.2 b rfl)))]; rfl
          · rw [if_neg e1, if_pos rfl, if_neg (fun q => e1 q.2.1)]
      · split at hb
        · rename_i hq; cases hb; exact ⟨hc, hq.1⟩
        · exact hi b hb) (fun k best o _ => by
      rw [eM_tightest_13, h0.2.1.2.2.2, if_pos (nI_le (Nat.le_refl _) (by omega))]) (m := fN (aF σ)) (t := 0) (b := none) (o := none) (k := 99999) (by omega) (by omega) (fun b hb => by cases hb)).1
theorem P_dearest (d : Nat) (h : rMo g σ) (ho : a_ok σ) (x : Int32) : SimM (am_call (d + 9) 228 [.inr (.inr (29, 0)), .inl x] g) g (w_dearest (aF σ) x, σ) := by
  have h0 := h.put131 0
  have hw := ho.1
  have hn := hw.1
  rw [cM_dearest, eM_dearest_0]
  unfold w_dearest
  rcases tw_cs _ ho.1.1 x with ⟨h1, h2⟩ | ⟨t, ht, rfl, h3⟩
  · rw [h1, M_isTown_f (d + 6) h0.2.1.2.2.2 ho.1.1 h2, bi_some, if_pos rfl]; exact ⟨_, rfl, h0, m131⟩
  · rw [h3, M_isTown_t (d + 6) h0.2.1.2.2.2 ho.1.1 (isT_n ho.1.1 ht), bi_some, if_neg q_110]
    refine ⟨am_put g 131 0 (0 : Int32), ?_, h0, m131⟩
    exact (for_inv (fun k (best : Option Nat) (_ : Option am_V) c => am_run (am_call (d + 8)) 228 k 13 [some (.inr (.inr (29, 0))), some (.inl (nI t)), some (.inl (eM best)), some (.inl (nI c))] [] (am_put g 131 0 (0 : Int32))) (fN (aF σ)) (fun best c => if fP (aF σ) c ≠ none ∧ f_r (fP (aF σ)) c = f_r (fP (aF σ)) t ∧ (∀ b, best = some b → decide (fL (aF σ) b < fL (aF σ) c) = true) then some c else best) (fun best => some (some (.inl (eM best)), am_put g 131 0 (0 : Int32))) (fun best _ => ∀ b, best = some b → b < fN (aF σ) ∧ fP (aF σ) b ≠ none) (fun k best o c hc hi => by
      refine ⟨⟨none, ?_⟩, fun b hb => ?_⟩
      · rw [eM_dearest_13, h0.2.1.2.2.2, if_neg (nI_ge hc (by omega)), M_parent (d + 6) h0.2.1 hn hc, bi_some, nI_1]
        by_cases hp : fP (aF σ) c = none
        · rw [if_pos ((eM_neg (hw.p31 hc)).mpr hp), if_neg (fun q => q.1 hp)]
        · rw [if_neg (fun q => hp ((eM_neg (hw.p31 hc)).mp q)), M_areTogether (d + 4) h0.2.1 hw hc ht, bi_some]
          by_cases e1 : f_r (fP (aF σ)) c = f_r (fP (aF σ)) t
          · rw [if_pos e1, if_neg q_110]
            cases best with
            | none => rw [eM_none, if_pos (by decide), if_pos ⟨hp, e1, fun b hb => by cases hb⟩]; rfl
            | some b =>
              obtain ⟨hbn, hbp⟩ := hi b rfl
              have l1 := len_some hw hc hp
              have l2 := len_some hw hbn hbp
              rw [eM_some, if_neg (q_nn (q24 hn hbn)), M_ofL (d + 7) h0.2.1 hn hc, bi_some, M_ofL (d + 7) h0.2.1 hn hbn, bi_some, l1.1, l2.1]
              by_cases e2 : fL (aF σ) b < fL (aF σ) c
              · rw [if_neg (nI_ge e2 (by omega)), if_pos ⟨hp, e1, fun b' hb' => by cases hb'; exact decide_eq_true e2⟩]; rfl
              · rw [if_pos (nI_le (by omega) (by omega)), if_neg (fun q => e2 (of_decide_eq_true (q.2.2 b rfl)))]; rfl
          · rw [if_neg e1, if_pos rfl, if_neg (fun q => e1 q.2.1)]
      · split at hb
        · rename_i hq; cases hb; exact ⟨hc, hq.1⟩
        · exact hi b hb) (fun k best o _ => by
      rw [eM_dearest_13, h0.2.1.2.2.2, if_pos (nI_le (Nat.le_refl _) (by omega))]) (m := fN (aF σ)) (t := 0) (b := none) (o := none) (k := 99999) (by omega) (by omega) (fun b hb => by cases hb)).1
end MM
