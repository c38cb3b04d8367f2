/-! ===== the model: town, above, along, room, the tape ===== -/
section MM
variable {g : am_G} {σ : aS} {F : fF}
theorem P_town_t (d : Nat) (h : rMo g σ) (ho : a_ok σ) {t : Nat} (ht : t < fN (aF σ)) (x : Int32) (hx : 0 ≤ x ∧ x < 10) : ∃ g', am_call (d + 9) 199 [.inr (.inr (29, 0)), .inl (nI t), .inl x] g = some (some (.inl (w_town (aF σ) t x)), g') ∧ rMo g' σ ∧ g' 131 0 0 = 0 ∧ m_fr sMd g g' := by
  have h0 := h.put131 0
  have hn := ho.1.1
  refine ⟨am_put g 131 0 (0 : Int32), ?_, h0, m_put _ _ _ _ _, m131⟩
  rw [cM_town, eM_town_0, M_isTown_t (d + 6) h0.2.1.2.2.2 hn (isT_n hn ht), bi_some, if_neg q_110, M_ofV (d + 7) h0.2.1 hn ht, M_parent (d + 6) h0.2.1 hn ht, M_prefers (d + 6) h0.2.1 hn ht, M_rootOf (d + 5) h0.2.1 ho.1 ht, M_depth (d + 5) h0.2.1 ho.1 ht, M_size (d + 4) h0.2.1 ho.1 ht, M_under (d + 4) h0.2.1 ho.1 ht, M_ofL (d + 7) h0.2.1 hn ht, M_ofC (d + 7) h0.2.1 hn ht, M_children (d + 5) h0.2.1 ho.1 ht]
  simp only [bi_some]
  unfold w_town
  obtain ⟨k, hk, rfl⟩ : ∃ k, k < 10 ∧ x = nI k := (q_town x (n := 10) (by omega)).resolve_left (fun q => q hx)
  have e9 : ∀ j : Nat, j < 10 → (nI k = nI j ↔ k = j) := fun j hj => nI_eq (by omega) (by omega)
  have hk : k = 0 ∨ k = 1 ∨ k = 2 ∨ k = 3 ∨ k = 4 ∨ k = 5 ∨ k = 6 ∨ k = 7 ∨ k = 8 ∨ k = 9 := by omega
  rcases hk with rfl | rfl | rfl | rfl | rfl | rfl | rfl | rfl | rfl | rfl <;> rfl
theorem P_town_1 (d : Nat) (h : rMo g σ) (ho : a_ok σ) {x : Int32} (hx : ¬ isT (fN (aF σ)) x) (y : Int32) : ∃ g', am_call (d + 9) 199 [.inr (.inr (29, 0)), .inl x, .inl y] g = some (some (.inl 0), g') ∧ rMo g' σ ∧ g' 131 0 0 = 1 ∧ m_fr sMd g g' := by
  have h0 := h.put131 0
  refine ⟨am_put (am_put g 131 0 (0 : Int32)) 131 0 (1 : Int32), ?_, h0.put131 1, m_put _ _ _ _ _, m131.tr (m_p131 1)⟩
  rw [cM_town, eM_town_0, M_isTown_f (d + 6) h0.2.1.2.2.2 ho.1.1 hx, bi_some, if_pos rfl, cM_fails, eM_fails_0, bi_some]
theorem P_town_2 (d : Nat) (h : rMo g σ) (ho : a_ok σ) {t : Nat} (ht : t < fN (aF σ)) {x : Int32} (hx : ¬ (0 ≤ x ∧ x < 10)) : ∃ g', am_call (d + 9) 199 [.inr (.inr (29, 0)), .inl (nI t), .inl x] g = some (some (.inl 0), g') ∧ rMo g' σ ∧ g' 131 0 0 = 2 ∧ m_fr sMd g g' := by
  have h0 := h.put131 0
  have hn := ho.1.1
  refine ⟨am_put (am_put g 131 0 (0 : Int32)) 131 0 (2 : Int32), ?_, h0.put131 2, m_put _ _ _ _ _, m131.tr (m_p131 2)⟩
  have hne : ∀ k : Nat, k < 10 → ¬ x = nI k := fun k hk q => hx (by rw [q]; exact ⟨q_0le (by omega), nI_lt (b := 10) hk (by omega)⟩)
  rw [cM_town, eM_town_0, M_isTown_t (d + 6) h0.2.1.2.2.2 hn (isT_n hn ht), bi_some, if_neg q_110, if_neg (show ¬ x = 0 from hne 0 (by omega)), if_neg (show ¬ x = 1 from hne 1 (by omega)), if_neg (show ¬ x = 2 from hne 2 (by omega)), if_neg (show ¬ x = 3 from hne 3 (by omega)), if_neg (show ¬ x = 4 from hne 4 (by omega)), if_neg (show ¬ x = 5 from hne 5 (by omega)), if_neg (show ¬ x = 6 from hne 6 (by omega)), if_neg (show ¬ x = 7 from hne 7 (by omega)), if_neg (show ¬ x = 8 from hne 8 (by omega)), if_neg (show ¬ x = 9 from hne 9 (by omega)), cM_fails, eM_fails_0, bi_some]
theorem a_par (hw : f_wf F) {t : Nat} (ht : t < fN F) {i x : Nat} (hi : (f_a (fP F) t)[i]? = some x) : fP F x = (f_a (fP F) t)[i + 1]? := by
  obtain ⟨hi1, hi2⟩ := List.getElem?_eq_some_iff.mp hi
  have e : f_a (fP F) t = (f_a (fP F) t).take i ++ x :: (f_a (fP F) t).drop (i + 1) := by
    rw [← hi2, ← List.drop_eq_getElem_cons hi1, List.take_append_drop]
  have h1 := f_a_ch hw.2.1 hw.1 t ht
  rw [e] at h1
  rw [p_ch_app _ h1, List.head?_drop]
theorem f_cl_at (hw : f_wf F) : ∀ (k t : Nat), t < fN F → k < (f_a (fP F) t).length → f_cl (fP F) k t = (f_a (fP F) t).getD k 0
  | 0, t, ht, hk => by
    obtain ⟨r, er⟩ := f_a_hd (fP F) t
    rw [f_cl, er]; rfl
  | k + 1, t, ht, hk => by
    rw [f_cl]
    cases hp : fP F t with
    | none => rw [hw.an ht hp] at hk; simp at hk
    | some p =>
      rw [hw.as ht hp, List.length_cons] at hk
      rw [hw.as ht hp]
      dsimp only
      rw [f_cl_at hw k p (hw.p ht hp) (by omega)]
      simp [List.getD_eq_getElem?_getD]
theorem M_abv_loop (d : Nat) (h : rMa g 0 F) (hw : f_wf F) {t : Nat} (ht : t < fN F) (x1 K : Int32) : ∀ (m i k : Nat), i + m = (f_a (fP F) t).length → m + 1 < k → (i : Int) ≤ K.toInt →
    am_run (am_call (d + 2)) 202 k 15 [some (.inr (.inr (29, 0))), some (.inl x1), some (.inl K), some (.inl (eM (f_a (fP F) t)[i]?)), some (.inl (nI i))] [] g = some (some (.inl (if nI (f_a (fP F) t).length ≤ K then -2 else nI ((f_a (fP F) t).getD K.toNatClampNeg 0))), g) := by
  have hl := hw.al ht
  intro m
  induction m with
  | zero =>
    intro i k hi hk hK
    obtain ⟨k, rfl⟩ : ∃ k', k = k' + 1 := ⟨k - 1, by omega⟩
    have e : i = (f_a (fP F) t).length := by omega
    subst e
    have hz : nI (f_a (fP F) t).length ≤ K := by rw [q_le, nI_toInt (by omega)]; exact hK
    rw [List.getElem?_eq_none (Nat.le_refl _), eM_none, eM_above_15, if_neg (show ¬ (0 : Int32) ≤ -2 by decide), if_pos (show (-2 : Int32) < 0 by decide), if_pos hz]
    split <;> rfl
  | succ m ih =>
    intro i k hi hk hK
    obtain ⟨k, rfl⟩ : ∃ k', k = k' + 1 := ⟨k - 1, by omega⟩
    obtain ⟨x, hx⟩ : ∃ x, (f_a (fP F) t)[i]? = some x := ⟨_, List.getElem?_eq_getElem (by omega)⟩
    have hxn := f_a_lt hw.2.1 ht (List.mem_of_getElem? hx)
    rw [hx, eM_some, eM_above_15]
    by_cases e : K ≤ nI i
    · have eK : K = nI i := by
        rw [q_le, nI_toInt (by omega)] at e
        rw [q_eq, nI_toInt (by omega)]
        omega
      rw [if_pos e, if_pos (q_0le (q24 hw.1 hxn)), eK, if_neg (nI_ge (by omega) (by omega)), nI_clamp (by omega), List.getD_eq_getElem?_getD, hx]
      rfl
    · rw [if_neg e, if_neg (q_nn (q24 hw.1 hxn)), M_parent d h hw.1 hxn, bi_some, a_par hw ht hx, nI_1]
      refine ih (i + 1) k (by omega) (by omega) ?_
      rw [q_le, nI_toInt (by omega)] at e
      omega
theorem P_above (d : Nat) (h : rMo g σ) (ho : a_ok σ) (x z : Int32) : SimM (am_call (d + 9) 202 [.inr (.inr (29, 0)), .inl x, .inl z] g) g (w_above (aF σ) x z, σ) := by
  have h0 := h.put131 0
  rw [cM_above, eM_above_0]
  unfold w_above
  rcases tw_cs _ ho.1.1 x with ⟨h1, h2⟩ | ⟨t, ht, rfl, h3⟩
  · rw [h1, M_isTown_f (d + 6) h0.2.1.2.2.2 ho.1.1 h2, bi_some, if_pos rfl]; exact ⟨_, rfl, h0, m131⟩
  · rw [h3, M_isTown_t (d + 6) h0.2.1.2.2.2 ho.1.1 (isT_n ho.1.1 ht), bi_some, if_neg q_110]
    dsimp only
    by_cases e : 0 ≤ z
    · have hl := ho.1.al ht
      have hp := f_a_pos (fP (aF σ)) t
      have e0 : (f_a (fP (aF σ)) t)[0]? = some t := by obtain ⟨r, er⟩ := f_a_hd (fP (aF σ)) t; rw [er]; rfl
      have ez : (0 : Int) ≤ z.toInt := by have := (q_le _ _).mp e; rw [Int32.toInt_zero] at this; exact this
      have := M_abv_loop (d + 6) h0.2.1 ho.1 ht (nI t) z (f_a (fP (aF σ)) t).length 0 99999 (by omega) (by omega) ez
      rw [e0, eM_some] at this
      rw [if_pos e, if_pos e]
      refine ⟨_, Eq.trans this ?_, h0, m131⟩
      have hd : f_d (fP (aF σ)) t = (f_a (fP (aF σ)) t).length - 1 := rfl
      by_cases e2 : z ≤ nI (f_d (fP (aF σ)) t)
      · have hq := q_clamp (lo := 0) (by omega) (by omega) ⟨e, e2⟩
        rw [if_pos e2, if_neg (by rw [hq.1]; exact nI_ge (by omega) (by omega)), f_cl_at ho.1 _ t ht (by omega)]
      · rw [if_neg e2, if_pos]
        rw [q_le, nI_toInt (by omega)] at e2 ⊢
        omega
    · rw [if_neg e, if_neg e]; exact ⟨_, rfl, h0, m131⟩
theorem M_alg_loop (d : Nat) (h : rMa g 0 F) (hw : f_wf F) (x1 x2 x3 x4 x5 x6 : Int32) : ∀ (n t k : Nat), t < fN F → n < (f_a (fP F) t).length → n < k →
    am_run (am_call (d + 2)) 203 k 63 [some (.inr (.inr (29, 0))), some (.inl x1), some (.inl x2), some (.inl x3), some (.inl x4), some (.inl x5), some (.inl x6), some (.inl (nI t)), some (.inl (nI n))] [] g = some (some (.inl (nI ((f_a (fP F) t).getD n 0))), g)
  | 0, t, k, ht, hn, hk => by
    obtain ⟨k, rfl⟩ : ∃ k', k = k' + 1 := ⟨k - 1, by omega⟩
    obtain ⟨r, er⟩ := f_a_hd (fP F) t
    rw [eM_along_63, if_pos (show nI 0 ≤ 0 by decide), er]
    rfl
  | n + 1, t, k, ht, hn, hk => by
    obtain ⟨k, rfl⟩ : ∃ k', k = k' + 1 := ⟨k - 1, by omega⟩
    have hl := hw.al ht
    cases hp : fP F t with
    | none => rw [hw.an ht hp] at hn; simp at hn
    | some p =>
      rw [hw.as ht hp, List.length_cons] at hn hl
      rw [eM_along_63, show (0 : Int32) = nI 0 from rfl, if_neg (nI_ge (by omega) (by omega)), M_parent d h hw.1 ht, bi_some, hp, eM_some, pk_m1, M_alg_loop d h hw x1 x2 x3 x4 x5 x6 n p k (hw.p ht hp) (by omega) (by omega), hw.as ht hp]
      simp [List.getD_eq_getElem?_getD]
theorem P_along (d : Nat) (h : rMo g σ) (ho : a_ok σ) (x y z : Int32) : SimM (am_call (d + 9) 203 [.inr (.inr (29, 0)), .inl x, .inl y, .inl z] g) g (w_along (aF σ) x y z, σ) := by
  have h0 := h.put131 0
  rw [cM_along, eM_along_0]
  unfold w_along
  rcases tw2_cs _ ho.1.1 x y with ⟨h1, h2⟩ | ⟨a, b, ha, hb, rfl, rfl, h3⟩
  · rw [h1, M_areTowns_f (d + 5) h0.2.1.2.2.2 ho.1.1 h2, bi_some, if_pos rfl]; exact ⟨_, rfl, h0, m131⟩
  · rw [h3, M_areTowns_t (d + 5) h0.2.1.2.2.2 ho.1.1 (isT_n ho.1.1 ha) (isT_n ho.1.1 hb), bi_some, if_neg q_110]
    dsimp only
    by_cases e : 0 ≤ z
    · rw [if_pos e, if_pos e, M_areTogether (d + 4) h0.2.1 ho.1 ha hb, bi_some]
      by_cases er : f_r (fP (aF σ)) a = f_r (fP (aF σ)) b
      · obtain ⟨m, A, B, hm⟩ := f_md_ex ho.1.2.1 ho.1.1 hb a ha er
        have hmn := f_a_lt ho.1.2.1 ha hm.mem.1
        have hla := ho.1.al ha
        have hlb := ho.1.al hb
        have e1 := hm.1
        have e2 := hm.2.1
        obtain ⟨hA, hB⟩ := f_md_len ho.1.2.1 hm
        have hda := f_d_lt ho.1 ha
        have hdb := f_d_lt ho.1 hb
        have hL := f_way_md ho.1.2.1 hm
        have hLl : (f_way (fP (aF σ)) a b).length = A.length + B.length + 1 := by rw [hL]; simp; omega
        rw [if_pos er, if_neg q_110, M_meetOf (d + 4) h0.2.1 ho.1 ha hb er, bi_some, f_m_md ho.1.2.1 hm, eM_some, M_depth (d + 5) h0.2.1 ho.1 ha, bi_some, M_depth (d + 5) h0.2.1 ho.1 hmn, bi_some, M_depth (d + 5) h0.2.1 ho.1 hb, bi_some, M_depth (d + 5) h0.2.1 ho.1 hmn, bi_some, pk_sub (by omega), nI_add, pk_sub (by omega), show f_d (fP (aF σ)) a - f_d (fP (aF σ)) m = A.length by omega, show A.length + f_d (fP (aF σ)) b - f_d (fP (aF σ)) m = A.length + B.length by omega]
        by_cases e3 : nI (f_way (fP (aF σ)) a b).length ≤ z
        · rw [if_pos e3, if_neg (by rw [q_le, nI_toInt (by omega)] at e3; rw [q_le, nI_toInt (by omega)]; omega)]
          exact ⟨_, rfl, h0, m131⟩
        · obtain ⟨k, hk, rfl⟩ := q_rg (x := z) (n := (f_way (fP (aF σ)) a b).length) (by omega) (fun q => q_n0' q e) (by rw [q_lt]; rw [q_le] at e3; omega)
          rw [if_neg e3, if_pos (nI_le (by omega) (by omega)), nI_clamp (by omega)]
          by_cases e4 : A.length < k
          · have := M_alg_loop (d + 6) h0.2.1 ho.1 (nI a) (nI b) (nI k) (nI m) (nI A.length) (nI (A.length + B.length)) (A.length + B.length - k) b 99999 hb (by rw [e2, List.length_append]; have := f_a_pos (fP (aF σ)) m; omega) (by omega)
            rw [if_pos (nI_lt e4 (by omega)), if_pos (nI_lt e4 (by omega)), pk_sub (by omega)]
            refine ⟨_, Eq.trans this ?_, h0, m131⟩
            rw [e2, hL, List.getD_eq_getElem?_getD, List.getD_eq_getElem?_getD, List.getElem?_append_left (by omega), List.getElem?_append_right (by omega), show k - A.length = (k - A.length - 1) + 1 by omega, List.getElem?_cons_succ, List.getElem?_reverse (by omega), show B.length - 1 - (k - A.length - 1) = A.length + B.length - k by omega]
          · have := M_alg_loop (d + 6) h0.2.1 ho.1 (nI a) (nI b) (nI k) (nI m) (nI A.length) (nI (A.length + B.length)) k a 99999 ha (by rw [e1, List.length_append]; have := f_a_pos (fP (aF σ)) m; omega) (by omega)
            rw [if_neg (nI_nlt (by omega) (by omega)), if_neg (nI_nlt (by omega) (by omega))]
            refine ⟨_, Eq.trans this ?_, h0, m131⟩
            obtain ⟨r, er2⟩ := f_a_hd (fP (aF σ)) m
            rw [e1, hL, er2, List.getD_eq_getElem?_getD, List.getD_eq_getElem?_getD]
            by_cases ek : k < A.length
            · rw [List.getElem?_append_left ek, List.getElem?_append_left ek]
            · have : k = A.length := by omega
              subst this
              rw [List.getElem?_append_right (Nat.le_refl _), List.getElem?_append_right (Nat.le_refl _), Nat.sub_self]
              rfl
      · rw [if_neg er, if_pos rfl, f_way_none ho.1.2.1 ho.1.1 ha hb er, if_pos (show nI ([] : List Nat).length ≤ z from e)]
        exact ⟨_, rfl, h0, m131⟩
    · rw [if_neg e, if_neg e]; exact ⟨_, rfl, h0, m131⟩
theorem M_room1 (d : Nat) (h : rMa g 0 F) (hw : f_wf F) (x1 x2 : Int32) {m : Nat} (hm : m < fN F) : ∀ (A : List Nat) (k t c : Nat), t < fN F → f_a (fP F) t = A ++ f_a (fP F) m → A.length < k → c ≤ 99999 →
    ∃ c', (A.map (fC F)).foldl mn1 (some c) = some c' ∧ c' ≤ 99999 ∧ am_run (am_call (d + 2)) 209 k 29 [some (.inr (.inr (29, 0))), some (.inl x1), some (.inl x2), some (.inl (nI m)), some (.inl (nI c)), some (.inl (nI t))] [] g = am_run (am_call (d + 2)) 209 (k - A.length - 1) 54 [some (.inr (.inr (29, 0))), some (.inl x1), some (.inl x2), some (.inl (nI m)), some (.inl (nI c')), some (.inl x2)] [] g
  | [], k, t, c, ht, e, hk, hc => by
    obtain ⟨k, rfl⟩ : ∃ k', k = k' + 1 := ⟨k - 1, by omega⟩
    refine ⟨c, rfl, hc, ?_⟩
    rw [eM_room_29, a_eq_hd e, if_pos rfl]
    rfl
  | y :: A, k, t, c, ht, e, hk, hc => by
    rw [List.length_cons] at hk
    obtain ⟨k, rfl⟩ : ∃ k', k = k' + 1 := ⟨k - 1, by omega⟩
    have hne := a_ne_hd e
    obtain ⟨rfl, p, hp, hpp, e2⟩ := up_cons hw.2.1 hw.1 ht e
    have hlt := cap_some hw ht (by rw [hpp]; simp)
    have hk2 : k + 1 - (y :: A).length - 1 = k - A.length - 1 := by rw [List.length_cons]; omega
    rw [eM_room_29, if_neg (by rw [nI_eq (q24 hw.1 ht) (q24 hw.1 hm)]; exact hne), M_ofC (d + 1) h hw.1 ht, bi_some, hlt.1, M_parent d h hw.1 ht, bi_some, M_ofC (d + 1) h hw.1 ht, bi_some, M_parent d h hw.1 ht, bi_some, hlt.1, hpp, eM_some, List.map_cons, List.foldl_cons, hk2]
    by_cases q : c ≤ fC F y
    · rw [if_pos (nI_le q (by omega)), show mn1 (some c) (fC F y) = some c from if_pos q]
      exact M_room1 d h hw x1 x2 hm A k p c hp e2 (by omega) hc
    · rw [if_neg (nI_ge (by omega) (by omega)), show mn1 (some c) (fC F y) = some (fC F y) from if_neg q]
      exact M_room1 d h hw x1 x2 hm A k p (fC F y) hp e2 (by omega) (by omega)
theorem M_room2 (d : Nat) (h : rMa g 0 F) (hw : f_wf F) (x1 x2 : Int32) {m : Nat} (hm : m < fN F) : ∀ (A : List Nat) (k t c : Nat), t < fN F → f_a (fP F) t = A ++ f_a (fP F) m → A.length < k → c ≤ 99999 →
    ∃ c', (A.map (fC F)).foldl mn1 (some c) = some c' ∧ am_run (am_call (d + 2)) 209 k 54 [some (.inr (.inr (29, 0))), some (.inl x1), some (.inl x2), some (.inl (nI m)), some (.inl (nI c)), some (.inl (nI t))] [] g = some (some (.inl (nI c')), g)
  | [], k, t, c, ht, e, hk, hc => by
    obtain ⟨k, rfl⟩ : ∃ k', k = k' + 1 := ⟨k - 1, by omega⟩
    refine ⟨c, rfl, ?_⟩
    rw [eM_room_54, a_eq_hd e, if_pos rfl]
  | y :: A, k, t, c, ht, e, hk, hc => by
    rw [List.length_cons] at hk
    obtain ⟨k, rfl⟩ : ∃ k', k = k' + 1 := ⟨k - 1, by omega⟩
    have hne := a_ne_hd e
    obtain ⟨rfl, p, hp, hpp, e2⟩ := up_cons hw.2.1 hw.1 ht e
    have hlt := cap_some hw ht (by rw [hpp]; simp)
    rw [eM_room_54, if_neg (by rw [nI_eq (q24 hw.1 ht) (q24 hw.1 hm)]; exact hne), M_ofC (d + 1) h hw.1 ht, bi_some, hlt.1, M_parent d h hw.1 ht, bi_some, M_ofC (d + 1) h hw.1 ht, bi_some, M_parent d h hw.1 ht, bi_some, hlt.1, hpp, eM_some, List.map_cons, List.foldl_cons]
    by_cases q : c ≤ fC F y
    · rw [if_pos (nI_le q (by omega)), show mn1 (some c) (fC F y) = some c from if_pos q]
      exact M_room2 d h hw x1 x2 hm A k p c hp e2 (by omega) hc
    · rw [if_neg (nI_ge (by omega) (by omega)), show mn1 (some c) (fC F y) = some (fC F y) from if_neg q]
      exact M_room2 d h hw x1 x2 hm A k p (fC F y) hp e2 (by omega) (by omega)
theorem mn1_eq {ws ws' : List Nat} (h : ∀ v, v ∈ ws ↔ v ∈ ws') : ws.foldl mn1 none = ws'.foldl mn1 none := by
  obtain ⟨h1, h2⟩ := mn1_ok ws none
  obtain ⟨k1, k2⟩ := mn1_ok ws' none
  cases e : ws.foldl mn1 none with
  | none =>
    have hw : ws = [] := (h1.mp e).1
    refine (k1.mpr ⟨List.eq_nil_iff_forall_not_mem.mpr fun v hv => ?_, rfl⟩).symm
    have := (h v).mpr hv
    rw [hw] at this; cases this
  | some v =>
    obtain ⟨a1, a2, -⟩ := h2 v e
    have a1 : v ∈ ws := a1.resolve_right (fun q => by cases q)
    cases e2 : ws'.foldl mn1 none with
    | none =>
      have hw : ws' = [] := (k1.mp e2).1
      have := (h v).mp a1
      rw [hw] at this; cases this
    | some u =>
      obtain ⟨b1, b2, -⟩ := k2 u e2
      have b1 : u ∈ ws' := b1.resolve_right (fun q => by cases q)
      have := a2 u ((h u).mpr b1)
      have := b2 v ((h v).mp a1)
      rw [show v = u by omega]
theorem mn1_big {ws : List Nat} (h : ∀ v ∈ ws, v ≤ 9999) (hne : ws ≠ []) : ws.foldl mn1 (some 99999) = ws.foldl mn1 none := by
  cases ws with
  | nil => exact absurd rfl hne
  | cons v ws =>
    rw [List.foldl_cons, List.foldl_cons]
    have := h v List.mem_cons_self
    rw [show mn1 (some 99999) v = some v from if_neg (by omega)]
    rfl
theorem P_room (d : Nat) (h : rMo g σ) (ho : a_ok σ) (x y : Int32) : SimM (am_call (d + 9) 209 [.inr (.inr (29, 0)), .inl x, .inl y] g) g (w_room (aF σ) x y, σ) := by
  have h0 := h.put131 0
  rw [cM_room, eM_room_0]
  unfold w_room
  rcases tw2_cs _ ho.1.1 x y with ⟨h1, h2⟩ | ⟨a, b, ha, hb, rfl, rfl, h3⟩
  · rw [h1, M_areTowns_f (d + 5) h0.2.1.2.2.2 ho.1.1 h2, bi_some, if_pos rfl]; exact ⟨_, rfl, h0, m131⟩
  · have wl := way_len ho.1 ha hb
    have hnil : (f_way (fP (aF σ)) a b).length ≤ 1 → wsC (aF σ) a b = [] := fun q => List.length_eq_zero_iff.mp (by rw [f_ws_len]; omega)
    rw [h3, M_areTowns_t (d + 5) h0.2.1.2.2.2 ho.1.1 (isT_n ho.1.1 ha) (isT_n ho.1.1 hb), bi_some, if_neg q_110]
    dsimp only
    by_cases eab : a = b
    · rw [if_pos (by rw [eab]), hnil (by rw [wl.2.mpr eab]; omega)]; exact ⟨_, rfl, h0, m131⟩
    · rw [if_neg (by rw [nI_eq (q24 ho.1.1 ha) (q24 ho.1.1 hb)]; exact eab), M_areTogether (d + 4) h0.2.1 ho.1 ha hb, bi_some]
      by_cases er : f_r (fP (aF σ)) a = f_r (fP (aF σ)) b
      · obtain ⟨m, A, B, hm⟩ := f_md_ex ho.1.2.1 ho.1.1 hb a ha er
        have hmn := f_a_lt ho.1.2.1 ha hm.mem.1
        have hal := ho.1.al ha
        have hbl := ho.1.al hb
        rw [hm.1, List.length_append] at hal
        rw [hm.2.1, List.length_append] at hbl
        obtain ⟨c1, p1, p2, p3⟩ := M_room1 (d + 6) h0.2.1 ho.1 (nI a) (nI b) hmn A 99999 a 99999 ha hm.1 (by omega) (Nat.le_refl _)
        obtain ⟨c2, q1, q2⟩ := M_room2 (d + 6) h0.2.1 ho.1 (nI a) (nI b) hmn B (99999 - A.length - 1) b c1 hb hm.2.1 (by omega) p2
        have hwc : wsC (aF σ) a b = A.map (fC (aF σ)) ++ (B.map (fC (aF σ))).reverse := f_ws_way ho.1.2.1 ho.1.1 ha hb hm
        have hne : A.map (fC (aF σ)) ++ B.map (fC (aF σ)) ≠ [] := fun q => by
          have hA : A = [] := by simpa using (List.append_eq_nil_iff.mp q).1
          have hB : B = [] := by simpa using (List.append_eq_nil_iff.mp q).2
          have hLl : (f_way (fP (aF σ)) a b).length = 1 := by rw [f_way_md ho.1.2.1 hm, hA, hB]; rfl
          exact eab (wl.2.mp hLl)
        have hle : ∀ v ∈ A.map (fC (aF σ)) ++ B.map (fC (aF σ)), v ≤ 9999 := fun v hv => by
          have hup : ∀ {C : List Nat} {s : Nat}, s < fN (aF σ) → f_a (fP (aF σ)) s = C ++ f_a (fP (aF σ)) m → ∀ z ∈ C, fC (aF σ) z ≤ 9999 := fun {C s} hs ec z hz => by
            have hzn : z < fN (aF σ) := f_a_lt ho.1.2.1 hs (by rw [ec]; exact List.mem_append_left _ hz)
            obtain ⟨X, Y, exy⟩ := List.append_of_mem hz
            have hch := f_a_ch ho.1.2.1 ho.1.1 s hs
            rw [ec, exy, List.append_assoc, List.cons_append] at hch
            have hpz := p_ch_app X hch
            refine (ho.1.2.2.2 z hzn ?_).2.2
            rw [hpz]
            obtain ⟨r, er2⟩ := f_a_hd (fP (aF σ)) m
            rw [er2]
            cases Y <;> simp
          rcases List.mem_append.mp hv with q | q
          · obtain ⟨z, hz, rfl⟩ := List.mem_map.mp q
            exact hup ha hm.1 z hz
          · obtain ⟨z, hz, rfl⟩ := List.mem_map.mp q
            exact hup hb hm.2.1 z hz
        have hres : f_mn (wsC (aF σ) a b) = some c2 := by
          rw [f_mn_fl, mn1_eq (ws' := A.map (fC (aF σ)) ++ B.map (fC (aF σ))) (fun v => by rw [hwc]; simp), ← mn1_big hle hne, List.foldl_append, p1, q1]
        rw [if_pos er, if_neg q_110, M_meetOf (d + 4) h0.2.1 ho.1 ha hb er, bi_some, f_m_md ho.1.2.1 hm, eM_some, hres]
        exact ⟨_, Eq.trans p3 q2, h0, m131⟩
      · rw [if_neg er, if_pos rfl, hnil (by rw [wl.1.mpr er]; omega)]; exact ⟨_, rfl, h0, m131⟩
end MM
