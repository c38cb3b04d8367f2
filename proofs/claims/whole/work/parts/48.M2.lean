/-! ===== the model: links, counts ===== -/
theorem eM_eq {o o' : Option Nat} (h : ∀ p, o = some p → p < 2 ^ 31) (h' : ∀ p, o' = some p → p < 2 ^ 31) : eM o = eM o' ↔ o = o' := by
  cases o' with
  | none =>
    cases o with
    | none => simp
    | some p => constructor
                · intro q; rw [eM_some, eM_none] at q; exact absurd q (q_ne2 (h p rfl))
                · intro q; cases q
  | some p' => exact eM_inj h (h' p' rfl)
section MM
variable {g : am_G} {b : Nat} {F : fF}
theorem M_isIn_t (d : Nat) (g : am_G) {x lo hi : Int32} (h : lo ≤ x ∧ x ≤ hi) : am_call (d + 1) 134 [.inl x, .inl lo, .inl hi] g = some (some (.inl 1), g) := by
  rw [cM_isIn, eM_isIn_0, if_neg (by rw [q_lt]; have := (q_le _ _).mp h.1; omega), if_neg (by rw [q_lt]; have := (q_le _ _).mp h.2; omega)]
theorem M_isIn_f (d : Nat) (g : am_G) {x lo hi : Int32} (h : ¬ (lo ≤ x ∧ x ≤ hi)) : am_call (d + 1) 134 [.inl x, .inl lo, .inl hi] g = some (some (.inl 0), g) := by
  rw [cM_isIn, eM_isIn_0]
  by_cases e : x < lo
  · rw [if_pos e]
  · rw [if_neg e, if_pos]
    rw [q_le, q_le] at h
    rw [q_lt] at e ⊢
    omega
theorem n01' : am_01 (1 : Int32) = true := rfl
theorem isT_iff {n : Nat} (hn : n ≤ 24) (x : Int32) : (0 ≤ x ∧ x ≤ nI n - 1) ↔ isT n x := by
  unfold isT
  rw [q_le x, q_lt x, show (1 : Int32) = nI 1 from rfl, pk_sub_toInt (by omega) (by omega), nI_toInt (by omega)]
  constructor
  · rintro ⟨h1, h2⟩; exact ⟨h1, by omega⟩
  · rintro ⟨h1, h2⟩; exact ⟨h1, by omega⟩
theorem M_isTown_t (d : Nat) {n : Nat} (h : g 142 0 0 = nI n) (hn : n ≤ 24) {x : Int32} (hx : isT n x) : am_call (d + 2) 148 [.inr (.inr (29, 0)), .inl x] g = some (some (.inl 1), g) := by
  rw [cM_isTown, eM_isTown_0, h, M_isIn_t d g ((isT_iff hn x).mpr hx), bi_some, n01', cond_true]
theorem M_isTown_f (d : Nat) {n : Nat} (h : g 142 0 0 = nI n) (hn : n ≤ 24) {x : Int32} (hx : ¬ isT n x) : am_call (d + 2) 148 [.inr (.inr (29, 0)), .inl x] g = some (some (.inl 0), g) := by
  rw [cM_isTown, eM_isTown_0, h, M_isIn_f d g (fun q => hx ((isT_iff hn x).mp q)), bi_some, n01, cond_true]
theorem M_areTowns_t (d : Nat) {n : Nat} (h : g 142 0 0 = nI n) (hn : n ≤ 24) {x y : Int32} (hx : isT n x) (hy : isT n y) : am_call (d + 3) 149 [.inr (.inr (29, 0)), .inl x, .inl y] g = some (some (.inl 1), g) := by
  rw [cM_areTowns, eM_areTowns_0, M_isTown_t d h hn hx, bi_some, if_neg q_110, M_isTown_t d h hn hy, bi_some, if_neg q_110]
theorem M_areTowns_f (d : Nat) {n : Nat} (h : g 142 0 0 = nI n) (hn : n ≤ 24) {x y : Int32} (hx : ¬ (isT n x ∧ isT n y)) : am_call (d + 3) 149 [.inr (.inr (29, 0)), .inl x, .inl y] g = some (some (.inl 0), g) := by
  rw [cM_areTowns, eM_areTowns_0]
  by_cases e : isT n x
  · rw [M_isTown_t d h hn e, bi_some, if_neg q_110, M_isTown_f d h hn (fun q => hx ⟨e, q⟩), bi_some, if_pos rfl]
  · rw [M_isTown_f d h hn e, bi_some, if_pos rfl]
theorem M_isLength_t (d : Nat) (g : am_G) {x : Int32} (h : 1 ≤ x ∧ x ≤ 9999) : am_call (d + 2) 178 [.inl x] g = some (some (.inl 1), g) := by
  rw [cM_isLength, eM_isLength_0, M_isIn_t d g h, bi_some, n01', cond_true]
theorem M_isLength_f (d : Nat) (g : am_G) {x : Int32} (h : ¬ (1 ≤ x ∧ x ≤ 9999)) : am_call (d + 2) 178 [.inl x] g = some (some (.inl 0), g) := by
  rw [cM_isLength, eM_isLength_0, M_isIn_f d g h, bi_some, n01, cond_true]
theorem walk_fS {s t : Nat} : fS (f_walk F s t) - fS F = nI (p_cnt (fQ F) (f_a (fP F) s)) + nI (p_cnt (fQ (f_reroot F s)) (f_a (fP (f_reroot F s)) t)) := by
  show fS (f_reroot F s) + _ - fS F = _
  rw [rr_N.2.2]
  show fS F + _ + _ - fS F = _
  rw [Int32.add_assoc, q_addsub]
theorem M_walks (d : Nat) (h : rMa g b F) (hw : f_wf F) {s t : Nat} (hs : s < fN F) (ht : t < fN F) : ∃ g', am_call (d + 6) 172 [.inr (.inr (29, 0)), .inl (nI s), .inl (nI t)] g = some (some (.inl (fS (f_walk F s t) - fS F)), g') ∧ rMa g' b (f_walk F s t) ∧ mB b g g' := by
  obtain ⟨g1, h1, h2, h3⟩ := M_reroots d h hw hs
  obtain ⟨g2, h4, h5, h6⟩ := M_touches (d + 1) h2 (wf_reroot hw hs) (t := t) (by rw [rr_N.1]; exact ht)
  rw [cM_walks, eM_walks_0, h1, bi_some, h4, bi_some, walk_fS]
  exact ⟨g2, rfl, h5, h3.tr h6⟩
theorem rMa.hang (h : rMa g b F) (hn : fN F ≤ 24) {x : Nat} (hx : x < 24) (y l c : Nat) : rMa (mst (mst (mst g b x (nI y)) b (48 + x) (nI l)) b (72 + x) (nI c)) b (f_hang F x y l c) := by
  refine ⟨⟨?_, fun t ht => ?_⟩, ?_, h.2.2.1, ?_⟩
  · rw [mst_at, if_neg (by omega), mst_at, if_neg (by omega), mst_at, if_neg (by omega)]; exact h.1.1
  · have ht : t < fN F := ht
    obtain ⟨a1, a2, a3, a4, a5⟩ := h.1.2 t ht
    simp only [mst_at]
    rw [if_neg (by omega : ¬ t = 72 + x), if_neg (by omega : ¬ t = 48 + x), if_neg (by omega : ¬ 24 + t = 72 + x), if_neg (by omega : ¬ 24 + t = 48 + x), if_neg (by omega : ¬ 24 + t = x), if_neg (by omega : ¬ 48 + t = 72 + x), if_neg (by omega : ¬ 48 + t = x), if_neg (by omega : ¬ 72 + t = 48 + x), if_neg (by omega : ¬ 72 + t = x), if_neg (by omega : ¬ 96 + t = 72 + x), if_neg (by omega : ¬ 96 + t = 48 + x), if_neg (by omega : ¬ 96 + t = x)]
    show _ = eM (uo (fP F) x (some y) t) ∧ _ = eM (fQ F t) ∧ _ = eM ((uo (fP F) x (some y) t).map fun _ => uo (fL F) x l t) ∧ _ = eM ((uo (fP F) x (some y) t).map fun _ => uo (fC F) x c t) ∧ _
    by_cases e : t = x
    · subst e
      simp only [uo_eq, if_true]
      exact ⟨rfl, a2, rfl, rfl, a5⟩
    · rw [if_neg e, if_neg (by omega), if_neg (by omega)]
      simp only [uo_ne e]
      exact ⟨a1, a2, a3, a4, a5⟩
  · rw [mst_o _ _ _ _ (by simp), mst_o _ _ _ _ (by simp), mst_o _ _ _ _ (by simp)]; exact h.2.1
  · rw [mst_o _ _ _ _ (by simp), mst_o _ _ _ _ (by simp), mst_o _ _ _ _ (by simp)]; exact h.2.2.2
theorem M_links (d : Nat) (h : rMa g b F) (hw : f_wf F) {s t : Nat} (hs : s < fN F) (ht : t < fN F) (l c : Nat) : ∃ g', am_call (d + 6) 171 [.inr (.inr (29, 0)), .inl (nI s), .inl (nI t), .inl (nI l), .inl (nI c)] g = some (none, g') ∧ rMa g' b (f_link F s t l c) ∧ mB b g g' := by
  have hn := hw.1
  have hb := h.2.2.1
  obtain ⟨g1, h1, h2, h3⟩ := M_reroots d h hw hs
  obtain ⟨g2, h4, h5, h6⟩ := M_touches (d + 1) h2 (wf_reroot hw hs) (t := t) (by rw [rr_N.1]; exact ht)
  have o1 : ∀ (g : am_G) (k : Nat) (y : Int32), mst g b k y 139 0 0 = g 139 0 0 := fun g k y => by rw [mst_o _ _ _ _ (by simp)]
  rw [cM_links, eM_links_0, h1, bi_some, h4, bi_some, k_0, M_lay (d + 4) h5.2.1 hb (by omega), bv_some, k_48, M_lay (d + 4) (by rw [o1]; exact h5.2.1) hb (by omega), bv_some, k_72, M_lay (d + 4) (by rw [o1, o1]; exact h5.2.1) hb (by omega), bv_some]
  exact ⟨_, rfl, rMa.hang (F := f_walk F s t) h5 (by rw [wk_N]; exact hn) (by omega) t l c, (h3.tr h6).tr (((mst_B _ (by omega) _).tr (mst_B _ (by omega) _)).tr (mst_B _ (by omega) _))⟩
theorem rMa.free (h : rMa g b F) (hn : fN F ≤ 24) {x y : Nat} (hx : x < 24) (hy : y < 24) : rMa (mst (mst (mst (mst g b y (-2)) b (48 + y) (-2)) b (72 + y) (-2)) b (24 + x) (-2)) b (f_free F x y) := by
  refine ⟨⟨?_, fun t ht => ?_⟩, ?_, h.2.2.1, ?_⟩
  · rw [mst_at, if_neg (by omega), mst_at, if_neg (by omega), mst_at, if_neg (by omega), mst_at, if_neg (by omega)]; exact h.1.1
  · have ht : t < fN F := ht
    obtain ⟨a1, a2, a3, a4, a5⟩ := h.1.2 t ht
    simp only [mst_at]
    rw [if_neg (by omega : ¬ t = 24 + x), if_neg (by omega : ¬ t = 72 + y), if_neg (by omega : ¬ t = 48 + y), if_neg (by omega : ¬ 24 + t = 72 + y), if_neg (by omega : ¬ 24 + t = 48 + y), if_neg (by omega : ¬ 24 + t = y), if_neg (by omega : ¬ 48 + t = 24 + x), if_neg (by omega : ¬ 48 + t = 72 + y), if_neg (by omega : ¬ 48 + t = y), if_neg (by omega : ¬ 72 + t = 24 + x), if_neg (by omega : ¬ 72 + t = 48 + y), if_neg (by omega : ¬ 72 + t = y), if_neg (by omega : ¬ 96 + t = 24 + x), if_neg (by omega : ¬ 96 + t = 72 + y), if_neg (by omega : ¬ 96 + t = 48 + y), if_neg (by omega : ¬ 96 + t = y)]
    show _ = eM (uo (fP F) y none t) ∧ _ = eM (uo (fQ F) x none t) ∧ _ = eM ((uo (fP F) y none t).map fun _ => fL F t) ∧ _ = eM ((uo (fP F) y none t).map fun _ => fC F t) ∧ _
    have hq : (if 24 + t = 24 + x then (-2 : Int32) else g 32 0 (121 * b + (24 + t))) = eM (uo (fQ F) x none t) := by
      by_cases e : t = x
      · rw [if_pos (by omega), e, uo_eq]; rfl
      · rw [if_neg (by omega), uo_ne e]; exact a2
    by_cases e : t = y
    · subst e
      rw [if_pos rfl, if_pos rfl, if_pos rfl]
      simp only [uo_eq]
      exact ⟨rfl, hq, rfl, rfl, a5⟩
    · rw [if_neg e, if_neg (by omega : ¬ 48 + t = 48 + y), if_neg (by omega : ¬ 72 + t = 72 + y)]
      simp only [uo_ne e]
      exact ⟨a1, hq, a3, a4, a5⟩
  · rw [mst_o _ _ _ _ (by simp), mst_o _ _ _ _ (by simp), mst_o _ _ _ _ (by simp), mst_o _ _ _ _ (by simp)]; exact h.2.1
  · rw [mst_o _ _ _ _ (by simp), mst_o _ _ _ _ (by simp), mst_o _ _ _ _ (by simp), mst_o _ _ _ _ (by simp)]; exact h.2.2.2
theorem M_free (d : Nat) (h1 : g 139 0 0 = nI b) (hb : b < 24) {y : Nat} (hy : y < 24) : am_call (d + 2) 152 [.inr (.inr (29, 0)), .inl (nI y)] g = some (none, mst (mst (mst g b y (-2)) b (48 + y) (-2)) b (72 + y) (-2)) := by
  have o1 : ∀ (g : am_G) (k : Nat) (y : Int32), mst g b k y 139 0 0 = g 139 0 0 := fun g k y => by rw [mst_o _ _ _ _ (by simp)]
  rw [cM_free, eM_free_0, k_0, M_lay d h1 hb (by omega), bv_some, k_48, M_lay d (by rw [o1]; exact h1) hb (by omega), bv_some, k_72, M_lay d (by rw [o1, o1]; exact h1) hb (by omega), bv_some]
theorem M_cuts (d : Nat) (h : rMa g b F) (hw : f_wf F) {s t : Nat} (hs : s < fN F) (ht : t < fN F) : ∃ g', am_call (d + 7) 173 [.inr (.inr (29, 0)), .inl (nI s), .inl (nI t)] g = some (none, g') ∧ rMa g' b (f_cut F s t) ∧ mB b g g' := by
  have hn := hw.1
  have hb := h.2.2.1
  obtain ⟨g1, h1, h2, h3⟩ := M_walks d h hw hs ht
  have o1 : ∀ (g : am_G) (k : Nat) (y : Int32), mst g b k y 139 0 0 = g 139 0 0 := fun g k y => by rw [mst_o _ _ _ _ (by simp)]
  rw [cM_cuts, eM_cuts_0, h1, bi_some, M_free (d + 4) h2.2.1 hb (by omega), bv_some, k_24, M_lay (d + 5) (by rw [o1, o1, o1]; exact h2.2.1) hb (by omega), bv_some]
  exact ⟨_, rfl, h2.free (by rw [wk_N]; exact hn) (by omega) (by omega), h3.tr ((((mst_B _ (by omega) _).tr (mst_B _ (by omega) _)).tr (mst_B _ (by omega) _)).tr (mst_B _ (by omega) _))⟩
theorem M_above_loop (d : Nat) (h : rMa g b F) (hw : f_wf F) (x2 : Int32) {T : Nat} (hT : T < 2 ^ 31) : ∀ (k t : Nat), t < fN F → (f_a (fP F) t).length ≤ k →
    am_run (am_call (d + 2)) 180 k 2 [some (.inr (.inr (29, 0))), some (.inl (nI T)), some (.inl x2), some (.inl (nI t))] [] g = some (some (.inl (if T ∈ f_a (fP F) t then 1 else 0)), g)
  | 0, t, ht, hk => by have := f_a_pos (fP F) t; omega
  | k + 1, t, ht, hk => by
    rw [eM_isAbove_2]
    by_cases e : t = T
    · subst e
      rw [if_pos rfl, if_pos rfl, if_pos (f_a_self _ _)]
    · have e' : ¬ nI t = nI T := by rw [nI_eq (q24 hw.1 ht) hT]; exact e
      rw [if_neg e', M_parent d h hw.1 ht, bi_some]
      cases hp : fP F t with
      | none =>
        rw [eM_none, if_pos (by decide), if_neg e', hw.an ht hp, if_neg (by simpa using fun q => e q.symm)]
      | some p =>
        have hpn := hw.p ht hp
        rw [hw.as ht hp] at hk ⊢
        rw [List.length_cons] at hk
        rw [eM_some, if_neg (q_nn (q24 hw.1 hpn)), M_parent d h hw.1 ht, bi_some, hp, eM_some, M_above_loop d h hw x2 hT k p hpn (by omega)]
        simp only [List.mem_cons, show ¬ T = t from fun q => e q.symm, false_or]
theorem M_isAbove (d : Nat) (h : rMa g b F) (hw : f_wf F) {T t : Nat} (hT : T < 2 ^ 31) (ht : t < fN F) : am_call (d + 3) 180 [.inr (.inr (29, 0)), .inl (nI T), .inl (nI t)] g = some (some (.inl (if T ∈ f_a (fP F) t then 1 else 0)), g) := by
  have := hw.al ht
  rw [cM_isAbove, eM_isAbove_0]
  exact M_above_loop d h hw _ hT 99999 t ht (by omega)
theorem M_size (d : Nat) (h : rMa g b F) (hw : f_wf F) {x : Nat} (hx : x < fN F) : am_call (d + 4) 179 [.inr (.inr (29, 0)), .inl (nI x)] g = some (some (.inl (nI (f_sz F x))), g) := by
  have hn := hw.1
  rw [cM_size, eM_size_0]
  exact for_loop (fun k c t => am_run (am_call (d + 3)) 179 k 4 [some (.inr (.inr (29, 0))), some (.inl (nI x)), some (.inl (nI c)), some (.inl (nI t))] [] g) (fN F) (fun c t => if decide (x ∈ f_a (fP F) t) then c + 1 else c) (fun c => some (some (.inl (nI c)), g)) (fun k c t ht => by
    rw [eM_size_4, h.2.2.2, if_neg (nI_ge ht (by omega)), M_isAbove d h hw (q24 hn hx) ht, bi_some, nI_1 (a := t)]
    by_cases e : x ∈ f_a (fP F) t
    · rw [if_pos e, if_neg q_110, if_pos (decide_eq_true e), nI_1]
    · rw [if_neg e, if_pos rfl, if_neg (by simpa using e), Int32.add_zero]) (fun k c => by
    rw [eM_size_4, h.2.2.2, if_pos (nI_le (Nat.le_refl _) (by omega))]) (fN F) 0 0 99999 (by omega) (by omega)
theorem M_depth_loop (d : Nat) (h : rMa g b F) (hw : f_wf F) (x1 : Int32) : ∀ (k t c : Nat), t < fN F → (f_a (fP F) t).length ≤ k →
    am_run (am_call (d + 2)) 185 k 4 [some (.inr (.inr (29, 0))), some (.inl x1), some (.inl (nI c)), some (.inl (nI t))] [] g = some (some (.inl (nI (c + f_d (fP F) t))), g)
  | 0, t, c, ht, hk => by have := f_a_pos (fP F) t; omega
  | k + 1, t, c, ht, hk => by
    rw [eM_depth_4, M_parent d h hw.1 ht, bi_some]
    cases hp : fP F t with
    | none => rw [eM_none, if_pos (by decide), f_d_none hw.2.1 hw.1 ht hp]; rfl
    | some p =>
      have hpn := hw.p ht hp
      rw [hw.as ht hp, List.length_cons] at hk
      rw [eM_some, if_neg (q_nn (q24 hw.1 hpn)), M_parent d h hw.1 ht, bi_some, hp, eM_some, nI_1, f_d_some hw.2.1 hw.1 ht hp, M_depth_loop d h hw x1 k p (c + 1) hpn (by omega), show c + 1 + f_d (fP F) p = c + (f_d (fP F) p + 1) by omega]
theorem M_depth (d : Nat) (h : rMa g b F) (hw : f_wf F) {t : Nat} (ht : t < fN F) : am_call (d + 3) 185 [.inr (.inr (29, 0)), .inl (nI t)] g = some (some (.inl (nI (f_d (fP F) t))), g) := by
  have := hw.al ht
  rw [cM_depth, eM_depth_0]
  have := M_depth_loop d h hw (nI t) 99999 t 0 ht (by omega)
  rw [Nat.zero_add] at this
  exact this
theorem M_meet_loop (d : Nat) (h : rMa g b F) (hw : f_wf F) (x1 : Int32) {t : Nat} (ht : t < fN F) : ∀ (k s : Nat), s < fN F → f_r (fP F) s = f_r (fP F) t → (f_a (fP F) s).length ≤ k →
    am_run (am_call (d + 3)) 186 k 2 [some (.inr (.inr (29, 0))), some (.inl x1), some (.inl (nI t)), some (.inl (nI s))] [] g = some (some (.inl (eM (f_m (fP F) s t))), g)
  | 0, s, hs, hr, hk => by have := f_a_pos (fP F) s; omega
  | k + 1, s, hs, hr, hk => by
    rw [eM_meetOf_2, M_isAbove d h hw (q24 hw.1 hs) ht, bi_some]
    by_cases e : s ∈ f_a (fP F) t
    · have em : f_m (fP F) s t = some s := by
        unfold f_m
        obtain ⟨r, er⟩ := f_a_hd (fP F) s
        rw [er, List.find?_cons]
        simp [e]
      rw [if_pos e, if_neg q_110, em]; rfl
    · rw [if_neg e, if_pos rfl, M_parent (d + 1) h hw.1 hs, bi_some]
      cases hp : fP F s with
      | none =>
        rw [f_r_none hw.2.1 hw.1 hs hp] at hr
        exact absurd (by rw [hr]; exact (f_r_lt hw.2.1 hw.1 t ht).2.2) e
      | some p =>
        rw [hw.as hs hp, List.length_cons] at hk
        rw [eM_some, f_m_skip hw.2.1 hw.1 hs hp e]
        exact M_meet_loop d h hw x1 ht k p (hw.p hs hp) (by rw [← hr, f_r_some hw.2.1 hw.1 hs hp]) (by omega)
theorem M_meetOf (d : Nat) (h : rMa g b F) (hw : f_wf F) {s t : Nat} (hs : s < fN F) (ht : t < fN F) (hr : f_r (fP F) s = f_r (fP F) t) : am_call (d + 4) 186 [.inr (.inr (29, 0)), .inl (nI s), .inl (nI t)] g = some (some (.inl (eM (f_m (fP F) s t))), g) := by
  have := hw.al hs
  rw [cM_meetOf, eM_meetOf_0]
  exact M_meet_loop d h hw (nI s) ht 99999 s hs hr (by omega)
theorem M_children (d : Nat) (h : rMa g b F) (hw : f_wf F) {x : Nat} (hx : x < fN F) : am_call (d + 3) 197 [.inr (.inr (29, 0)), .inl (nI x)] g = some (some (.inl (nI (f_ch F x))), g) := by
  have hn := hw.1
  rw [cM_children, eM_children_0]
  exact for_loop (fun k c t => am_run (am_call (d + 2)) 197 k 4 [some (.inr (.inr (29, 0))), some (.inl (nI x)), some (.inl (nI c)), some (.inl (nI t))] [] g) (fN F) (fun c t => if decide (fP F t = some x) then c + 1 else c) (fun c => some (some (.inl (nI c)), g)) (fun k c t ht => by
    rw [eM_children_4, h.2.2.2, if_neg (nI_ge ht (by omega)), M_parent d h hn ht, bi_some, nI_1 (a := t)]
    by_cases e : fP F t = some x
    · rw [if_pos ((eM_inj (hw.p31 ht) (q24 hn hx)).mpr e), if_pos (decide_eq_true e), nI_1]
    · rw [if_neg (fun q => e ((eM_inj (hw.p31 ht) (q24 hn hx)).mp q)), if_neg (by simpa using e), Int32.add_zero]) (fun k c => by
    rw [eM_children_4, h.2.2.2, if_pos (nI_le (Nat.le_refl _) (by omega))]) (fN F) 0 0 99999 (by omega) (by omega)
theorem M_under (d : Nat) (h : rMa g b F) (hw : f_wf F) {x : Nat} (hx : x < fN F) : am_call (d + 4) 198 [.inr (.inr (29, 0)), .inl (nI x)] g = some (some (.inl (f_un F x)), g) := by
  have hn := hw.1
  rw [cM_under, eM_under_0]
  exact for_loop (fun k c t => am_run (am_call (d + 3)) 198 k 4 [some (.inr (.inr (29, 0))), some (.inl (nI x)), some (.inl c), some (.inl (nI t))] [] g) (fN F) (fun c t => if x ∈ f_a (fP F) t then c + fV F t else c) (fun c => some (some (.inl c), g)) (fun k c t ht => by
    rw [eM_under_4, h.2.2.2, if_neg (nI_ge ht (by omega)), M_isAbove d h hw (q24 hn hx) ht, bi_some, nI_1]
    by_cases e : x ∈ f_a (fP F) t
    · rw [if_pos e, if_neg q_110, M_ofV (d + 2) h hn ht, bi_some, if_pos e]
    · rw [if_neg e, if_pos rfl, if_neg e, Int32.add_zero]) (fun k c => by
    rw [eM_under_4, h.2.2.2, if_pos (nI_le (Nat.le_refl _) (by omega))]) (fN F) 0 0 99999 (by omega) (by omega)
theorem M_heavyOf (d : Nat) (h : rMa g b F) (hw : f_wf F) {x : Nat} (hx : x < fN F) : am_call (d + 5) 218 [.inr (.inr (29, 0)), .inl (nI x)] g = some (some (.inl (eM (f_hv F x))), g) := by
  have hn := hw.1
  rw [cM_heavyOf, eM_heavyOf_0]
  have key := for_find (fun k t => am_run (am_call (d + 4)) 218 k 2 [some (.inr (.inr (29, 0))), some (.inl (nI x)), some (.inl (nI t))] [] g) (fN F) (fun t => decide (fP F t = some x ∧ f_sz F x < 2 * f_sz F t)) (fun t => some (some (.inl (nI t)), g)) (some (some (.inl (-2)), g)) (fun k t ht => by
    have z1 := f_sz_le F t
    have z2 := f_sz_le F x
    rw [eM_heavyOf_2, h.2.2.2, if_neg (nI_ge ht (by omega)), M_parent (d + 2) h hn ht, bi_some, nI_1]
    by_cases e : fP F t = some x
    · rw [if_pos ((eM_inj (hw.p31 ht) (q24 hn hx)).mpr e), M_size d h hw ht, bi_some, M_size d h hw hx, bi_some, show (2 : Int32) = nI 2 from rfl, pk_mul]
      by_cases e2 : f_sz F x < 2 * f_sz F t
      · rw [if_neg (nI_ge e2 (by omega)), if_pos (decide_eq_true ⟨e, e2⟩)]
      · rw [if_pos (nI_le (by omega) (by omega)), if_neg (by simpa using fun _ => by omega)]
    · rw [if_neg (fun q => e ((eM_inj (hw.p31 ht) (q24 hn hx)).mp q)), if_neg (by simp [e])]) (fun k => by
    rw [eM_heavyOf_2, h.2.2.2, if_pos (nI_le (Nat.le_refl _) (by omega))]) (fN F) 0 99999 (by omega) (by omega)
  refine Eq.trans key ?_
  unfold f_hv
  cases ff (fun t => decide (fP F t = some x ∧ f_sz F x < 2 * f_sz F t)) 0 (fN F) with
  | none => rfl
  | some c => rfl
theorem M_potentialNow (d : Nat) (h : rMa g b F) (hw : f_wf F) : am_call (d + 6) 220 [.inr (.inr (29, 0))] g = some (some (.inl (nI (f_po F))), g) := by
  have hn := hw.1
  rw [cM_potentialNow, eM_potentialNow_0]
  exact for_loop (fun k c t => am_run (am_call (d + 5)) 220 k 4 [some (.inr (.inr (29, 0))), some (.inl (nI c)), some (.inl (nI t))] [] g) (fN F) (fun c t => if decide (f_hv F t ≠ none ∧ fQ F t ≠ f_hv F t) then c + 1 else c) (fun c => some (some (.inl (nI c)), g)) (fun k c t ht => by
    rw [eM_potentialNow_4, h.2.2.2, if_neg (nI_ge ht (by omega)), M_heavyOf d h hw ht, bi_some, nI_1 (a := t)]
    by_cases e : f_hv F t = none
    · rw [if_pos ((eM_neg (f_hv31 hw t)).mpr e), if_neg (by simp [e]), Int32.add_zero]
    · rw [if_neg (fun q => e ((eM_neg (f_hv31 hw t)).mp q)), M_prefers (d + 3) h hn ht, bi_some, M_heavyOf d h hw ht, bi_some]
      by_cases e2 : fQ F t = f_hv F t
      · rw [if_pos (by rw [e2]), if_neg (by simp [e2]), Int32.add_zero]
      · rw [if_neg (fun q => e2 ((eM_eq (hw.q31 ht) (f_hv31 hw t)).mp q)), if_pos (decide_eq_true ⟨e, e2⟩), nI_1]) (fun k c => by
    rw [eM_potentialNow_4, h.2.2.2, if_pos (nI_le (Nat.le_refl _) (by omega))]) (fN F) 0 0 99999 (by omega) (by omega)
theorem M_partsOf (d : Nat) (h : rMa g b F) (hw : f_wf F) {K : Nat} (hK : K < 2 ^ 31) : am_call (d + 3) 226 [.inr (.inr (29, 0)), .inl (nI K)] g = some (some (.inl (nI (f_pa F K))), g) := by
  have hn := hw.1
  rw [cM_partsOf, eM_partsOf_0]
  exact for_loop (fun k c t => am_run (am_call (d + 2)) 226 k 4 [some (.inr (.inr (29, 0))), some (.inl (nI K)), some (.inl (nI c)), some (.inl (nI t))] [] g) (fN F) (fun c t => if decide (fP F t = none ∨ K < fL F t) then c + 1 else c) (fun c => some (some (.inl (nI c)), g)) (fun k c t ht => by
    rw [eM_partsOf_4, h.2.2.2, if_neg (nI_ge ht (by omega)), M_parent d h hn ht, bi_some, nI_1 (a := t)]
    cases hp : fP F t with
    | none => rw [eM_none, if_pos (by decide), if_pos (by simp), nI_1]
    | some p =>
      have hl := hw.2.2.2 t ht (by rw [hp]; simp)
      rw [eM_some, if_neg (q_nn (q24 hn (hw.p ht hp))), M_ofL (d + 1) h hn ht, bi_some, hp]
      show (if nI (fL F t) ≤ nI K then _ else _) = _
      by_cases e : K < fL F t
      · rw [if_neg (nI_ge e (by omega)), if_pos (by simp [e]), nI_1]
      · rw [if_pos (nI_le (by omega) hK), if_neg (by simp [e]), Int32.add_zero]) (fun k c => by
    rw [eM_partsOf_4, h.2.2.2, if_pos (nI_le (Nat.le_refl _) (by omega))]) (fN F) 0 0 99999 (by omega) (by omega)
theorem f_pa_tr (hw : f_wf F) : f_pa F 9999 = f_tr F := ct_cg fun j hj => by
  cases hp : fP F j with
  | none => simp
  | some p =>
    have hl := hw.2.2.2 j hj (by rw [hp]; simp)
    simp
    omega
theorem M_trees (d : Nat) (h : rMa g b F) (hw : f_wf F) : am_call (d + 4) 235 [.inr (.inr (29, 0))] g = some (some (.inl (nI (f_tr F))), g) := by
  rw [cM_trees, eM_trees_0, show (9999 : Int32) = nI 9999 from rfl, M_partsOf d h hw (by omega), bi_some, f_pa_tr hw]
theorem M_greatestWithout (d : Nat) (h : rMa g b F) (hw : f_wf F) {t : Nat} (ht : t < fN F) : am_call (d + 5) 224 [.inr (.inr (29, 0)), .inl (nI t)] g = some (some (.inl (nI (f_gw F t))), g) := by
  have hn := hw.1
  have hr := (f_r_lt hw.2.1 hw.1 t ht).1
  rw [cM_greatestWithout, eM_greatestWithout_0, M_rootOf (d + 1) h hw ht, bi_some, M_size d h hw hr, bi_some, M_size d h hw ht, bi_some, pk_sub (f_sz_root hw ht)]
  exact (for_inv (fun k m (_ : Option am_V) c => am_run (am_call (d + 4)) 224 k 12 [some (.inr (.inr (29, 0))), some (.inl (nI t)), some (.inl (nI m)), some (.inl (nI c))] [] g) (fN F) (fun m c => if fP F c = some t then max m (f_sz F c) else m) (fun m => some (some (.inl (nI m)), g)) (fun m _ => m ≤ 24) (fun k m o c hc hm => by
    have z1 := f_sz_le F c
    refine ⟨⟨none, ?_⟩, ?_⟩
    · rw [eM_greatestWithout_12, h.2.2.2, if_neg (nI_ge hc (by omega)), M_parent (d + 2) h hn hc, bi_some, nI_1]
      by_cases hp : fP F c = some t
      · rw [if_pos ((eM_inj (hw.p31 hc) (q24 hn ht)).mpr hp), M_size d h hw hc, bi_some, M_size d h hw hc, bi_some, if_pos hp]
        by_cases e : m < f_sz F c
        · rw [if_neg (nI_ge e (by omega)), Nat.max_eq_right (by omega)]
        · rw [if_pos (nI_le (by omega) (by omega)), Nat.max_eq_left (by omega)]
      · rw [if_neg (fun q => hp ((eM_inj (hw.p31 hc) (q24 hn ht)).mp q)), if_neg hp]
    · split
      · omega
      · exact hm) (fun k m o _ => by
    rw [eM_greatestWithout_12, h.2.2.2, if_pos (nI_le (Nat.le_refl _) (by omega))]) (m := fN F) (t := 0) (b := f_sz F (f_r (fP F) t) - f_sz F t) (o := none) (k := 99999) (by omega) (by omega) (by have := f_sz_le F (f_r (fP F) t); omega)).1
theorem M_settles (d : Nat) (h : rMa g b F) (hw : f_wf F) {x : Nat} (hx : x < fN F) : ∃ g', am_call (d + 6) 190 [.inr (.inr (29, 0)), .inl (nI x)] g = some (some (.inl (nI (f_settle F x).1)), g') ∧ rMa g' b (f_wQ F (f_settle F x).2) ∧ mB b g g' := by
  have hn := hw.1
  have hb := h.2.2.1
  rw [cM_settles, eM_settles_0]
  obtain ⟨g', k1, k2, k3, k4⟩ := for_mem (fun k (β : Nat × (Nat → Option Nat)) g (_ : Option am_V) t => am_run (am_call (d + 5)) 190 k 4 [some (.inr (.inr (29, 0))), some (.inl (nI x)), some (.inl (nI β.1)), some (.inl (nI t))] [] g) (fN F) (f_sstep F x) (fun β g => some (some (.inl (nI β.1)), g)) (fun β g' _ => rMa g' b (f_wQ F β.2) ∧ f_wf (f_wQ F β.2) ∧ mB b g g') (fun k β g1 o t ht hi => by
    obtain ⟨i1, i2, i3⟩ := hi
    rw [eM_settles_4, show g1 142 0 0 = nI (fN F) from i1.2.2.2, if_neg (nI_ge ht (by omega)), M_areTogether (d + 1) i1 i2 (s := t) (t := x) ht hx, bi_some, nI_1]
    unfold f_sstep
    by_cases e1 : f_r (fP F) t = f_r (fP F) x
    · rw [if_pos (show f_r (fP (f_wQ F β.2)) t = f_r (fP (f_wQ F β.2)) x from e1), if_neg q_110, M_prefers (d + 3) i1 hn (t := t) ht, bi_some, M_heavyOf d i1 i2 (x := t) ht, bi_some, if_pos e1]
      by_cases e2 : β.2 t = f_hv F t
      · rw [if_pos (show eM (fQ (f_wQ F β.2) t) = eM (f_hv (f_wQ F β.2) t) from congrArg eM e2), if_pos e2]
        exact ⟨g1, none, rfl, i1, i2, i3⟩
      · rw [if_neg (fun q => e2 ((eM_eq (i2.q31 ht) (f_hv31 i2 t)).mp q)), if_neg e2, M_heavyOf d i1 i2 (x := t) ht, bi_some, k_24, M_lay (d + 4) i1.2.1 hb (by omega), bv_some, nI_1]
        refine ⟨_, none, rfl, i1.setQ hn (by omega) (f_hv F t), wf_wQ hw fun z c hz hq => ?_, i3.tr (mst_B _ (by omega) _)⟩
        by_cases ez : z = t
        · subst ez
          have hq : uo β.2 z (f_hv F z) z = some c := hq
          rw [uo_eq] at hq
          exact f_hv_some hq
        · have hq : uo β.2 t (f_hv F t) z = some c := hq
          rw [uo_ne ez] at hq
          exact i2.2.2.1 z c hz hq
    · rw [if_neg (show ¬ f_r (fP (f_wQ F β.2)) t = f_r (fP (f_wQ F β.2)) x from e1), if_pos rfl, if_neg e1]
      exact ⟨g1, none, rfl, i1, i2, i3⟩) (fun k β g1 o hi => by
    rw [eM_settles_4, show g1 142 0 0 = nI (fN F) from hi.1.2.2.2, if_pos (nI_le (Nat.le_refl _) (by omega))]) (fN F) 0 (0, fQ F) g none 99999 (by omega) (by omega) ⟨h, hw, mB.rf⟩
  exact ⟨g', k1, k2, k4⟩
end MM
