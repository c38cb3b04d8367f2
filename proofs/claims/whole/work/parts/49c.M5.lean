/-! ===== the model: by chance ===== -/
theorem FM_app {P Q : List Nat} {i j : Nat} (hp : isFM P i) (hq : isFM Q j) : isFM (P ++ Q) (if Q.getD j 0 ≤ P.getD i 0 then i else P.length + j) := by
  obtain ⟨p1, p2, p3⟩ := hp
  obtain ⟨q1, q2, q3⟩ := hq
  have hl : ∀ x, x < P.length → (P ++ Q).getD x 0 = P.getD x 0 := fun x hx => by
    rw [List.getD_eq_getElem?_getD, List.getD_eq_getElem?_getD, List.getElem?_append_left hx]
  have hr : ∀ x, P.length ≤ x → (P ++ Q).getD x 0 = Q.getD (x - P.length) 0 := fun x hx => by
    rw [List.getD_eq_getElem?_getD, List.getD_eq_getElem?_getD, List.getElem?_append_right hx]
  by_cases e : Q.getD j 0 ≤ P.getD i 0
  · rw [if_pos e]
    refine ⟨by rw [List.length_append]; omega, fun x hx => ?_, fun x hx => ?_⟩
    · rw [hl i p1, hl x (by omega)]; exact p2 x hx
    · rw [hl i p1]
      by_cases ex : x < P.length
      · rw [hl x ex]; exact p3 x ex
      · rw [hr x (by omega)]
        rw [List.length_append] at hx
        have := q3 (x - P.length) (by omega)
        omega
  · rw [if_neg e]
    have hj : (P ++ Q).getD (P.length + j) 0 = Q.getD j 0 := by rw [hr _ (by omega), show P.length + j - P.length = j by omega]
    refine ⟨by rw [List.length_append]; omega, fun x hx => ?_, fun x hx => ?_⟩
    · rw [hj]
      by_cases ex : x < P.length
      · rw [hl x ex]
        have := p3 x ex
        omega
      · rw [hr x (by omega)]; exact q2 _ (by omega)
    · rw [hj]
      by_cases ex : x < P.length
      · rw [hl x ex]
        have := p3 x ex
        omega
      · rw [hr x (by omega)]
        rw [List.length_append] at hx
        exact q3 _ (by omega)
def fin_ (w : Nat → Nat) (o o' : Option Nat) : Option Nat := match o with
  | none => o'
  | some a => match o' with
    | none => some a
    | some c => if w c ≤ w a then some a else some c
theorem fin_FM (w : Nat → Nat) (A B : List Nat) (h : A ++ B.reverse ≠ []) : ∃ k, isFM ((A ++ B.reverse).map w) k ∧ fin_ w (sb_ w none A) (sd_ w none B) = some ((A ++ B.reverse).getD k 0) := by
  cases A with
  | nil =>
    obtain ⟨k, h1, h2⟩ := sd_FM w B.reverse h
    rw [List.reverse_reverse] at h2
    exact ⟨k, h1, h2⟩
  | cons a A =>
    obtain ⟨i, p1, p2⟩ := sb_FM w (a :: A).reverse (by simp)
    rw [List.reverse_reverse] at p1 p2
    have pi := p1.1
    rw [List.length_map] at pi
    cases B with
    | nil =>
      refine ⟨i, by rw [List.reverse_nil, List.append_nil]; exact p1, ?_⟩
      rw [p2, List.reverse_nil, List.append_nil]
      rfl
    | cons c B =>
      obtain ⟨j, q1, q2⟩ := sd_FM w (c :: B).reverse (by simp)
      rw [List.reverse_reverse] at q2
      have qj := q1.1
      rw [List.length_map] at qj
      refine ⟨_, by rw [List.map_append]; exact FM_app p1 q1, ?_⟩
      rw [p2, q2, gm qj, gm pi, List.length_map]
      show (if w ((c :: B).reverse.getD j 0) ≤ w ((a :: A).getD i 0) then some ((a :: A).getD i 0) else some ((c :: B).reverse.getD j 0)) = _
      by_cases e : w ((c :: B).reverse.getD j 0) ≤ w ((a :: A).getD i 0)
      · rw [if_pos e, if_pos e, List.getD_eq_getElem?_getD, List.getD_eq_getElem?_getD, List.getElem?_append_left pi]
      · rw [if_neg e, if_neg e, List.getD_eq_getElem?_getD, List.getD_eq_getElem?_getD, List.getElem?_append_right (by omega), show (a :: A).length + j - (a :: A).length = j by omega]
section MM
variable {g : am_G} {b : Nat} {F : fF}
def okb (F : fF) (o : Option Nat) : Prop := ∀ z, o = some z → z < fN F ∧ fP F z ≠ none
theorem M_df1 (d : Nat) (h : rMa g b F) (hw : f_wf F) (x1 x2 : Int32) {m : Nat} (hm : m < fN F) : ∀ (A : List Nat) (k t : Nat) (best : Option Nat), t < fN F → f_a (fP F) t = A ++ f_a (fP F) m → A.length < k → okb F best →
    okb F (sb_ (fL F) best A) ∧ am_run (am_call (d + 2)) 232 k 9 [some (.inr (.inr (29, 0))), some (.inl x1), some (.inl x2), some (.inl (nI m)), some (.inl (eC best)), some (.inl (nI t)), none] [] g = am_run (am_call (d + 2)) 232 (k - A.length - 1) 36 [some (.inr (.inr (29, 0))), some (.inl x1), some (.inl x2), some (.inl (nI m)), some (.inl (eC (sb_ (fL F) best A))), some (.inl (-1 : Int32)), some (.inl x2)] [] g
  | [], k, t, best, ht, e, hk, hb => by
    obtain ⟨k, rfl⟩ : ∃ k', k = k' + 1 := ⟨k - 1, by omega⟩
    refine ⟨hb, ?_⟩
    rw [eM_dearestFrom_9, a_eq_hd e, if_pos rfl]
    rfl
  | y :: A, k, t, best, ht, e, hk, hb => by
    rw [List.length_cons] at hk
    obtain ⟨k, rfl⟩ : ∃ k', k = k' + 1 := ⟨k - 1, by omega⟩
    have hne := a_ne_hd e
    obtain ⟨rfl, p, hp, hpp, e2⟩ := up_cons hw.2.1 hw.1 ht e
    have hpt : fP F y ≠ none := by rw [hpp]; simp
    have hlt := len_some hw ht hpt
    have hk2 : k + 1 - (y :: A).length - 1 = k - A.length - 1 := by rw [List.length_cons]; omega
    have okt : okb F (some y) := fun z hz => by cases hz; exact ⟨ht, hpt⟩
    rw [eM_dearestFrom_9, if_neg (by rw [nI_eq (q24 hw.1 ht) (q24 hw.1 hm)]; exact hne), M_parent d h hw.1 ht, bi_some, hpp, eM_some, sb_c, hk2]
    cases best with
    | none =>
      rw [eC_none, if_pos (by decide)]
      exact M_df1 d h hw x1 x2 hm A k p (some y) hp e2 (by omega) okt
    | some z =>
      obtain ⟨hz1, hz2⟩ := hb z rfl
      have hlz := len_some hw hz1 hz2
      rw [eC_some, if_neg (q_nn (q24 hw.1 hz1)), M_ofL (d + 1) h hw.1 ht, bi_some, M_ofL (d + 1) h hw.1 hz1, bi_some, hlt.1, hlz.1, M_parent d h hw.1 ht, bi_some, bi_some, hpp, eM_some]
      dsimp only
      by_cases e : fL F y ≤ fL F z
      · rw [if_pos (nI_le e (by omega)), if_pos e]
        exact M_df1 d h hw x1 x2 hm A k p (some z) hp e2 (by omega) hb
      · rw [if_neg (nI_ge (by omega) (by omega)), if_neg e]
        exact M_df1 d h hw x1 x2 hm A k p (some y) hp e2 (by omega) okt
theorem M_df2 (d : Nat) (h : rMa g b F) (hw : f_wf F) (x1 x2 : Int32) {m : Nat} (hm : m < fN F) (ba : Option Nat) (hba : okb F ba) : ∀ (B : List Nat) (k t : Nat) (dn : Option Nat), t < fN F → f_a (fP F) t = B ++ f_a (fP F) m → B.length < k → okb F dn →
    am_run (am_call (d + 2)) 232 k 36 [some (.inr (.inr (29, 0))), some (.inl x1), some (.inl x2), some (.inl (nI m)), some (.inl (eC ba)), some (.inl (eC dn)), some (.inl (nI t))] [] g = some (some (.inl (eC (fin_ (fL F) ba (sd_ (fL F) dn B)))), g)
  | [], k, t, dn, ht, e, hk, hb => by
    obtain ⟨k, rfl⟩ : ∃ k', k = k' + 1 := ⟨k - 1, by omega⟩
    rw [eM_dearestFrom_36, a_eq_hd e, if_pos rfl, sd_]
    cases ba with
    | none => rw [eC_none, if_pos (by decide)]; rfl
    | some a =>
      obtain ⟨ha1, ha2⟩ := hba a rfl
      have hla := len_some hw ha1 ha2
      rw [eC_some, if_neg (q_nn (q24 hw.1 ha1))]
      cases dn with
      | none => rw [eC_none, if_pos (by decide)]; rfl
      | some c =>
        obtain ⟨hc1, hc2⟩ := hb c rfl
        have hlc := len_some hw hc1 hc2
        rw [eC_some, if_neg (q_nn (q24 hw.1 hc1)), M_ofL (d + 1) h hw.1 hc1, bi_some, M_ofL (d + 1) h hw.1 ha1, bi_some, hlc.1, hla.1]
        show _ = some (some (Sum.inl (eC (if fL F c ≤ fL F a then some a else some c))), g)
        by_cases e : fL F c ≤ fL F a
        · rw [if_pos (nI_le e (by omega)), if_pos e]; rfl
        · rw [if_neg (nI_ge (by omega) (by omega)), if_neg e]; rfl
  | y :: B, k, t, dn, ht, e, hk, hb => by
    rw [List.length_cons] at hk
    obtain ⟨k, rfl⟩ : ∃ k', k = k' + 1 := ⟨k - 1, by omega⟩
    have hne := a_ne_hd e
    obtain ⟨rfl, p, hp, hpp, e2⟩ := up_cons hw.2.1 hw.1 ht e
    have hpt : fP F y ≠ none := by rw [hpp]; simp
    have hlt := len_some hw ht hpt
    have okt : okb F (some y) := fun z hz => by cases hz; exact ⟨ht, hpt⟩
    rw [eM_dearestFrom_36, if_neg (by rw [nI_eq (q24 hw.1 ht) (q24 hw.1 hm)]; exact hne), M_parent d h hw.1 ht, bi_some, hpp, eM_some, sd_c]
    cases dn with
    | none =>
      rw [eC_none, if_pos (by decide)]
      exact M_df2 d h hw x1 x2 hm ba hba B k p (some y) hp e2 (by omega) okt
    | some z =>
      obtain ⟨hz1, hz2⟩ := hb z rfl
      have hlz := len_some hw hz1 hz2
      rw [eC_some, if_neg (q_nn (q24 hw.1 hz1)), M_ofL (d + 1) h hw.1 ht, bi_some, M_ofL (d + 1) h hw.1 hz1, bi_some, hlt.1, hlz.1, M_parent d h hw.1 ht, bi_some, bi_some, hpp, eM_some]
      dsimp only
      by_cases e : fL F y < fL F z
      · rw [if_pos (nI_lt e (by omega)), if_pos e]
        exact M_df2 d h hw x1 x2 hm ba hba B k p (some z) hp e2 (by omega) hb
      · rw [if_neg (nI_nlt (by omega) (by omega)), if_neg e]
        exact M_df2 d h hw x1 x2 hm ba hba B k p (some y) hp e2 (by omega) okt
/-- the dearest link of a way that is not walked -/
theorem M_cutFrom (d : Nat) (h : rMa g b F) (hw : f_wf F) {s t : Nat} (hs : s < fN F) (ht : t < fN F) (hr : f_r (fP F) s = f_r (fP F) t) (hst : s ≠ t) : ∃ z x y, am_call (d + 5) 232 [.inr (.inr (29, 0)), .inl (nI s), .inl (nI t)] g = some (some (.inl (nI z)), g) ∧ am_call (d + 5) 233 [.inr (.inr (29, 0)), .inl (nI z), .inl (nI s)] g = some (some (.inl (nI x)), g) ∧ am_call (d + 5) 234 [.inr (.inr (29, 0)), .inl (nI z), .inl (nI s)] g = some (some (.inl (nI y)), g) ∧ x < fN F ∧ y < fN F ∧ f_cutd F (f_way (fP F) s t) = f_cut F x y := by
  obtain ⟨m, A, B, hm⟩ := f_md_ex hw.2.1 hw.1 ht s hs hr
  have hmn := f_a_lt hw.2.1 hs hm.mem.1
  have hal := hw.al hs
  have hbl := hw.al ht
  rw [hm.1, List.length_append] at hal
  rw [hm.2.1, List.length_append] at hbl
  have hL := f_way_md hw.2.1 hm
  have hM : f_ws (fP F) id (f_way (fP F) s t) = A ++ B.reverse := by
    rw [f_ws_way hw.2.1 hw.1 hs ht hm]; simp
  have hW : wsL F s t = (A ++ B.reverse).map (fL F) := by
    unfold wsL
    rw [f_ws_way hw.2.1 hw.1 hs ht hm]; simp
  have wl := way_len hw hs ht
  have hl2 : 2 ≤ (f_way (fP F) s t).length := by
    have q0 : ¬ (f_way (fP F) s t).length = 0 := fun q => wl.1.mp q hr
    have q1 : ¬ (f_way (fP F) s t).length = 1 := fun q => hst (wl.2.mp q)
    omega
  have hMl : (A ++ B.reverse).length = (f_way (fP F) s t).length - 1 := by rw [← hM, f_ws_len]
  have hpos : ∀ v ∈ wsL F s t, 1 ≤ v := fun v hv => (wsL_pos hw hs ht v hv).1
  obtain ⟨k, hk⟩ := f_dx_some (wsL F s t) hpos (by rw [f_ws_len]; omega)
  obtain ⟨hFM, -⟩ := dx_FM _ hpos hk
  obtain ⟨k', h1, h2⟩ := fin_FM (fL F) A B (fun q => by have := congrArg List.length q; rw [hMl] at this; simp at this; omega)
  rw [hW] at hFM
  have ek := hFM.uq h1
  subst ek
  have hkl := hFM.1
  rw [List.length_map, hMl] at hkl
  obtain ⟨x, y, hx, hy⟩ := get2 (L := f_way (fP F) s t) (k := k) (by omega)
  have hxn := f_way_lt hw.2.1 hw.1 hs ht x (List.mem_of_getElem? hx)
  have hyn := f_way_lt hw.2.1 hw.1 hs ht y (List.mem_of_getElem? hy)
  have hz : (A ++ B.reverse)[k]? = some (f_lw (fP F) x y) := by
    rw [← hM]; exact f_ws_at hx hy
  have hzd : (A ++ B.reverse).getD k 0 = f_lw (fP F) x y := by rw [List.getD_eq_getElem?_getD, hz]; rfl
  have hxy : x ≠ y := fun q => by
    have hnd := (f_way_nd hw hs ht).1
    have e1 := (List.getElem?_inj (i := k) (j := k + 1) (by omega) hnd).mp (by rw [hx, hy, q])
    omega
  have hcut : f_cutd F (f_way (fP F) s t) = f_cut F x y := by
    unfold f_cutd
    rw [hk]
    dsimp only
    rw [List.getD_eq_getElem?_getD, hx, List.getD_eq_getElem?_getD, hy]
    rfl
  have hcall : am_call (d + 5) 232 [.inr (.inr (29, 0)), .inl (nI s), .inl (nI t)] g = some (some (.inl (nI (f_lw (fP F) x y))), g) := by
    obtain ⟨o1, r1⟩ := M_df1 (d + 2) h hw (nI s) (nI t) hmn A 99999 s none hs hm.1 (by omega) (fun z hz => by cases hz)
    have r2 := M_df2 (d + 2) h hw (nI s) (nI t) hmn (sb_ (fL F) none A) o1 B (99999 - A.length - 1) t none ht hm.2.1 (by omega) (fun z hz => by cases hz)
    rw [cM_dearestFrom, eM_dearestFrom_0, M_meetOf d h hw hs ht hr, bi_some, f_m_md hw.2.1 hm, eM_some]
    refine Eq.trans r1 (Eq.trans r2 ?_)
    rw [h2, hzd, eC_some]
  have hzn : f_lw (fP F) x y < fN F := f_lw_lt hxn hyn
  have hleft : k < A.length → x = f_lw (fP F) x y := fun q => by
    rw [hL, List.getElem?_append_left q] at hx
    rw [List.getElem?_append_left q, hx] at hz
    exact Option.some.inj hz
  have hright : A.length ≤ k → y = f_lw (fP F) x y ∧ y ∈ B := fun q => by
    rw [hL, List.getElem?_append_right (by omega), show k + 1 - A.length = (k - A.length) + 1 by omega, List.getElem?_cons_succ] at hy
    rw [List.getElem?_append_right q, hy] at hz
    exact ⟨Option.some.inj hz, List.mem_reverse.mp (List.mem_of_getElem? hy)⟩
  refine ⟨f_lw (fP F) x y, x, y, hcall, ?_, ?_, hxn, hyn, hcut⟩
  all_goals
    by_cases q : k < A.length
  · have e := hleft q
    have hin : x ∈ f_a (fP F) s := by
      rw [hm.1]
      rw [hL, List.getElem?_append_left q] at hx
      exact List.mem_append_left _ (List.mem_of_getElem? hx)
    rw [← e, cM_nearer, eM_nearer_0, M_isAbove (d + 1) h hw (q24 hw.1 hxn) hs, bi_some, if_pos hin, if_neg q_110]
  · obtain ⟨e, hyB⟩ := hright (by omega)
    have hout : y ∉ f_a (fP F) s := hm.2.2.2 y hyB
    have hpy : fP F y = some x := by
      have hk2 := f_lks_at (f_way_lks hw.2.1 hw.1 hs ht) hx hy
      rcases hk2 with q1 | q1
      · exfalso
        unfold f_lw at e
        rw [if_pos q1] at e
        exact hxy e.symm
      · exact q1
    rw [← e, cM_nearer, eM_nearer_0, M_isAbove (d + 1) h hw (q24 hw.1 hyn) hs, bi_some, if_neg hout, if_pos rfl, M_parent (d + 2) h hw.1 hyn, bi_some, hpy, eM_some]
  · have e := hleft q
    have hin : x ∈ f_a (fP F) s := by
      rw [hm.1]
      rw [hL, List.getElem?_append_left q] at hx
      exact List.mem_append_left _ (List.mem_of_getElem? hx)
    have hpx : fP F x = some y := by
      unfold f_lw at e
      split at e
      · assumption
      · exact absurd e hxy
    rw [← e, cM_further, eM_further_0, M_isAbove (d + 1) h hw (q24 hw.1 hxn) hs, bi_some, if_pos hin, if_neg q_110, M_parent (d + 2) h hw.1 hxn, bi_some, hpx, eM_some]
  · obtain ⟨e, hyB⟩ := hright (by omega)
    have hout : y ∉ f_a (fP F) s := hm.2.2.2 y hyB
    rw [← e, cM_further, eM_further_0, M_isAbove (d + 1) h hw (q24 hw.1 hyn) hs, bi_some, if_neg hout, if_pos rfl]
theorem cutd_no {L : List Nat} (h : L.length ≤ 1) : f_cutd F L = F := by
  have e : f_ws (fP F) (fL F) L = [] := List.length_eq_zero_iff.mp (by rw [f_ws_len]; omega)
  unfold f_cutd
  rw [e]
  rfl
/-- bank b and what is drawn -/
def mD (b : Nat) (g g' : am_G) : Prop := (∀ c j, ¬ (c = 32 ∧ j = 0) → ¬ (c = 149 ∧ j = 0) → g' c j = g c j) ∧ ∀ k, ¬ (121 * b ≤ k ∧ k < 121 * b + 121) → g' 32 0 k = g 32 0 k
theorem mD.rf : mD b g g := ⟨fun _ _ _ _ => rfl, fun _ _ => rfl⟩
theorem mD.tr {g1 g2 : am_G} (h1 : mD b g g1) (h2 : mD b g1 g2) : mD b g g2 := ⟨fun c j h h' => (h2.1 c j h h').trans (h1.1 c j h h'), fun k h => (h2.2 k h).trans (h1.2 k h)⟩
theorem mB.D {g' : am_G} (h : mB b g g') : mD b g g' := ⟨fun c j q _ => h.1 c j q, h.2⟩
theorem mD.put (x : Int32) : mD b g (am_put g 149 0 x) := ⟨fun c j _ q => m_put_ne q, fun k _ => by rw [m_put_ne (by simp)]⟩
theorem rMa.p149 (h : rMa g b F) (x : Int32) : rMa (am_put g 149 0 x) b F := by
  obtain ⟨⟨h1, h2⟩, h3, h4, h5⟩ := h
  refine ⟨⟨?_, fun t ht => ?_⟩, ?_, h4, ?_⟩
  · rw [m_put_ne (by simp)]; exact h1
  · rw [m_put_ne (by simp)]; exact h2 t ht
  · rw [m_put_ne (by simp)]; exact h3
  · rw [m_put_ne (by simp)]; exact h5
theorem M_byChance (d : Nat) {l : Nat} (h : rMa g b F) (hw : f_wf F) (h0 : 0 < fN F) (hg : g 149 0 0 = nI l) (hl : l < 2 ^ 31) : ∃ g', am_call (d + 8) 231 [.inr (.inr (29, 0))] g = some (none, g') ∧ rMa g' b (f_chance F l).1 ∧ g' 149 0 0 = nI (f_chance F l).2 ∧ (f_chance F l).2 < 2 ^ 31 ∧ mD b g g' := by
  have hn := hw.1
  have hn31 : fN F < 2 ^ 31 := by omega
  have ha := dv_lt (dw l) h0
  have hb := dv_lt (dw (dw l)) h0
  have h1 := h.p149 (nI (dw l))
  have h2 := h1.p149 (nI (dw (dw l)))
  have h3 := h2.p149 (nI (dw (dw (dw l))))
  have d1 := dw_lt l
  have d2 := dw_lt (dw l)
  have d3 := dw_lt (dw (dw l))
  have d4 := dw_lt (dw (dw (dw l)))
  rw [cM_byChance, eM_byChance_0, q_n4, M_draw (d + 6) hg hl (by omega) (by omega), bi_some, h1.2.2.2, M_draw (d + 6) (m_put _ _ _ _ _) d1 h0 hn31, bi_some, h2.2.2.2, M_draw (d + 6) (m_put _ _ _ _ _) d2 h0 hn31, bi_some]
  generalize hG : am_put (am_put (am_put g 149 0 (nI (dw l))) 149 0 (nI (dw (dw l)))) 149 0 (nI (dw (dw (dw l)))) = G at h3 ⊢
  have hG9 : G 149 0 0 = nI (dw (dw (dw l))) := by rw [← hG, m_put]
  have hGD : mD b g G := by rw [← hG]; exact ((mD.put _).tr (mD.put _)).tr (mD.put _)
  unfold f_chance
  rcases q_d4 (l := l) with e | e | e | e
  · obtain ⟨g', k1, k2, k3⟩ := M_touches (d + 3) h3 hw ha
    rw [e, if_pos (show nI 0 = (0 : Int32) from rfl), k1, bi_some]
    exact ⟨g', rfl, k2, by rw [k3.1 149 0 (by simp)]; exact hG9, d3, hGD.tr k3.D⟩
  · obtain ⟨g', k1, k2, k3⟩ := M_reroots (d + 2) h3 hw ha
    rw [e, if_neg (show ¬ nI 1 = (0 : Int32) by decide), if_pos (show nI 1 = (1 : Int32) from rfl), k1, bi_some]
    exact ⟨g', rfl, k2, by rw [k3.1 149 0 (by simp)]; exact hG9, d3, hGD.tr k3.D⟩
  · rw [e, if_neg (show ¬ nI 2 = (0 : Int32) by decide), if_neg (show ¬ nI 2 = (1 : Int32) by decide), if_pos (show nI 2 = (2 : Int32) from rfl), M_areTogether (d + 3) h3 hw ha hb, bi_some]
    by_cases er : f_r (fP F) (dv (dw l) (fN F)) = f_r (fP F) (dv (dw (dw l)) (fN F))
    · rw [if_pos er, if_neg q_110, if_pos er]
      exact ⟨G, rfl, h3, hG9, d3, hGD⟩
    · have h4 := h3.p149 (nI (dw (dw (dw (dw l)))))
      obtain ⟨g', k1, k2, k3⟩ := M_links (d + 1) h4 hw ha hb (dv (dw (dw (dw l))) 100 + 1) 1
      rw [if_neg er, if_pos rfl, if_neg er, q_n100, M_draw (d + 6) hG9 d3 (by omega) (by omega), bi_some, nI_1]
      have k1' : am_call (d + 7) 171 [.inr (.inr (29, 0)), .inl (nI (dv (dw l) (fN F))), .inl (nI (dv (dw (dw l)) (fN F))), .inl (nI (dv (dw (dw (dw l))) 100 + 1)), .inl (1 : Int32)] (am_put G 149 0 (nI (dw (dw (dw (dw l)))))) = some (none, g') := k1
      rw [k1', bv_some]
      exact ⟨g', rfl, k2, by rw [k3.1 149 0 (by simp), m_put]; rfl, d4, (hGD.tr (mD.put _)).tr k3.D⟩
  · rw [e, if_neg (show ¬ nI 3 = (0 : Int32) by decide), if_neg (show ¬ nI 3 = (1 : Int32) by decide), if_neg (show ¬ nI 3 = (2 : Int32) by decide)]
    have wl := way_len hw ha hb
    by_cases eab : dv (dw l) (fN F) = dv (dw (dw l)) (fN F)
    · rw [if_pos (by rw [eab]), cutd_no (by rw [wl.2.mpr eab]; omega)]
      exact ⟨G, rfl, h3, hG9, d3, hGD⟩
    · rw [if_neg (by rw [nI_eq (by omega) (by omega)]; exact eab), M_areTogether (d + 3) h3 hw ha hb, bi_some]
      by_cases er : f_r (fP F) (dv (dw l) (fN F)) = f_r (fP F) (dv (dw (dw l)) (fN F))
      · obtain ⟨z, x, y, c1, c2, c3, c4, c5, c6⟩ := M_cutFrom (d + 2) h3 hw ha hb er eab
        obtain ⟨g', k1, k2, k3⟩ := M_cuts d h3 hw c4 c5
        rw [if_pos er, if_neg q_110, c1, bi_some, c2, bi_some, c3, bi_some, k1, bv_some, c6]
        exact ⟨g', rfl, k2, by rw [k3.1 149 0 (by simp)]; exact hG9, d3, hGD.tr k3.D⟩
      · rw [if_neg er, if_pos rfl, cutd_no (by rw [wl.1.mpr er]; omega)]
        exact ⟨G, rfl, h3, hG9, d3, hGD⟩
end MM
