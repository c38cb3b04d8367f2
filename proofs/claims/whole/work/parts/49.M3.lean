/-! ===== the model: the dearest link, how far ===== -/
def sd_ (w : Nat → Nat) : Option Nat → List Nat → Option Nat
  | best, [] => best
  | best, x :: r => sd_ w (match best with
    | none => some x
    | some z => if w x < w z then some z else some x) r
def sb_ (w : Nat → Nat) : Option Nat → List Nat → Option Nat
  | best, [] => best
  | best, x :: r => sb_ w (match best with
    | none => some x
    | some z => if w x ≤ w z then some z else some x) r
theorem sd_c (w : Nat → Nat) (best : Option Nat) (x : Nat) (r : List Nat) : sd_ w best (x :: r) = sd_ w (match best with
    | none => some x
    | some z => if w x < w z then some z else some x) r := rfl
theorem sb_c (w : Nat → Nat) (best : Option Nat) (x : Nat) (r : List Nat) : sb_ w best (x :: r) = sb_ w (match best with
    | none => some x
    | some z => if w x ≤ w z then some z else some x) r := rfl
theorem sd_app (w : Nat → Nat) : ∀ (A B : List Nat) (o : Option Nat), sd_ w o (A ++ B) = sd_ w (sd_ w o A) B
  | [], _, _ => rfl
  | x :: A, B, o => sd_app w A B _
theorem sb_app (w : Nat → Nat) : ∀ (A B : List Nat) (o : Option Nat), sb_ w o (A ++ B) = sb_ w (sb_ w o A) B
  | [], _, _ => rfl
  | x :: A, B, o => sb_app w A B _
/-- the first of the greatest -/
def isFM (ws : List Nat) (k : Nat) : Prop := k < ws.length ∧ (∀ j, j < k → ws.getD j 0 < ws.getD k 0) ∧ ∀ j, j < ws.length → ws.getD j 0 ≤ ws.getD k 0
theorem isFM.uq {ws : List Nat} {k k' : Nat} (h : isFM ws k) (h' : isFM ws k') : k = k' := by
  rcases Nat.lt_trichotomy k k' with q | q | q
  · have h1 := h'.2.1 k q
    have h2 := h.2.2 k' h'.1
    omega
  · exact q
  · have h1 := h.2.1 k' q
    have h2 := h'.2.2 k h.1
    omega
theorem dx_FM (ws : List Nat) (hp : ∀ v ∈ ws, 1 ≤ v) {k : Nat} (hk : (f_dx ws).1 = some k) : isFM ws k ∧ (f_dx ws).2 = ws.getD k 0 := by
  have hv : ∀ t, t < ws.length → 1 ≤ ws.getD t 0 := fun t ht => by
    rw [List.getD_eq_getElem?_getD, List.getElem?_eq_getElem ht]
    exact hp _ (List.getElem_mem ht)
  have key : ∀ (m t : Nat) (b : Option Nat × Nat), t + m = ws.length → (b.1 = none → b.2 = 0 ∧ t = 0) → (∀ k, b.1 = some k → k < t ∧ b.2 = ws.getD k 0 ∧ (∀ j, j < k → ws.getD j 0 < ws.getD k 0) ∧ ∀ j, j < t → ws.getD j 0 ≤ ws.getD k 0) → ∀ k, (fo (fun (b : Option Nat × Nat) t => if ws.getD t 0 ≤ b.2 then b else (some t, ws.getD t 0)) b t m).1 = some k → isFM ws k ∧ (fo (fun (b : Option Nat × Nat) t => if ws.getD t 0 ≤ b.2 then b else (some t, ws.getD t 0)) b t m).2 = ws.getD k 0 := by
    intro m
    induction m with
    | zero =>
      intro t b ht h0 h1 k hk
      obtain ⟨a1, a2, a3, a4⟩ := h1 k hk
      exact ⟨⟨by omega, a3, fun j hj => a4 j (by omega)⟩, a2⟩
    | succ m ih =>
      intro t b ht h0 h1 k hk
      rw [fo] at hk ⊢
      have hvt := hv t (by omega)
      by_cases e : ws.getD t 0 ≤ b.2
      · rw [if_pos e] at hk ⊢
        refine ih (t + 1) b (by omega) (fun q => by have := h0 q; omega) (fun k hk => ?_) k hk
        obtain ⟨a1, a2, a3, a4⟩ := h1 k hk
        refine ⟨by omega, a2, a3, fun j hj => ?_⟩
        by_cases ej : j = t
        · subst ej; omega
        · exact a4 j (by omega)
      · rw [if_neg e] at hk ⊢
        refine ih (t + 1) _ (by omega) (fun q => by cases q) (fun k hk => ?_) k hk
        cases hk
        have hlt : ∀ j, j < t → ws.getD j 0 < ws.getD t 0 := fun j hj => by
          cases hb : b.1 with
          | none => have := h0 hb; omega
          | some z =>
            obtain ⟨a1, a2, a3, a4⟩ := h1 z hb
            have := a4 j hj
            omega
        refine ⟨by omega, rfl, hlt, fun j hj => ?_⟩
        by_cases ej : j = t
        · subst ej; exact Nat.le_refl _
        · exact Nat.le_of_lt (hlt j (by omega))
  exact key ws.length 0 (none, 0) (by omega) (fun _ => ⟨rfl, rfl⟩) (fun k hk => by cases hk) k hk
theorem gm {M : List Nat} {w : Nat → Nat} {j : Nat} (h : j < M.length) : (M.map w).getD j 0 = w (M.getD j 0) := by
  rw [List.getD_eq_getElem?_getD, List.getD_eq_getElem?_getD, List.getElem?_map, List.getElem?_eq_getElem h]
  rfl
theorem sd_FM (w : Nat → Nat) : ∀ (M : List Nat), M ≠ [] → ∃ k, isFM (M.map w) k ∧ sd_ w none M.reverse = some (M.getD k 0)
  | [], h => absurd rfl h
  | [x], _ => ⟨0, ⟨by simp, fun j hj => by omega, fun j hj => by simp at hj; subst hj; exact Nat.le_refl _⟩, rfl⟩
  | x :: y :: M, _ => by
    obtain ⟨k, ⟨a1, a2, a3⟩, a4⟩ := sd_FM w (y :: M) (by simp)
    rw [List.length_map] at a1 a3
    rw [List.reverse_cons, sd_app, a4]
    have hk : ((y :: M).map w).getD k 0 = w ((y :: M).getD k 0) := gm a1
    have hs : ∀ j, ((x :: y :: M).map w).getD (j + 1) 0 = ((y :: M).map w).getD j 0 := fun j => by simp [List.getD_eq_getElem?_getD]
    have h0 : ((x :: y :: M).map w).getD 0 0 = w x := rfl
    by_cases e : w x < w ((y :: M).getD k 0)
    · refine ⟨k + 1, ⟨by simp at a1 ⊢; omega, fun j hj => ?_, fun j hj => ?_⟩, ?_⟩
      · rw [hs k]
        cases j with
        | zero => rw [h0, hk]; exact e
        | succ j => rw [hs j]; exact a2 j (by omega)
      · rw [hs k]
        cases j with
        | zero => rw [h0, hk]; omega
        | succ j => rw [hs j]; exact a3 j (by simp at hj ⊢; omega)
      · show sd_ w (if w x < w ((y :: M).getD k 0) then some ((y :: M).getD k 0) else some x) [] = _
        rw [if_pos e]
        simp [sd_, List.getD_eq_getElem?_getD]
    · refine ⟨0, ⟨by simp, fun j hj => by omega, fun j hj => ?_⟩, ?_⟩
      · cases j with
        | zero => exact Nat.le_refl _
        | succ j =>
          rw [hs j, h0]
          have := a3 j (by simp at hj ⊢; omega)
          rw [hk] at this
          omega
      · show sd_ w (if w x < w ((y :: M).getD k 0) then some ((y :: M).getD k 0) else some x) [] = _
        rw [if_neg e]
        rfl
theorem sb_FM (w : Nat → Nat) : ∀ (N : List Nat), N ≠ [] → ∃ k, isFM (N.reverse.map w) k ∧ sb_ w none N.reverse = some (N.reverse.getD k 0)
  | [], h => absurd rfl h
  | [x], _ => ⟨0, ⟨by simp, fun j hj => by omega, fun j hj => by simp at hj; subst hj; exact Nat.le_refl _⟩, rfl⟩
  | x :: y :: N, _ => by
    obtain ⟨k, ⟨a1, a2, a3⟩, a4⟩ := sb_FM w (y :: N) (by simp)
    rw [List.reverse_cons, sb_app, a4]
    generalize hM : (y :: N).reverse = M at *
    rw [List.length_map] at a1 a3
    have hk : (M.map w).getD k 0 = w (M.getD k 0) := gm a1
    have hl : ∀ j, j < M.length → ((M ++ [x]).map w).getD j 0 = (M.map w).getD j 0 := fun j hj => by
      rw [List.map_append, List.getD_eq_getElem?_getD, List.getD_eq_getElem?_getD, List.getElem?_append_left (by simpa using hj)]
    have hx : ((M ++ [x]).map w).getD M.length 0 = w x := by
      rw [List.map_append, List.getD_eq_getElem?_getD, List.getElem?_append_right (by simp)]
      simp
    have hlen : ((M ++ [x]).map w).length = M.length + 1 := by simp
    by_cases e : w x ≤ w (M.getD k 0)
    · refine ⟨k, ⟨by omega, fun j hj => ?_, fun j hj => ?_⟩, ?_⟩
      · rw [hl k a1, hl j (by omega)]; exact a2 j hj
      · rw [hl k a1]
        by_cases ej : j < M.length
        · rw [hl j ej]; exact a3 j ej
        · have : j = M.length := by omega
          subst this
          rw [hx, hk]; exact e
      · show sb_ w (if w x ≤ w (M.getD k 0) then some (M.getD k 0) else some x) [] = _
        rw [if_pos e, List.getD_eq_getElem?_getD, List.getD_eq_getElem?_getD, List.getElem?_append_left a1]
        rfl
    · refine ⟨M.length, ⟨by omega, fun j hj => ?_, fun j hj => ?_⟩, ?_⟩
      · rw [hx, hl j hj]
        have := a3 j hj
        rw [hk] at this
        omega
      · rw [hx]
        by_cases ej : j < M.length
        · rw [hl j ej]
          have := a3 j ej
          rw [hk] at this
          omega
        · have : j = M.length := by omega
          subst this
          rw [hx]; exact Nat.le_refl _
      · show sb_ w (if w x ≤ w (M.getD k 0) then some (M.getD k 0) else some x) [] = _
        rw [if_neg e, List.getD_eq_getElem?_getD, List.getElem?_append_right (Nat.le_refl _)]
        simp [sb_]
section MM
variable {g : am_G} {b : Nat} {F : fF}
theorem len_some (hw : f_wf F) {z : Nat} (hz : z < fN F) (hp : fP F z ≠ none) : eM ((fP F z).map fun _ => fL F z) = nI (fL F z) ∧ 1 ≤ fL F z ∧ fL F z ≤ 9999 := by
  have := hw.2.2.2 z hz hp
  cases hq : fP F z with
  | none => exact absurd hq hp
  | some p => exact ⟨rfl, this.1, this.2.1⟩
theorem cap_some (hw : f_wf F) {z : Nat} (hz : z < fN F) (hp : fP F z ≠ none) : eM ((fP F z).map fun _ => fC F z) = nI (fC F z) ∧ fC F z ≤ 9999 := by
  have := hw.2.2.2 z hz hp
  cases hq : fP F z with
  | none => exact absurd hq hp
  | some p => exact ⟨rfl, this.2.2⟩
theorem M_dearestTo_loop (d : Nat) (h : rMa g b F) (hw : f_wf F) (x1 : Int32) : ∀ (k t : Nat) (best : Option Nat), t < fN F → (f_a (fP F) t).length ≤ k → (∀ z, best = some z → z < fN F ∧ fP F z ≠ none) →
    am_run (am_call (d + 2)) 174 k 4 [some (.inr (.inr (29, 0))), some (.inl x1), some (.inl (eC best)), some (.inl (nI t))] [] g = some (some (.inl (eC (sd_ (fL F) best (f_a (fP F) t).dropLast))), g)
  | 0, t, best, ht, hk, hb => by have := f_a_pos (fP F) t; omega
  | k + 1, t, best, ht, hk, hb => by
    rw [eM_dearestTo_4, M_parent d h hw.1 ht, bi_some]
    cases hp : fP F t with
    | none => rw [eM_none, if_pos (by decide), hw.an ht hp]; rfl
    | some p =>
      have hpn := hw.p ht hp
      have hpt : fP F t ≠ none := by rw [hp]; simp
      have hlt := len_some hw ht hpt
      rw [hw.as ht hp] at hk ⊢
      rw [List.length_cons] at hk
      have hdl : (t :: f_a (fP F) p).dropLast = t :: (f_a (fP F) p).dropLast := by
        obtain ⟨r, er⟩ := f_a_hd (fP F) p
        rw [er]; rfl
      rw [eM_some, if_neg (q_nn (q24 hw.1 hpn)), M_parent d h hw.1 ht, bi_some, hp, eM_some, hdl, sd_c]
      cases best with
      | none =>
        rw [eC_none, if_pos (by decide)]
        exact M_dearestTo_loop d h hw x1 k p (some t) hpn (by omega) (fun z hz => by cases hz; exact ⟨ht, hpt⟩)
      | some z =>
        obtain ⟨hz1, hz2⟩ := hb z rfl
        have hlz := len_some hw hz1 hz2
        rw [eC_some, if_neg (q_nn (q24 hw.1 hz1)), M_ofL (d + 1) h hw.1 ht, bi_some, M_ofL (d + 1) h hw.1 hz1, bi_some, hlt.1, hlz.1, M_parent d h hw.1 ht, bi_some, bi_some, hp, eM_some]
        dsimp only
        by_cases e : fL F t < fL F z
        · rw [if_pos (nI_lt e (by omega)), if_pos e]
          exact M_dearestTo_loop d h hw x1 k p (some z) hpn (by omega) hb
        · rw [if_neg (nI_nlt (by omega) (by omega)), if_neg e]
          exact M_dearestTo_loop d h hw x1 k p (some t) hpn (by omega) (fun z hz => by cases hz; exact ⟨ht, hpt⟩)
theorem M_dearestTo (d : Nat) (h : rMa g b F) (hw : f_wf F) {t : Nat} (ht : t < fN F) : am_call (d + 3) 174 [.inr (.inr (29, 0)), .inl (nI t)] g = some (some (.inl (eC (sd_ (fL F) none (f_a (fP F) t).dropLast))), g) := by
  have := hw.al ht
  rw [cM_dearestTo, eM_dearestTo_0]
  exact M_dearestTo_loop d h hw (nI t) 99999 t none ht (by omega) (fun z hz => by cases hz)
theorem rev_dl (L : List Nat) : L.reverse.dropLast = L.tail.reverse := by
  cases L with
  | nil => rfl
  | cons x L => simp
theorem walk_up (hw : f_wf F) {s t : Nat} (hs : s < fN F) (ht : t < fN F) (hr : f_r (fP F) s = f_r (fP F) t) : (f_a (fP (f_walk F s t)) t).dropLast = (f_way (fP F) s t).tail.reverse := by
  show (f_a (fP (f_reroot F s)) t).dropLast = _
  rw [f_way_rr hw hs ht hr, rev_dl]
/-- the dearest link of a walked way, by its lower end -/
theorem walk_dear (hw : f_wf F) {s t : Nat} (hs : s < fN F) (ht : t < fN F) (hr : f_r (fP F) s = f_r (fP F) t) (hst : s ≠ t) : ∃ k x y, (f_dx (wsL F s t)).1 = some k ∧ (f_way (fP F) s t)[k]? = some x ∧ (f_way (fP F) s t)[k + 1]? = some y ∧ sd_ (fL (f_walk F s t)) none (f_a (fP (f_walk F s t)) t).dropLast = some y ∧ fL (f_walk F s t) y = (f_dx (wsL F s t)).2 ∧ fP (f_walk F s t) y = some x ∧ f_cutd (f_walk F s t) (f_way (fP F) s t) = f_cut (f_walk F s t) x y := by
  have wl := way_len hw hs ht
  have hl2 : 2 ≤ (f_way (fP F) s t).length := by
    have q0 : ¬ (f_way (fP F) s t).length = 0 := fun q => wl.1.mp q hr
    have q1 : ¬ (f_way (fP F) s t).length = 1 := fun q => hst (wl.2.mp q)
    omega
  have hpos : ∀ v ∈ wsL F s t, 1 ≤ v := fun v hv => (wsL_pos hw hs ht v hv).1
  obtain ⟨k, hk⟩ := f_dx_some (wsL F s t) hpos (by rw [f_ws_len]; omega)
  obtain ⟨hFM, hval⟩ := dx_FM _ hpos hk
  have hkl := hFM.1
  rw [f_ws_len] at hkl
  obtain ⟨x, y, hx, hy⟩ := get2 (L := f_way (fP F) s t) (k := k) (by omega)
  have htl : (f_way (fP F) s t).tail.getD k 0 = y := by
    rw [List.getD_eq_getElem?_getD, List.getElem?_tail, hy]; rfl
  obtain ⟨k', h1, h2⟩ := sd_FM (fL (f_walk F s t)) (f_way (fP F) s t).tail (fun q => by
    have := congrArg List.length q
    rw [List.length_tail] at this
    simp at this
    omega)
  rw [walk_wsL hw hs ht hr] at h1
  have ek := hFM.uq h1
  subst ek
  refine ⟨k, x, y, hk, hx, hy, by rw [walk_up hw hs ht hr, h2, htl], ?_, way_up hw hs ht hr hx hy, ?_⟩
  · rw [hval]
    have : (wsL F s t).getD k 0 = ((f_way (fP F) s t).tail.map (fL (f_walk F s t))).getD k 0 := by rw [walk_wsL hw hs ht hr]
    rw [this, gm (by rw [List.length_tail]; omega), htl]
  · unfold f_cutd
    rw [walk_ws hw hs ht hr, walk_wsL hw hs ht hr, hk]
    dsimp only
    rw [List.getD_eq_getElem?_getD, hx, List.getD_eq_getElem?_getD, hy]
    rfl
theorem M_cutsDearest (d : Nat) (h : rMa g b F) (hw : f_wf F) {s t : Nat} (hs : s < fN F) (ht : t < fN F) (hr : f_r (fP F) s = f_r (fP F) t) (hst : s ≠ t) : ∃ g', am_call (d + 8) 175 [.inr (.inr (29, 0)), .inl (nI s), .inl (nI t)] g = some (some (.inl (nI (f_dx (wsL F s t)).2)), g') ∧ rMa g' b (f_cutd (f_walk F s t) (f_way (fP F) s t)) ∧ mB b g g' := by
  obtain ⟨g1, h1, h2, h3⟩ := M_walks (d + 1) h hw hs ht
  have hw2 := wf_walk hw hs ht
  have hN2 : fN (f_walk F s t) = fN F := wk_N
  obtain ⟨k, x, y, e1, e2, e3, e4, e5, e6, e7⟩ := walk_dear hw hs ht hr hst
  have hyn : y < fN (f_walk F s t) := by rw [hN2]; exact f_way_lt hw.2.1 hw.1 hs ht y (List.mem_of_getElem? e3)
  have hxn : x < fN (f_walk F s t) := hw2.p hyn e6
  obtain ⟨g2, k1, k2, k3⟩ := M_cuts d h2 hw2 hxn hyn
  rw [cM_cutsDearest, eM_cutsDearest_0, h1, bi_some, M_dearestTo (d + 4) h2 hw2 (t := t) (by rw [hN2]; exact ht), bi_some, e4, eC_some, M_ofL (d + 6) h2 hw2.1 hyn, bi_some, M_parent (d + 5) h2 hw2.1 hyn, bi_some, e6, eM_some, k1, bv_some, e7]
  refine ⟨g2, ?_, k2, h3.tr k3⟩
  show some (some (Sum.inl (nI (fL (f_walk F s t) y))), g2) = _
  rw [e5]
theorem a_eq_hd {par : Nat → Option Nat} {x m : Nat} (h : f_a par x = f_a par m) : x = m := by
  obtain ⟨r1, e1⟩ := f_a_hd par x
  obtain ⟨r2, e2⟩ := f_a_hd par m
  rw [e1, e2] at h
  exact (List.cons.inj h).1
theorem a_ne_hd {par : Nat → Option Nat} {x m y : Nat} {A : List Nat} (h : f_a par x = y :: A ++ f_a par m) : x ≠ m := fun q => by
  subst q
  have := congrArg List.length h
  simp at this
  omega
theorem M_farUp_loop (d : Nat) (h : rMa g b F) (hw : f_wf F) (x1 : Int32) {m : Nat} (hm : m < fN F) : ∀ (A : List Nat) (k t c : Nat), t < fN F → f_a (fP F) t = A ++ f_a (fP F) m → A.length < k →
    am_run (am_call (d + 2)) 205 k 4 [some (.inr (.inr (29, 0))), some (.inl x1), some (.inl (nI m)), some (.inl (nI c)), some (.inl (nI t))] [] g = some (some (.inl (nI (c + (A.map (fL F)).sum))), g)
  | [], k, t, c, ht, e, hk => by
    obtain ⟨k, rfl⟩ : ∃ k', k = k' + 1 := ⟨k - 1, by omega⟩
    rw [eM_farUp_4, a_eq_hd e, if_pos rfl]
    rfl
  | y :: A, k, t, c, ht, e, hk => by
    rw [List.length_cons] at hk
    obtain ⟨k, rfl⟩ : ∃ k', k = k' + 1 := ⟨k - 1, by omega⟩
    have hne := a_ne_hd e
    obtain ⟨rfl, p, hp, hpp, e2⟩ := up_cons hw.2.1 hw.1 ht e
    have hlt := len_some hw ht (by rw [hpp]; simp)
    rw [eM_farUp_4, if_neg (by rw [nI_eq (q24 hw.1 ht) (q24 hw.1 hm)]; exact hne), M_ofL (d + 1) h hw.1 ht, bi_some, M_parent d h hw.1 ht, bi_some, hlt.1, hpp, eM_some, nI_add, M_farUp_loop d h hw x1 hm A k p (c + fL F y) hp e2 (by omega), List.map_cons, List.sum_cons, Nat.add_assoc]
theorem M_farUp (d : Nat) (h : rMa g b F) (hw : f_wf F) {t m : Nat} (ht : t < fN F) (hm : m < fN F) {A : List Nat} (e : f_a (fP F) t = A ++ f_a (fP F) m) : am_call (d + 3) 205 [.inr (.inr (29, 0)), .inl (nI t), .inl (nI m)] g = some (some (.inl (nI (A.map (fL F)).sum)), g) := by
  have h1 := hw.al ht
  rw [e, List.length_append] at h1
  rw [cM_farUp, eM_farUp_0]
  have := M_farUp_loop d h hw (nI t) hm A 99999 t 0 ht e (by omega)
  rw [Nat.zero_add] at this
  exact this
theorem M_farOf (d : Nat) (h : rMa g b F) (hw : f_wf F) {s t : Nat} (hs : s < fN F) (ht : t < fN F) (hr : f_r (fP F) s = f_r (fP F) t) : am_call (d + 5) 206 [.inr (.inr (29, 0)), .inl (nI s), .inl (nI t)] g = some (some (.inl (nI (f_D F s t))), g) := by
  obtain ⟨m, A, B, hm⟩ := f_md_ex hw.2.1 hw.1 ht s hs hr
  have hmn := f_a_lt hw.2.1 hs hm.mem.1
  rw [cM_farOf, eM_farOf_0, M_meetOf d h hw hs ht hr, bi_some, f_m_md hw.2.1 hm, eM_some, M_farUp (d + 1) h hw hs hmn hm.1, bi_some, M_farUp (d + 1) h hw ht hmn hm.2.1, bi_some, nI_add, f_D_md hw hs ht hm]
theorem M_farthest (d : Nat) (h : rMa g b F) (hw : f_wf F) {t : Nat} (ht : t < fN F) : am_call (d + 6) 214 [.inr (.inr (29, 0)), .inl (nI t)] g = some (some (.inl (nI (f_fa F t))), g) := by
  have hn := hw.1
  rw [cM_farthest, eM_farthest_0]
  exact (for_inv (fun k m (_ : Option am_V) c => am_run (am_call (d + 5)) 214 k 4 [some (.inr (.inr (29, 0))), some (.inl (nI t)), some (.inl (nI m)), some (.inl (nI c))] [] g) (fN F) (fun m x => if f_r (fP F) x = f_r (fP F) t then max m (f_D F x t) else m) (fun m => some (some (.inl (nI m)), g)) (fun m _ => m ≤ 239976) (fun k m o c hc hm => by
    have hD := f_D_le hw hc ht
    refine ⟨⟨none, ?_⟩, by split <;> omega⟩
    rw [eM_farthest_4, h.2.2.2, if_neg (nI_ge hc (by omega)), M_areTogether (d + 1) h hw hc ht, bi_some, nI_1]
    by_cases e : f_r (fP F) c = f_r (fP F) t
    · rw [if_pos e, if_neg q_110, M_farOf d h hw hc ht e, bi_some, M_farOf d h hw hc ht e, bi_some, if_pos e]
      by_cases e2 : m < f_D F c t
      · rw [if_neg (nI_ge e2 (by omega)), Nat.max_eq_right (by omega)]
      · rw [if_pos (nI_le (by omega) (by omega)), Nat.max_eq_left (by omega)]
    · rw [if_neg e, if_pos rfl, if_neg e]) (fun k m o _ => by
    rw [eM_farthest_4, h.2.2.2, if_pos (nI_le (Nat.le_refl _) (by omega))]) (m := fN F) (t := 0) (b := 0) (o := none) (k := 99999) (by omega) (by omega) (by omega)).1
theorem M_widestOf (d : Nat) (h : rMa g b F) (hw : f_wf F) {t : Nat} (ht : t < fN F) : am_call (d + 7) 215 [.inr (.inr (29, 0)), .inl (nI t)] g = some (some (.inl (nI (f_wd F t))), g) := by
  have hn := hw.1
  rw [cM_widestOf, eM_widestOf_0]
  exact (for_inv (fun k m (_ : Option am_V) c => am_run (am_call (d + 6)) 215 k 4 [some (.inr (.inr (29, 0))), some (.inl (nI t)), some (.inl (nI m)), some (.inl (nI c))] [] g) (fN F) (fun m x => if f_r (fP F) x = f_r (fP F) t then max m (f_fa F x) else m) (fun m => some (some (.inl (nI m)), g)) (fun m _ => m ≤ 239976) (fun k m o c hc hm => by
    have hD := f_fa_le hw hc
    refine ⟨⟨none, ?_⟩, by split <;> omega⟩
    rw [eM_widestOf_4, h.2.2.2, if_neg (nI_ge hc (by omega)), M_areTogether (d + 2) h hw hc ht, bi_some, nI_1]
    by_cases e : f_r (fP F) c = f_r (fP F) t
    · rw [if_pos e, if_neg q_110, M_farthest d h hw hc, bi_some, M_farthest d h hw hc, bi_some, if_pos e]
      by_cases e2 : m < f_fa F c
      · rw [if_neg (nI_ge e2 (by omega)), Nat.max_eq_right (by omega)]
      · rw [if_pos (nI_le (by omega) (by omega)), Nat.max_eq_left (by omega)]
    · rw [if_neg e, if_pos rfl, if_neg e]) (fun k m o _ => by
    rw [eM_widestOf_4, h.2.2.2, if_pos (nI_le (Nat.le_refl _) (by omega))]) (m := fN F) (t := 0) (b := 0) (o := none) (k := 99999) (by omega) (by omega) (by omega)).1
end MM
