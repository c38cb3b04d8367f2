/-! ===== worlds put together ===== -/
/-- the cells that a cell names (the reader's bytes: the empty ones) -/
def ct_nd (c i : Nat) : List (Nat × Nat) := match am_lay c with
  | some (.inl (_, fs)) => fs.flatMap (fun f => match f with
    | (1, c', _) => [(c', i)]
    | (2, c', b) => [(c', b)]
    | (4, _, _) => [(12, 0)]
    | _ => [])
  | some (.inr (.inr (n, c', o))) => (List.range n).map (fun k => (c', o + k))
  | _ => []
def ct_l4 : Bool := am_lays.all (fun y => match y with
  | .inl (_, fs) => fs.all (fun f => !(f.1 == 4) || f.2.1 == 110)
  | _ => true)
theorem ct_l4_t : ct_l4 = true := by decide +kernel
theorem ct_l4_of {c ci : Nat} {fs : List (Nat × Nat × Nat)} (h : am_lay c = some (.inl (ci, fs))) {f : Nat × Nat × Nat} (hf : f ∈ fs) (h4 : f.1 = 4) : f.2.1 = 110 := by
  unfold am_lay at h
  rw [am_nth_eq] at h
  have h1 := List.all_eq_true.mp ct_l4_t _ (List.mem_of_getElem? h)
  have h2 := List.all_eq_true.mp h1 f hf
  rw [h4] at h2
  simpa using h2
theorem ct_arrV {cA : ClassId} {n : Nat} {f f' : Nat → Value} (h : ∀ j, j < n → f j = f' j) : arrV cA n f = arrV cA n f' := by
  unfold arrV
  congr 1
  apply Array.ext
  · simp
  · intro j h1 h2
    simp only [Array.getElem_ofFn]
    exact h j (by simpa using h1)
theorem ct_at {D : va_G} {H : Heap} {ad ad' : Nat → Nat → Nat} {ca : Nat → ClassId} {g g' : am_G} {c i : Nat} (ha : ad c i = ad' c i) (hr : ∀ r ∈ ct_nd c i, ad r.1 r.2 = ad' r.1 r.2) (hg : ∀ k, am_rd c k = true → g k i = g' k i) (h4 : g 110 i 0 = 0)
    (h : va_at D am_cs (ad c i, am_cell ad ca g c i) H) : va_at D am_cs (ad' c i, am_cell ad' ca g' c i) H := by
  rw [ha] at h
  unfold am_cell at h ⊢
  unfold ct_nd at hr
  unfold am_rd at hg
  cases hl : am_lay c with
  | none => rw [hl] at h; exact h
  | some y =>
    rw [hl] at h hr hg
    match y, h, hr, hg, hl with
    | .inl (ci, fs), h, hr, hg, hl =>
      have e : fs.map (am_fv ad g i) = fs.map (am_fv ad' g' i) := by
        refine List.map_congr_left fun f hf => ?_
        obtain ⟨t, c', b⟩ := f
        have hrr : ∀ r, r ∈ (match (t, c', b) with
            | (1, c', _) => [(c', i)]
            | (2, c', b) => [(c', b)]
            | (4, _, _) => [(12, 0)]
            | _ => ([] : List (Nat × Nat))) → ad r.1 r.2 = ad' r.1 r.2 := fun r q => hr r (List.mem_flatMap.mpr ⟨(t, c', b), hf, q⟩)
        by_cases h1 : t = 1
        · subst h1
          exact congrArg Value.ref (hrr (c', i) (List.mem_singleton.mpr rfl))
        · by_cases h2 : t = 2
          · subst h2
            exact congrArg Value.ref (hrr (c', b) (List.mem_singleton.mpr rfl))
          · have hgk : g c' i = g' c' i := hg c' (List.any_eq_true.mpr ⟨(t, c', b), hf, by simp [h1, h2]⟩)
            by_cases h4t : t = 4
            · subst h4t
              have e4 : c' = 110 := ct_l4_of hl hf rfl
              subst e4
              have q1 := hrr (12, 0) (List.mem_singleton.mpr rfl)
              show Value.ref (if g 110 i 0 = 0 then ad 12 0 else ad 13 0) = Value.ref (if g' 110 i 0 = 0 then ad' 12 0 else ad' 13 0)
              rw [← hgk, if_pos h4, if_pos h4]
              exact congrArg Value.ref q1
            · match t, h1, h2, h4t with
              | 0, _, _, _ => simp only [am_fv, hgk]
              | 3, _, _, _ => simp only [am_fv, hgk]
              | t + 5, _, _, _ => simp only [am_fv, hgk]
      dsimp only at h ⊢
      rw [← e]
      exact h
    | .inr (.inl n), h, hr, hg, hl =>
      dsimp only at h ⊢
      rw [← hg c (by simp)]
      exact h
    | .inr (.inr (n, c', o)), h, hr, hg, hl =>
      dsimp only at h ⊢
      have h : H[ad' c i]? = some (vp_cell (ca c) (n, .inr (.inr (.inr (.inr (fun k => some (ad c' (o + k)))))))) := h
      show H[ad' c i]? = some (vp_cell (ca c) (n, .inr (.inr (.inr (.inr (fun k => some (ad' c' (o + k))))))))
      rw [vp_cell_q] at h ⊢
      rw [h]
      refine congrArg some (ct_arrV fun j hj => ?_)
      have q1 := hr (c', o + j) (List.mem_map.mpr ⟨j, List.mem_range.mpr hj, rfl⟩)
      show Value.ref (ad c' (o + j)) = Value.ref (ad' c' (o + j))
      exact congrArg Value.ref q1
theorem ct_P_iff {D : va_G} {cl : List vw_C} {ws : va_W} {H : Heap} : va_P D cl ws H ↔ ∀ q ∈ ws, va_at D cl q H := by
  constructor
  · intro h q hq
    obtain ⟨k, hk⟩ := List.mem_iff_getElem?.mp hq
    exact h k q hk
  · intro h k q hk
    exact h q (List.mem_of_getElem? hk)
theorem ct_D_fst {A : Nat → Prop} {ws ws' : va_W} (h : va_D A ws) (e : ws'.map Prod.fst = ws.map Prod.fst) : va_D A ws' := by
  have h1 : ∀ (k : Nat) (q : Nat × va_E), ws'[k]? = some q → ∃ q', ws[k]? = some q' ∧ q'.1 = q.1 := by
    intro k q hk
    have h2 : (ws'.map Prod.fst)[k]? = some q.1 := by rw [List.getElem?_map, hk]; rfl
    rw [e, List.getElem?_map] at h2
    cases hw : ws[k]? with
    | none => rw [hw] at h2; cases h2
    | some q' => rw [hw] at h2; exact ⟨q', rfl, Option.some.inj h2⟩
  refine ⟨fun i j x y hx hy hxy => ?_, fun k q hk => ?_⟩
  · obtain ⟨x', a1, a2⟩ := h1 i x hx
    obtain ⟨y', b1, b2⟩ := h1 j y hy
    exact h.1 i j x' y' a1 b1 (by rw [a2, b2]; exact hxy)
  · obtain ⟨q', a1, a2⟩ := h1 k q hk
    rw [← a2]
    exact h.2 k q' a1
theorem ct_ws_fst {rs : List (Nat × Nat)} {ad : Nat → Nat → Nat} {ca : Nat → ClassId} {g : am_G} : (am_ws rs ad ca g).map Prod.fst = rs.map (fun r => ad r.1 r.2) := by
  unfold am_ws
  rw [List.map_map]
  rfl
theorem ct_ws_app {rs rs1 : List (Nat × Nat)} {ad : Nat → Nat → Nat} {ca : Nat → ClassId} {g : am_G} : am_ws (rs ++ rs1) ad ca g = am_ws rs ad ca g ++ am_ws rs1 ad ca g := by
  unfold am_ws
  exact List.map_append
/-- what it names is among them -/
def ct_cl (rs : List (Nat × Nat)) : Bool := rs.all (fun r => (ct_nd r.1 r.2).all (fun q => rs.elem q))
def ct_dj (rs rs1 : List (Nat × Nat)) : Bool := rs1.all (fun r => !rs.elem r)
def ct_gl (rs : List (Nat × Nat)) (ad ad1 : Nat → Nat → Nat) : Nat → Nat → Nat := fun c j => bif rs.elem (c, j) then ad c j else ad1 c j
theorem ct_gl_in {rs : List (Nat × Nat)} {ad ad1 : Nat → Nat → Nat} {c j : Nat} (h : rs.elem (c, j) = true) : ct_gl rs ad ad1 c j = ad c j := by
  unfold ct_gl
  rw [h]
  rfl
theorem ct_gl_out {rs : List (Nat × Nat)} {ad ad1 : Nat → Nat → Nat} {c j : Nat} (h : rs.elem (c, j) = false) : ct_gl rs ad ad1 c j = ad1 c j := by
  unfold ct_gl
  rw [h]
  rfl
theorem ct_cl_of {rs : List (Nat × Nat)} (h : ct_cl rs = true) {r : Nat × Nat} (hr : r ∈ rs) : ∀ q ∈ ct_nd r.1 r.2, rs.elem q = true := fun q hq => List.all_eq_true.mp (List.all_eq_true.mp h r hr) q hq
theorem ct_dj_of {rs rs1 : List (Nat × Nat)} (h : ct_dj rs rs1 = true) {r : Nat × Nat} (hr : r ∈ rs1) : rs.elem r = false := by
  have := List.all_eq_true.mp h r hr
  simpa using this
/-- another naming of the same cells -/
theorem ct_P_to {D : va_G} {H : Heap} {rs : List (Nat × Nat)} {ad ad' : Nat → Nat → Nat} {ca : Nat → ClassId} {g g' : am_G} (h : va_P D am_cs (am_ws rs ad ca g) H) (ha : ∀ r ∈ rs, ad r.1 r.2 = ad' r.1 r.2) (hc : ct_cl rs = true) (hg : ∀ r ∈ rs, ∀ k, am_rd r.1 k = true → g k r.2 = g' k r.2) (h4 : ∀ i, g 110 i 0 = 0) : va_P D am_cs (am_ws rs ad' ca g') H := by
  rw [ct_P_iff] at h ⊢
  intro q hq
  unfold am_ws at hq
  obtain ⟨r, hr, rfl⟩ := List.mem_map.mp hq
  refine ct_at (ha r hr) (fun z hz => ha z (List.elem_iff.mp (ct_cl_of hc hr z hz))) (hg r hr) (h4 r.2) (h (ad r.1 r.2, am_cell ad ca g r.1 r.2) ?_)
  unfold am_ws
  exact List.mem_map.mpr ⟨r, hr, rfl⟩
theorem ct_P_l {D : va_G} {cl : List vw_C} {a b : va_W} {H : Heap} (h : va_P D cl (a ++ b) H) : va_P D cl a H := ct_P_iff.mpr fun q hq => ct_P_iff.mp h q (List.mem_append_left _ hq)
theorem ct_P_r {D : va_G} {cl : List vw_C} {a b : va_W} {H : Heap} (h : va_P D cl (a ++ b) H) : va_P D cl b H := ct_P_iff.mpr fun q hq => ct_P_iff.mp h q (List.mem_append_right _ hq)
/-- two groups of cells are one -/
theorem ct_glue {D : va_G} {A : Nat → Prop} {H : Heap} {Y : va_W} {rs rs1 : List (Nat × Nat)} {ad ad1 : Nat → Nat → Nat} {ca : Nat → ClassId} {g : am_G} (hP : va_P D am_cs ((Y ++ am_ws rs ad ca g) ++ am_ws rs1 ad1 ca g) H) (hD : va_D A ((Y ++ am_ws rs ad ca g) ++ am_ws rs1 ad1 ca g)) (c0 : ct_cl rs = true) (c1 : ct_cl rs1 = true) (hd : ct_dj rs rs1 = true) (h4 : ∀ i, g 110 i 0 = 0) :
    va_P D am_cs (Y ++ am_ws (rs ++ rs1) (ct_gl rs ad ad1) ca g) H ∧ va_D A (Y ++ am_ws (rs ++ rs1) (ct_gl rs ad ad1) ca g) := by
  have e0 : ∀ r ∈ rs, ad r.1 r.2 = ct_gl rs ad ad1 r.1 r.2 := fun r hr => (ct_gl_in (List.elem_iff.mpr hr)).symm
  have e1 : ∀ r ∈ rs1, ad1 r.1 r.2 = ct_gl rs ad ad1 r.1 r.2 := fun r hr => (ct_gl_out (ct_dj_of hd hr)).symm
  constructor
  · rw [ct_ws_app]
    exact (ct_P_l (ct_P_l hP)).app ((ct_P_to (ct_P_r (ct_P_l hP)) e0 c0 (fun _ _ _ _ => rfl) h4).app (ct_P_to (ct_P_r hP) e1 c1 (fun _ _ _ _ => rfl) h4))
  · refine ct_D_fst hD ?_
    rw [ct_ws_app, List.map_append, List.map_append, List.map_append, List.map_append, ct_ws_fst, ct_ws_fst, ct_ws_fst, ct_ws_fst, List.append_assoc]
    rw [List.map_congr_left (fun r hr => (e0 r hr).symm), List.map_congr_left (fun r hr => (e1 r hr).symm)]
/-- the root comes to its cells -/
theorem ct_root {D : va_G} {A : Nat → Prop} {H : Heap} {h0 : Nat} {e0 : va_E} {r0 : Nat × Nat} {rs : List (Nat × Nat)} {ad : Nat → Nat → Nat} {ca : Nat → ClassId} {g : am_G} (hP : va_P D am_cs ((h0, e0) :: am_ws rs ad ca g) H) (hD : va_D A ((h0, e0) :: am_ws rs ad ca g)) (c0 : ct_cl rs = true) (hd : ct_dj [r0] rs = true) (h4 : ∀ i, g 110 i 0 = 0)
    (he : e0 = am_cell (ct_gl [r0] (fun _ _ => h0) ad) ca g r0.1 r0.2) :
    va_P D am_cs (am_ws (r0 :: rs) (ct_gl [r0] (fun _ _ => h0) ad) ca g) H ∧ va_D A (am_ws (r0 :: rs) (ct_gl [r0] (fun _ _ => h0) ad) ca g) := by
  have e1 : ∀ r ∈ rs, ad r.1 r.2 = ct_gl [r0] (fun _ _ => h0) ad r.1 r.2 := fun r hr => (ct_gl_out (ct_dj_of hd hr)).symm
  have er : ct_gl [r0] (fun _ _ => h0) ad r0.1 r0.2 = h0 := ct_gl_in (List.elem_iff.mpr (List.mem_singleton.mpr rfl))
  have hP : va_P D am_cs ([(h0, e0)] ++ am_ws rs ad ca g) H := hP
  constructor
  · show va_P D am_cs ([(ct_gl [r0] (fun _ _ => h0) ad r0.1 r0.2, am_cell (ct_gl [r0] (fun _ _ => h0) ad) ca g r0.1 r0.2)] ++ am_ws rs (ct_gl [r0] (fun _ _ => h0) ad) ca g) H
    rw [er, ← he]
    exact (ct_P_l hP).app (ct_P_to (ct_P_r hP) e1 c0 (fun _ _ _ _ => rfl) h4)
  · refine ct_D_fst hD ?_
    show ct_gl [r0] (fun _ _ => h0) ad r0.1 r0.2 :: (am_ws rs (ct_gl [r0] (fun _ _ => h0) ad) ca g).map Prod.fst = h0 :: (am_ws rs ad ca g).map Prod.fst
    rw [er, ct_ws_fst, ct_ws_fst, List.map_congr_left (fun r hr => (e1 r hr).symm)]
/-- behind a call that made one thing's cells: the rest is as it was -/
theorem ct_join {A : Nat → Prop} {D : va_G} {cl : List vw_C} {X w1 : va_W} {q : Nat} {e : va_E} {H H1 : Heap} (hP : va_P D cl (X ++ [(q, e)]) H) (hD : va_D A (X ++ [(q, e)])) (hA : ∀ z, va_A [(q, e)] H.size z → A z)
    (hk : ∀ z : Nat, z < H.size → ¬ va_A [(q, e)] H.size z → H1[z]? = H[z]?) (hP1 : va_P D cl w1 H1) (hD1 : va_D (va_A [(q, e)] H.size) w1) : va_P D cl (X ++ w1) H1 ∧ va_D A (X ++ w1) := by
  have apart : ∀ (k : Nat) (x : Nat × va_E), X[k]? = some x → x.1 < H.size ∧ ¬ va_A [(q, e)] H.size x.1 := by
    intro k x hx
    have hkl : k < X.length := (List.getElem?_eq_some_iff.mp hx).1
    have hx2 : (X ++ [(q, e)])[k]? = some x := by rw [List.getElem?_append_left hkl]; exact hx
    have hl := (hP k x hx2).lt
    refine ⟨hl, fun h => ?_⟩
    rcases h with ⟨k2, e2, h⟩ | h
    · have hq2 : (X ++ [(q, e)])[X.length]? = some (q, e) := by simp
      have hz : k2 < 1 := (List.getElem?_eq_some_iff.mp h).1
      rw [show k2 = 0 by omega] at h
      have e3 : (q, e) = (x.1, e2) := Option.some.inj h
      have := hD.1 k X.length x (q, e) hx2 hq2 (by rw [e3])
      omega
    · omega
  have hDX : va_D A X := ⟨fun i j x y hx hy hxy => hD.1 i j x y (by rw [List.getElem?_append_left (List.getElem?_eq_some_iff.mp hx).1]; exact hx) (by rw [List.getElem?_append_left (List.getElem?_eq_some_iff.mp hy).1]; exact hy) hxy, fun k x hx => hD.2 k x (by rw [List.getElem?_append_left (List.getElem?_eq_some_iff.mp hx).1]; exact hx)⟩
  refine ⟨va_P.app (fun k x hx => ?_) hP1, va_D.app hDX (hD1.weaken (fun k x _ h => hA x.1 h)) (fun i j x y hx hy hxy => ?_)⟩
  · obtain ⟨g1, g2⟩ := apart k x hx
    exact (ct_P_l hP k x hx).kept (hk x.1 g1 g2)
  · exact (apart i x hx).2 (by rw [hxy]; exact hD1.2 j y hy)
