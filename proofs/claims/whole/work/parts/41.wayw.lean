/-! ===== ways behind walking them ===== -/
theorem q_addsub (a b : Int32) : a + b - a = b := by rw [Int32.add_comm]; exact Int32.add_sub_cancel b a
theorem split2 {L : List Nat} {k x y : Nat} (hx : L[k]? = some x) (hy : L[k + 1]? = some y) : L = L.take k ++ x :: y :: L.drop (k + 2) := by
  obtain ⟨h1, h2⟩ := List.getElem?_eq_some_iff.mp hx
  obtain ⟨h3, h4⟩ := List.getElem?_eq_some_iff.mp hy
  rw [← h4, ← List.drop_eq_getElem_cons h3, ← h2, ← List.drop_eq_getElem_cons h1, List.take_append_drop]
theorem up_rev {par : Nat → Option Nat} {L : List Nat} (h : p_ch par L.reverse) {k x y : Nat} (hx : L[k]? = some x) (hy : L[k + 1]? = some y) : par y = some x := by
  rw [split2 hx hy] at h
  simp only [List.reverse_append, List.reverse_cons, List.append_assoc, List.cons_append, List.nil_append] at h
  rw [p_ch_app _ h]
  rfl
section WW
variable {F : fF} {a b : Nat}
theorem way_up (hw : f_wf F) (ha : a < fN F) (hb : b < fN F) (hr : f_r (fP F) a = f_r (fP F) b) {k x y : Nat} (hx : (f_way (fP F) a b)[k]? = some x) (hy : (f_way (fP F) a b)[k + 1]? = some y) : fP (f_walk F a b) y = some x := by
  show fP (f_reroot F a) y = some x
  refine up_rev ?_ hx hy
  rw [← f_way_rr hw ha hb hr]
  exact f_a_ch (ok_reroot hw ha) hw.1 b hb
theorem f_ws_tail {n : Nat} {par : Nat → Option Nat} (h : f_ok n par) (w : Nat → Nat) : ∀ (L : List Nat), (∀ x ∈ L, x < n) → (∀ k x y, L[k]? = some x → L[k + 1]? = some y → par y = some x) → f_ws par w L = L.tail.map w
  | [], _, _ => rfl
  | [_], _, _ => rfl
  | x :: y :: r, hn, hu => by
    have hp := hu 0 x y rfl rfl
    have hxy : ¬ par x = some y := fun q => by
      obtain ⟨-, dd, h2⟩ := h
      have h3 := h2 x y (hn x (by simp)) q
      have h4 := h2 y x (hn y (by simp)) hp
      omega
    have ih := f_ws_tail h w (y :: r) (fun z hz => hn z (List.mem_cons_of_mem _ hz)) (fun k u v hu1 hv1 => hu (k + 1) u v hu1 hv1)
    rw [f_ws, ih]
    unfold f_lw
    rw [if_neg hxy]
    rfl
theorem f_lks_up {par : Nat → Option Nat} : ∀ (L : List Nat), (∀ k x y, L[k]? = some x → L[k + 1]? = some y → par y = some x) → f_lks par L
  | [], _ => trivial
  | [_], _ => trivial
  | x :: y :: r, hu => ⟨Or.inr (hu 0 x y rfl rfl), f_lks_up (y :: r) (fun k u v hu1 hv1 => hu (k + 1) u v hu1 hv1)⟩
theorem way_ws (hw : f_wf F) (ha : a < fN F) (hb : b < fN F) (hr : f_r (fP F) a = f_r (fP F) b) (w w' : Nat → Nat) (h1 : ∀ x y, x ∈ f_a (fP F) a → fP F x = some y → w' y = w x) (h2 : ∀ x, x < fN F → x ∉ f_a (fP F) a → w' x = w x) : (f_way (fP F) a b).tail.map w' = f_ws (fP F) w (f_way (fP F) a b) := by
  obtain ⟨m, A, B, hm⟩ := f_md_ex hw.2.1 hw.1 hb a ha hr
  rw [f_ws_way hw.2.1 hw.1 ha hb hm, f_way_md hw.2.1 hm]
  have hB : (B.reverse).map w' = (B.map w).reverse := by
    rw [← List.map_reverse]
    refine List.map_congr_left fun x hx => ?_
    have hx := List.mem_reverse.mp hx
    exact h2 x (f_a_lt hw.2.1 hb (by rw [hm.2.1]; exact List.mem_append_left _ hx)) (hm.2.2.2 x hx)
  have key : ∀ (A : List Nat) (a' : Nat), a' < fN F → f_a (fP F) a' = A ++ f_a (fP F) m → (∀ x ∈ f_a (fP F) a', x ∈ f_a (fP F) a) → (A ++ m :: B.reverse).tail.map w' = A.map w ++ (B.reverse).map w' := by
    intro A
    induction A with
    | nil => intro a' _ _ _; rfl
    | cons x A ih =>
      intro a' ha' e hin
      obtain ⟨rfl, p, hp, hpp, e2⟩ := up_cons hw.2.1 hw.1 ha' e
      have hx := hin x (f_a_self _ _)
      have hin2 : ∀ z ∈ f_a (fP F) p, z ∈ f_a (fP F) a := fun z hz => hin z (by rw [hw.as ha' hpp]; exact List.mem_cons_of_mem _ hz)
      have ih2 := ih p hp e2 hin2
      obtain ⟨r, er⟩ := up_hd (R := B.reverse) e2
      rw [List.cons_append, List.tail_cons, List.map_cons, List.cons_append, ← ih2, er, List.map_cons, List.tail_cons, h1 x p hx hpp]
  rw [key A a ha hm.1 (fun x hx => hx), hB]
theorem walk_wsL (hw : f_wf F) (ha : a < fN F) (hb : b < fN F) (hr : f_r (fP F) a = f_r (fP F) b) : (f_way (fP F) a b).tail.map (fL (f_walk F a b)) = wsL F a b := way_ws hw ha hb hr _ _ (fun x y hx hp => (rr_adj hw ha hx hp).2.1) (fun x _ hx => (rr_out hw ha hx).2.2.1)
theorem walk_wsC (hw : f_wf F) (ha : a < fN F) (hb : b < fN F) (hr : f_r (fP F) a = f_r (fP F) b) : (f_way (fP F) a b).tail.map (fC (f_walk F a b)) = wsC F a b := way_ws hw ha hb hr _ _ (fun x y hx hp => (rr_adj hw ha hx hp).2.2) (fun x _ hx => (rr_out hw ha hx).2.2.2)
theorem walk_ws (hw : f_wf F) (ha : a < fN F) (hb : b < fN F) (hr : f_r (fP F) a = f_r (fP F) b) (w : Nat → Nat) : f_ws (fP (f_walk F a b)) w (f_way (fP F) a b) = (f_way (fP F) a b).tail.map w := f_ws_tail (n := fN F) (ok_reroot hw ha) w _ (f_way_lt hw.2.1 hw.1 ha hb) (fun _ _ _ hx hy => way_up hw ha hb hr hx hy)
theorem walk_lks (hw : f_wf F) (ha : a < fN F) (hb : b < fN F) (hr : f_r (fP F) a = f_r (fP F) b) : f_lks (fP (f_walk F a b)) (f_way (fP F) a b) := f_lks_up _ (fun _ _ _ hx hy => way_up hw ha hb hr hx hy)
theorem way_len (hw : f_wf F) (ha : a < fN F) (hb : b < fN F) : ((f_way (fP F) a b).length = 0 ↔ f_r (fP F) a ≠ f_r (fP F) b) ∧ ((f_way (fP F) a b).length = 1 ↔ a = b) := by
  by_cases hr : f_r (fP F) a = f_r (fP F) b
  · obtain ⟨m, A, B, hm⟩ := f_md_ex hw.2.1 hw.1 hb a ha hr
    have e : (f_way (fP F) a b).length = A.length + B.length + 1 := by
      rw [f_way_md hw.2.1 hm]; simp; omega
    rw [e]
    refine ⟨⟨fun q => by omega, fun q => absurd hr q⟩, ⟨fun q => ?_, fun q => ?_⟩⟩
    · have hA : A = [] := List.length_eq_zero_iff.mp (by omega)
      have hB : B = [] := List.length_eq_zero_iff.mp (by omega)
      have h1 := hm.1
      have h2 := hm.2.1
      rw [hA, List.nil_append] at h1
      rw [hB, List.nil_append, ← h1] at h2
      obtain ⟨r1, e1⟩ := f_a_hd (fP F) a
      obtain ⟨r2, e2⟩ := f_a_hd (fP F) b
      rw [e1, e2] at h2
      exact (List.cons.inj h2).1.symm
    · subst q
      have h1 : ∀ x ∈ A, False := fun x hx => hm.2.2.1 x hx (by rw [hm.1]; exact List.mem_append_left _ hx)
      have h2 : ∀ x ∈ B, False := fun x hx => hm.2.2.2 x hx (by rw [hm.2.1]; exact List.mem_append_left _ hx)
      have hA : A = [] := List.eq_nil_iff_forall_not_mem.mpr h1
      have hB : B = [] := List.eq_nil_iff_forall_not_mem.mpr h2
      rw [hA, hB]; rfl
  · rw [f_way_none hw.2.1 hw.1 ha hb hr]
    refine ⟨⟨fun _ => hr, fun _ => rfl⟩, ⟨fun q => (by cases q), fun q => absurd (by rw [q]) hr⟩⟩
theorem f_dx_some (ws : List Nat) (h : ∀ v ∈ ws, 1 ≤ v) (hl : 0 < ws.length) : ∃ k, (f_dx ws).1 = some k := by
  have key : ∀ (m t : Nat) (b : Option Nat × Nat), (b.1 = none → b.2 = 0) → t + m = ws.length → (0 < m ∨ b.1 ≠ none) → (fo (fun (b : Option Nat × Nat) t => if ws.getD t 0 ≤ b.2 then b else (some t, ws.getD t 0)) b t m).1 ≠ none := by
    intro m
    induction m with
    | zero => intro t b hb ht hm; exact hm.resolve_left (by omega)
    | succ m ih =>
      intro t b hb ht _
      have htl : t < ws.length := by omega
      have hv : 1 ≤ ws.getD t 0 := by
        rw [List.getD_eq_getElem?_getD, List.getElem?_eq_getElem htl]
        exact h _ (List.getElem_mem htl)
      rw [fo]
      by_cases e : ws.getD t 0 ≤ b.2
      · rw [if_pos e]
        have hb1 : b.1 ≠ none := fun q => by have := hb q; omega
        exact ih (t + 1) b hb (by omega) (Or.inr hb1)
      · rw [if_neg e]
        exact ih (t + 1) _ (fun q => by cases q) (by omega) (Or.inr (by simp))
  have := key ws.length 0 (none, 0) (fun _ => rfl) (by omega) (Or.inl hl)
  cases hq : (f_dx ws).1 with
  | none => exact absurd hq this
  | some k => exact ⟨k, rfl⟩
theorem wsL_pos (hw : f_wf F) (ha : a < fN F) (hb : b < fN F) : ∀ v ∈ wsL F a b, 1 ≤ v ∧ v ≤ 9999 := f_ws_le hw _ (f_way_lt hw.2.1 hw.1 ha hb) (f_way_lks hw.2.1 hw.1 ha hb)
theorem wf_wL (hw : f_wf F) {v : Nat → Nat} (h : ∀ z, z < fN F → fP F z ≠ none → 1 ≤ v z ∧ v z ≤ 9999) : f_wf (f_wL F v) := ⟨hw.1, hw.2.1, hw.2.2.1, fun t ht hp => by
  have h1 := h t ht hp
  exact ⟨h1.1, h1.2, (hw.2.2.2 t ht hp).2.2⟩⟩
theorem wf_wC (hw : f_wf F) {v : Nat → Nat} (h : ∀ z, z < fN F → fP F z ≠ none → v z ≤ 9999) : f_wf (f_wC F v) := ⟨hw.1, hw.2.1, hw.2.2.1, fun t ht hp => by
  have h1 := hw.2.2.2 t ht hp
  exact ⟨h1.1, h1.2.1, h t ht hp⟩⟩
theorem kw_tail {ws : List Nat} {x lo : Int} {L : List Nat} {w : Nat → Nat} (h : f_kw ws x lo = true) (e : L.tail.map w = ws) : ∀ z ∈ L.tail, lo ≤ (w z : Int) + x ∧ (w z : Int) + x ≤ 9999 := fun z hz => by
  unfold f_kw at h
  rw [List.all_eq_true] at h
  exact of_decide_eq_true (h (w z) (by rw [← e]; exact List.mem_map_of_mem hz))
theorem wf_raise (hw : f_wf F) (ha : a < fN F) (hb : b < fN F) (hr : f_r (fP F) a = f_r (fP F) b) {x : Int} (h : f_kw (wsL F a b) x 1 = true) : f_wf (f_wL (f_walk F a b) (f_upd (fL (f_walk F a b)) (f_way (fP F) a b).tail x)) := by
  refine wf_wL (wf_walk hw ha hb) fun z hz hp => ?_
  unfold f_upd
  split
  · rename_i hm
    have := kw_tail h (walk_wsL hw ha hb hr) z hm
    omega
  · have := (wf_walk hw ha hb).2.2.2 z hz hp
    omega
theorem wf_send (hw : f_wf F) (ha : a < fN F) (hb : b < fN F) (hr : f_r (fP F) a = f_r (fP F) b) {x : Int} (h : f_kw (wsC F a b) x 0 = true) : f_wf (f_wC (f_walk F a b) (f_upd (fC (f_walk F a b)) (f_way (fP F) a b).tail x)) := by
  refine wf_wC (wf_walk hw ha hb) fun z hz hp => ?_
  unfold f_upd
  split
  · rename_i hm
    have := kw_tail h (walk_wsC hw ha hb hr) z hm
    omega
  · have := (wf_walk hw ha hb).2.2.2 z hz hp
    omega
end WW
