/-! ===== ways, on ===== -/
/-- between two bounds -/
def isW (x lo hi : Int32) : Prop := lo ≤ x ∧ x ≤ hi
theorem isW_iff (x lo hi : Int32) : isW x lo hi ↔ lo.toInt ≤ x.toInt ∧ x.toInt ≤ hi.toInt := by
  unfold isW
  rw [q_le, q_le]
theorem C_isWithin_t (d : Nat) (g : am_G) {x lo hi : Int32} (h : isW x lo hi) : am_call (d + 1) 127 [.inl x, .inl lo, .inl hi] g = some (some (.inl 1), g) := by
  rw [isW_iff] at h
  rw [cC_isWithin, eC_isWithin_0, if_neg (by rw [q_lt]; omega), if_neg (by rw [q_lt]; omega)]
theorem C_isWithin_f (d : Nat) (g : am_G) {x lo hi : Int32} (h : ¬ isW x lo hi) : am_call (d + 1) 127 [.inl x, .inl lo, .inl hi] g = some (some (.inl 0), g) := by
  rw [isW_iff] at h
  rw [cC_isWithin, eC_isWithin_0]
  by_cases h1 : x < lo
  · rw [if_pos h1]
  · rw [if_neg h1, if_pos]
    rw [q_lt] at h1 ⊢
    omega
/-- the least of a row; of none nothing -/
def f_mn (ws : List Nat) : Option Nat := fo (fun b t => match b with
  | none => some (ws.getD t 0)
  | some c => if c ≤ ws.getD t 0 then some c else some (ws.getD t 0)) none 0 ws.length
section RC
variable {g : am_G} {i w : Nat} {F : fF}
theorem f_dx_lt (ws : List Nat) : ∀ k, (f_dx ws).1 = some k → k < ws.length ∧ ws[k]? = some (f_dx ws).2 := by
  have key : ∀ (m t : Nat) (b : Option Nat × Nat), t + m = ws.length → (∀ k, b.1 = some k → k < ws.length ∧ ws[k]? = some b.2) → ∀ k, (fo (fun (b : Option Nat × Nat) t => if ws.getD t 0 ≤ b.2 then b else (some t, ws.getD t 0)) b t m).1 = some k → k < ws.length ∧ ws[k]? = some (fo (fun (b : Option Nat × Nat) t => if ws.getD t 0 ≤ b.2 then b else (some t, ws.getD t 0)) b t m).2 := by
    intro m
    induction m with
    | zero => intro t b _ hb k hk; exact hb k hk
    | succ m ih =>
      intro t b ht hb k hk
      rw [fo] at hk ⊢
      refine ih (t + 1) _ (by omega) ?_ k hk
      intro j hj
      split at hj
      · rename_i hc; rw [if_pos hc]; exact hb j hj
      · rename_i hc
        rw [if_neg hc]
        cases hj
        exact ⟨by omega, by rw [List.getD_eq_getElem?_getD, List.getElem?_eq_getElem (by omega)]; rfl⟩
  exact key ws.length 0 (none, 0) (by omega) (fun k hk => by cases hk)
theorem C_dearestLength (d : Nat) (h : rC g i F) (hw : f_wf F) {L : List Nat} (hY : rY g w L) (hL : ∀ x ∈ L, x < fN F) (hl : L.length ≤ 24) (hk : f_lks (fP F) L) :
    am_call (d + 4) 79 [.inr (.inr (16, w)), .inr (.inr (1, i))] g = some (some (.inl (eM ((f_dx (f_ws (fP F) (fL F) L)).1.map (fun _ => (f_dx (f_ws (fP F) (fL F) L)).2)))), g) := by
  have hwl := f_ws_len (fP F) (fL F) L
  rw [cY_dearestLength, eY_dearestLength_0, C_dearestLink d h hw hY hL hl hk, bi_some]
  cases e : (f_dx (f_ws (fP F) (fL F) L)).1 with
  | none => rw [eC_none, if_pos rfl]; rfl
  | some k =>
    obtain ⟨h1, h2⟩ := f_dx_lt _ k e
    obtain ⟨x, y, hx, hy⟩ := get2 (L := L) (k := k) (by omega)
    have hxy := f_lks_at hk hx hy
    have hlw := f_lw_lt (par := fP F) (hL x (List.mem_of_getElem? hx)) (hL y (List.mem_of_getElem? hy))
    rw [f_ws_at hx hy] at h2
    rw [eC_some, if_neg (q_ne1 (by omega)), C_lowerOfLink (d + 1) h hw hY hL hl hx hy hxy, bi_some, q_c24 hw.1 hlw, cond_true, nI_clamp (q24 hw.1 hlw), h.l hlw (f_lw_ne hxy), Option.some.inj h2]
    rfl
/-- the dearest link of a row is cut -/
def f_cutd (F : fF) (L : List Nat) : fF := match (f_dx (f_ws (fP F) (fL F) L)).1 with
  | none => F
  | some k => f_cut F (L.getD k 0) (L.getD (k + 1) 0)
theorem wf_cutd (hw : f_wf F) {L : List Nat} (hL : ∀ x ∈ L, x < fN F) (hk : f_lks (fP F) L) : f_wf (f_cutd F L) ∧ fN (f_cutd F L) = fN F := by
  have hwl := f_ws_len (fP F) (fL F) L
  unfold f_cutd
  cases e : (f_dx (f_ws (fP F) (fL F) L)).1 with
  | none => exact ⟨hw, rfl⟩
  | some k =>
    obtain ⟨h1, h2⟩ := f_dx_lt _ k e
    obtain ⟨x, y, hx, hy⟩ := get2 (L := L) (k := k) (by omega)
    have hxy := f_lks_at hk hx hy
    dsimp only
    rw [List.getD_eq_getElem?_getD, List.getD_eq_getElem?_getD, hx, hy]
    exact ⟨wf_cut hw (hL x (List.mem_of_getElem? hx)) (hL y (List.mem_of_getElem? hy)) hxy, wk_N (a := x) (b := y)⟩
theorem C_cutDearestLink (d : Nat) (h : rC g i F) (hw : f_wf F) {L : List Nat} (hY : rY g w L) (hL : ∀ x ∈ L, x < fN F) (hl : L.length ≤ 24) (hk : f_lks (fP F) L) :
    ∃ g', am_call (d + 5) 80 [.inr (.inr (16, w)), .inr (.inr (1, i))] g = some (none, g') ∧ rC g' i (f_cutd F L) ∧ m_fr (sF i) g g' := by
  have hwl := f_ws_len (fP F) (fL F) L
  rw [cY_cutDearestLink, eY_cutDearestLink_0, C_dearestLink (d + 1) h hw hY hL hl hk, bi_some]
  unfold f_cutd
  cases e : (f_dx (f_ws (fP F) (fL F) L)).1 with
  | none => rw [eC_none, if_pos rfl]; exact ⟨g, rfl, h, m_fr.rf⟩
  | some k =>
    obtain ⟨h1, h2⟩ := f_dx_lt _ k e
    obtain ⟨x, y, hx, hy⟩ := get2 (L := L) (k := k) (by omega)
    have hxn := hL x (List.mem_of_getElem? hx)
    have hyn := hL y (List.mem_of_getElem? hy)
    dsimp only
    rw [eC_some, if_neg (q_ne1 (by omega)), nI_1, q_in (k := k) (n := 24) (by omega) (by omega), q_in (k := k + 1) (n := 24) (by omega) (by omega), cond_true, cond_true, nI_clamp (n := k) (by omega), nI_clamp (n := k + 1) (by omega), hY.2 k x hx, hY.2 (k + 1) y hy, List.getD_eq_getElem?_getD, List.getD_eq_getElem?_getD, hx, hy]
    obtain ⟨g', k1, k2, k3⟩ := C_cutBetween d h hw hxn hyn
    rw [k1, bv_some]
    exact ⟨g', rfl, k2, k3⟩
theorem C_leastOf_5 (d : Nat) (h : rC g i F) (hw : f_wf F) {L : List Nat} (hY : rY g w L) (hL : ∀ x ∈ L, x < fN F) (hl : L.length ≤ 24) (hk : f_lks (fP F) L) :
    am_call (d + 3) 81 [.inr (.inr (16, w)), .inr (.inr (1, i)), .inr (.inr (5, i))] g = some (some (.inl (eM (f_mn (f_ws (fP F) (fC F) L)))), g) := by
  rw [cY_leastOf_5, eY_leastOf_5_0]
  have hwl := f_ws_len (fP F) (fC F) L
  have key := for_inv (fun k (b : Option Nat) o t => am_run (am_call (d + 2)) 81 k 4 [some (.inr (.inr (16, w))), some (.inr (.inr (1, i))), some (.inr (.inr (5, i))), some (.inl (eM b)), some (.inl (nI t)), o] [] g) (L.length - 1) (fun b t => match b with
      | none => some ((f_ws (fP F) (fC F) L).getD t 0)
      | some c => if c ≤ (f_ws (fP F) (fC F) L).getD t 0 then some c else some ((f_ws (fP F) (fC F) L).getD t 0)) (fun b => some (some (.inl (eM b)), g)) (fun b t => (t = 0 ↔ b = none) ∧ ∀ c, b = some c → c ≤ 9999) (fun k b o t ht hb => by
    obtain ⟨x, y, hx, hy⟩ := get2 (L := L) (k := t) (by omega)
    have hxy := f_lks_at hk hx hy
    have hlw := f_lw_lt (par := fP F) (hL x (List.mem_of_getElem? hx)) (hL y (List.mem_of_getElem? hy))
    have hne := f_lw_ne hxy
    have hle := hw.2.2.2 _ hlw hne
    have egt : (f_ws (fP F) (fC F) L).getD t 0 = fC F (f_lw (fP F) x y) := by rw [List.getD_eq_getElem?_getD, f_ws_at hx hy]; rfl
    rw [egt]
    refine ⟨⟨some (.inl (nI (fC F (f_lw (fP F) x y)))), ?_⟩, ?_⟩
    · rw [eY_leastOf_5_4, hY.1, nI_1, if_neg (nI_ge (by omega) (by omega)), C_lowerOfLink d h hw hY hL hl hx hy hxy, bi_some, q_c24 hw.1 hlw, cond_true, nI_clamp (q24 hw.1 hlw), h.c hlw hne]
      cases b with
      | none =>
        have := hb.1.mpr rfl
        subst this
        rw [if_pos nI_0]; rfl
      | some c =>
        have ht0 : t ≠ 0 := fun e => by have := hb.1.mp e; cases this
        have hc := hb.2 c rfl
        rw [if_neg (nI_ne0 (by omega) (by omega)), eM_some]
        dsimp only
        by_cases e : c ≤ fC F (f_lw (fP F) x y)
        · rw [if_pos (nI_le e (by omega)), if_pos e]; rfl
        · rw [if_neg (nI_ge (by omega) (by omega)), if_neg e]; rfl
    · refine ⟨⟨fun e => by omega, fun e => ?_⟩, fun c hc => ?_⟩
      · cases b with
        | none => cases e
        | some c => dsimp only at e; split at e <;> cases e
      · cases b with
        | none => cases hc; exact hle.2.2
        | some c' =>
          dsimp only at hc
          split at hc
          · cases hc; exact hb.2 _ rfl
          · cases hc; exact hle.2.2) (fun k b o _ => by
    rw [eY_leastOf_5_4, hY.1, nI_1, if_pos (nI_le (by omega) (by omega))]) (m := L.length - 1) (t := 0) (b := none) (o := none) (k := 99999) (by omega) (by omega) ⟨by simp, fun c hc => by cases hc⟩
  refine key.1.trans ?_
  unfold f_mn
  rw [hwl]
theorem C_leastOf_4 (d : Nat) (h : rC g i F) (hw : f_wf F) {L : List Nat} (hY : rY g w L) (hL : ∀ x ∈ L, x < fN F) (hl : L.length ≤ 24) (hk : f_lks (fP F) L) :
    am_call (d + 3) 81 [.inr (.inr (16, w)), .inr (.inr (1, i)), .inr (.inr (4, i))] g = some (some (.inl (eM (f_mn (f_ws (fP F) (fL F) L)))), g) := by
  rw [cY_leastOf_4, eY_leastOf_4_0]
  have hwl := f_ws_len (fP F) (fL F) L
  have key := for_inv (fun k (b : Option Nat) o t => am_run (am_call (d + 2)) 81 k 4 [some (.inr (.inr (16, w))), some (.inr (.inr (1, i))), some (.inr (.inr (4, i))), some (.inl (eM b)), some (.inl (nI t)), o] [] g) (L.length - 1) (fun b t => match b with
      | none => some ((f_ws (fP F) (fL F) L).getD t 0)
      | some c => if c ≤ (f_ws (fP F) (fL F) L).getD t 0 then some c else some ((f_ws (fP F) (fL F) L).getD t 0)) (fun b => some (some (.inl (eM b)), g)) (fun b t => (t = 0 ↔ b = none) ∧ ∀ c, b = some c → c ≤ 9999) (fun k b o t ht hb => by
    obtain ⟨x, y, hx, hy⟩ := get2 (L := L) (k := t) (by omega)
    have hxy := f_lks_at hk hx hy
    have hlw := f_lw_lt (par := fP F) (hL x (List.mem_of_getElem? hx)) (hL y (List.mem_of_getElem? hy))
    have hne := f_lw_ne hxy
    have hle := hw.2.2.2 _ hlw hne
    have egt : (f_ws (fP F) (fL F) L).getD t 0 = fL F (f_lw (fP F) x y) := by rw [List.getD_eq_getElem?_getD, f_ws_at hx hy]; rfl
    rw [egt]
    refine ⟨⟨some (.inl (nI (fL F (f_lw (fP F) x y)))), ?_⟩, ?_⟩
    · rw [eY_leastOf_4_4, hY.1, nI_1, if_neg (nI_ge (by omega) (by omega)), C_lowerOfLink d h hw hY hL hl hx hy hxy, bi_some, q_c24 hw.1 hlw, cond_true, nI_clamp (q24 hw.1 hlw), h.l hlw hne]
      cases b with
      | none =>
        have := hb.1.mpr rfl
        subst this
        rw [if_pos nI_0]; rfl
      | some c =>
        have ht0 : t ≠ 0 := fun e => by have := hb.1.mp e; cases this
        have hc := hb.2 c rfl
        rw [if_neg (nI_ne0 (by omega) (by omega)), eM_some]
        dsimp only
        by_cases e : c ≤ fL F (f_lw (fP F) x y)
        · rw [if_pos (nI_le e (by omega)), if_pos e]; rfl
        · rw [if_neg (nI_ge (by omega) (by omega)), if_neg e]; rfl
    · refine ⟨⟨fun e => by omega, fun e => ?_⟩, fun c hc => ?_⟩
      · cases b with
        | none => cases e
        | some c => dsimp only at e; split at e <;> cases e
      · cases b with
        | none => cases hc; exact hle.2.1
        | some c' =>
          dsimp only at hc
          split at hc
          · cases hc; exact hb.2 _ rfl
          · cases hc; exact hle.2.1) (fun k b o _ => by
    rw [eY_leastOf_4_4, hY.1, nI_1, if_pos (nI_le (by omega) (by omega))]) (m := L.length - 1) (t := 0) (b := none) (o := none) (k := 99999) (by omega) (by omega) ⟨by simp, fun c hc => by cases hc⟩
  refine key.1.trans ?_
  unfold f_mn
  rw [hwl]
end RC
