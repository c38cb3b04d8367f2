/-! ===== ways: all of its links at once ===== -/
/-- an int as an Int: x more than l, between two bounds -/
theorem q_addInt {l : Nat} {x : Int32} (hl : l ≤ 9999) (hx : -9999 ≤ x.toInt ∧ x.toInt ≤ 9999) : (nI l + x).toInt = (l : Int) + x.toInt := by
  rw [fb_addI (by rw [nI_toInt (by omega)]; omega) (by rw [nI_toInt (by omega)]; omega), nI_toInt (by omega)]
theorem q_9999 : (9999 : Int32).toInt = 9999 := by decide
theorem q_m9999 : (-9999 : Int32).toInt = -9999 := by decide
/-- all of a row, x more, are lo .. 9999 -/
def f_kw (ws : List Nat) (x lo : Int) : Bool := ws.all (fun l => decide (lo ≤ (l : Int) + x ∧ (l : Int) + x ≤ 9999))
theorem ff_none {p : Nat → Bool} : ∀ {m t : Nat}, ff p t m = none → ∀ j, t ≤ j → j < t + m → p j = false
  | 0, _, _, j, h1, h2 => by omega
  | m + 1, t, h, j, h1, h2 => by
    rw [ff] at h
    by_cases hp : p t = true
    · rw [if_pos hp] at h; cases h
    · rw [if_neg hp] at h
      by_cases e : j = t
      · rw [e]; simpa using hp
      · exact ff_none h j (by omega) (by omega)
theorem f_kw_ff (ws : List Nat) (x lo : Int) (p : Nat → Bool) (hp : ∀ t l : Nat, ws[t]? = some l → (p t = true ↔ ¬ (lo ≤ (l : Int) + x ∧ (l : Int) + x ≤ 9999))) : (ff p 0 ws.length = none ↔ f_kw ws x lo = true) := by
  unfold f_kw
  rw [List.all_eq_true]
  constructor
  · intro h l hl
    obtain ⟨t, ht⟩ := List.getElem?_of_mem hl
    have hlt := (List.getElem?_eq_some_iff.mp ht).1
    have h1 := ff_none h t (Nat.zero_le _) (by omega)
    have h2 := hp t l ht
    rw [h1] at h2
    simp only [Bool.false_eq_true, false_iff, Classical.not_not] at h2
    exact decide_eq_true h2
  · intro h
    cases e : ff p 0 ws.length with
    | none => rfl
    | some t =>
      obtain ⟨-, h2, h3⟩ := ff_lt e
      have ht : ws[t]? = some (ws[t]'(by omega)) := List.getElem?_eq_getElem (by omega)
      exact absurd (of_decide_eq_true (h _ (List.mem_of_getElem? ht))) ((hp t _ ht).mp h3)
section RC
variable {g : am_G} {i w : Nat} {F : fF}
theorem C_keepsWithin_4 (d : Nat) (h : rC g i F) (hw : f_wf F) {L : List Nat} (hY : rY g w L) (hL : ∀ x ∈ L, x < fN F) (hl : L.length ≤ 24) (hk : f_lks (fP F) L) {x lo : Int32} (hx : -9999 ≤ x.toInt ∧ x.toInt ≤ 9999) :
    am_call (d + 3) 82 [.inr (.inr (16, w)), .inr (.inr (1, i)), .inr (.inr (4, i)), .inl x, .inl lo] g = some (some (.inl (if f_kw (f_ws (fP F) (fL F) L) x.toInt lo.toInt = true then 1 else 0)), g) := by
  rw [cY_keepsWithin_4, eY_keepsWithin_4_0]
  have hwl := f_ws_len (fP F) (fL F) L
  have key := for_find (fun k t => am_run (am_call (d + 2)) 82 k 2 [some (.inr (.inr (16, w))), some (.inr (.inr (1, i))), some (.inr (.inr (4, i))), some (.inl x), some (.inl lo), some (.inl (nI t))] [] g) (L.length - 1) (fun t => !(decide (lo.toInt ≤ ((f_ws (fP F) (fL F) L).getD t 0 : Int) + x.toInt ∧ ((f_ws (fP F) (fL F) L).getD t 0 : Int) + x.toInt ≤ 9999))) (fun _ => some (some (.inl 0), g)) (some (some (.inl 1), g)) (fun k t ht => by
    obtain ⟨a, b, ha, hb⟩ := get2 (L := L) (k := t) (by omega)
    have hxy := f_lks_at hk ha hb
    have hlw := f_lw_lt (par := fP F) (hL a (List.mem_of_getElem? ha)) (hL b (List.mem_of_getElem? hb))
    have hne := f_lw_ne hxy
    have hle := hw.2.2.2 _ hlw hne
    have egt : (f_ws (fP F) (fL F) L).getD t 0 = fL F (f_lw (fP F) a b) := by rw [List.getD_eq_getElem?_getD, f_ws_at ha hb]; rfl
    have e1 := q_addInt hle.2.1 hx
    rw [egt, eY_keepsWithin_4_2, hY.1, nI_1, if_neg (nI_ge (by omega) (by omega)), C_lowerOfLink d h hw hY hL hl ha hb hxy, bi_some, q_c24 hw.1 hlw, cond_true, nI_clamp (q24 hw.1 hlw), h.l hlw hne]
    by_cases e : isW (nI (fL F (f_lw (fP F) a b)) + x) lo 9999
    · rw [C_isWithin_t (d + 1) g e, bi_some, if_neg (by decide)]
      rw [isW_iff, e1, q_9999] at e
      rw [if_neg (by simp [e.1, e.2])]
    · rw [C_isWithin_f (d + 1) g e, bi_some, if_pos rfl]
      rw [isW_iff, e1, q_9999] at e
      rw [if_pos (by rw [decide_eq_false e]; rfl)]) (fun k => by
    rw [eY_keepsWithin_4_2, hY.1, nI_1, if_pos (nI_le (by omega) (by omega))]) (L.length - 1) 0 99999 (by omega) (by omega)
  refine key.trans ?_
  have hff := f_kw_ff (f_ws (fP F) (fL F) L) x.toInt lo.toInt (fun t => !(decide (lo.toInt ≤ ((f_ws (fP F) (fL F) L).getD t 0 : Int) + x.toInt ∧ ((f_ws (fP F) (fL F) L).getD t 0 : Int) + x.toInt ≤ 9999))) (fun t l hl => by
    rw [List.getD_eq_getElem?_getD, hl]
    simp
    omega)
  rw [hwl] at hff
  by_cases e : f_kw (f_ws (fP F) (fL F) L) x.toInt lo.toInt = true
  · rw [if_pos e, hff.mpr e]
  · rw [if_neg e]
    split
    · rename_i h1; exact absurd (hff.mp h1) e
    · rfl
theorem C_keepsWithin_5 (d : Nat) (h : rC g i F) (hw : f_wf F) {L : List Nat} (hY : rY g w L) (hL : ∀ x ∈ L, x < fN F) (hl : L.length ≤ 24) (hk : f_lks (fP F) L) {x lo : Int32} (hx : -9999 ≤ x.toInt ∧ x.toInt ≤ 9999) :
    am_call (d + 3) 82 [.inr (.inr (16, w)), .inr (.inr (1, i)), .inr (.inr (5, i)), .inl x, .inl lo] g = some (some (.inl (if f_kw (f_ws (fP F) (fC F) L) x.toInt lo.toInt = true then 1 else 0)), g) := by
  rw [cY_keepsWithin_5, eY_keepsWithin_5_0]
  have hwl := f_ws_len (fP F) (fC F) L
  have key := for_find (fun k t => am_run (am_call (d + 2)) 82 k 2 [some (.inr (.inr (16, w))), some (.inr (.inr (1, i))), some (.inr (.inr (5, i))), some (.inl x), some (.inl lo), some (.inl (nI t))] [] g) (L.length - 1) (fun t => !(decide (lo.toInt ≤ ((f_ws (fP F) (fC F) L).getD t 0 : Int) + x.toInt ∧ ((f_ws (fP F) (fC F) L).getD t 0 : Int) + x.toInt ≤ 9999))) (fun _ => some (some (.inl 0), g)) (some (some (.inl 1), g)) (fun k t ht => by
    obtain ⟨a, b, ha, hb⟩ := get2 (L := L) (k := t) (by omega)
    have hxy := f_lks_at hk ha hb
    have hlw := f_lw_lt (par := fP F) (hL a (List.mem_of_getElem? ha)) (hL b (List.mem_of_getElem? hb))
    have hne := f_lw_ne hxy
    have hle := hw.2.2.2 _ hlw hne
    have egt : (f_ws (fP F) (fC F) L).getD t 0 = fC F (f_lw (fP F) a b) := by rw [List.getD_eq_getElem?_getD, f_ws_at ha hb]; rfl
    have e1 := q_addInt hle.2.2 hx
    rw [egt, eY_keepsWithin_5_2, hY.1, nI_1, if_neg (nI_ge (by omega) (by omega)), C_lowerOfLink d h hw hY hL hl ha hb hxy, bi_some, q_c24 hw.1 hlw, cond_true, nI_clamp (q24 hw.1 hlw), h.c hlw hne]
    by_cases e : isW (nI (fC F (f_lw (fP F) a b)) + x) lo 9999
    · rw [C_isWithin_t (d + 1) g e, bi_some, if_neg (by decide)]
      rw [isW_iff, e1, q_9999] at e
      rw [if_neg (by simp [e.1, e.2])]
    · rw [C_isWithin_f (d + 1) g e, bi_some, if_pos rfl]
      rw [isW_iff, e1, q_9999] at e
      rw [if_pos (by rw [decide_eq_false e]; rfl)]) (fun k => by
    rw [eY_keepsWithin_5_2, hY.1, nI_1, if_pos (nI_le (by omega) (by omega))]) (L.length - 1) 0 99999 (by omega) (by omega)
  refine key.trans ?_
  have hff := f_kw_ff (f_ws (fP F) (fC F) L) x.toInt lo.toInt (fun t => !(decide (lo.toInt ≤ ((f_ws (fP F) (fC F) L).getD t 0 : Int) + x.toInt ∧ ((f_ws (fP F) (fC F) L).getD t 0 : Int) + x.toInt ≤ 9999))) (fun t l hl => by
    rw [List.getD_eq_getElem?_getD, hl]
    simp
    omega)
  rw [hwl] at hff
  by_cases e : f_kw (f_ws (fP F) (fC F) L) x.toInt lo.toInt = true
  · rw [if_pos e, hff.mpr e]
  · rw [if_neg e]
    split
    · rename_i h1; exact absurd (hff.mp h1) e
    · rfl
end RC
