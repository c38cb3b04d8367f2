/-! ===== ways: a Way object ===== -/
theorem q_24lt {T : Nat} (h : T ≤ 24) : ¬ (24 : Int32) < nI T := nI_nlt (a := 24) h (by omega)
section RC
variable {g : am_G} {i w : Nat} {F : fF}
theorem C_lay (d : Nat) (h : rC g i F) (hw : f_wf F) {a b : Nat} (ha : a < fN F) (hb : b < fN F) : ∃ g', am_call (d + 3) 74 [.inr (.inr (16, w)), .inr (.inr (1, i)), .inl (nI a), .inl (nI b)] g = some (none, g') ∧ rY g' w (f_way (fP F) a b) ∧ m_fr (sY w) g g' := by
  have hf0 : m_fr (sY w) g (am_put g 119 w 0) := m_fr.rf.put ⟨rfl, Or.inr rfl⟩
  have h0 := h.sY hf0
  rw [cY_lay, eY_lay_0, C_meetingOf d h0 hw ha hb, bi_some]
  by_cases hr : f_r (fP F) a = f_r (fP F) b
  · obtain ⟨m, A, B, hm⟩ := f_md_ex hw.2.1 hw.1 hb a ha hr
    have hmn := f_a_lt hw.2.1 ha hm.mem.1
    obtain ⟨e1, e2⟩ := f_md_len hw.2.1 hm
    have hd1 := f_d_lt hw ha
    have hd2 := f_d_lt hw hb
    have hway := f_way_md hw.2.1 hm
    have hlen := (f_way_nd hw ha hb).2
    rw [hway] at hlen ⊢
    have hlen : A.length + 1 + B.length ≤ 24 := by
      rw [List.length_append, List.length_cons, List.length_reverse] at hlen
      omega
    rw [f_m_md hw.2.1 hm, eC_some, if_neg (q_ne1 (q24 hw.1 hmn)), C_depthOf (d + 1) h0 hw ha, bi_some, C_depthOf (d + 1) h0 hw hmn, bi_some, C_depthOf (d + 1) h0 hw hb, bi_some, C_depthOf (d + 1) h0 hw hmn, bi_some, pk_sub (by omega), pk_sub (by omega), show f_d (fP F) a - f_d (fP F) m = A.length by omega, show f_d (fP F) b - f_d (fP F) m = B.length by omega, nI_1, nI_add, if_neg (q_24lt hlen)]
    have hf1 : m_fr (sY w) g (am_put (am_put g 119 w 0) 119 w (nI (A.length + 1 + B.length))) := hf0.put ⟨rfl, Or.inr rfl⟩
    obtain ⟨r, er⟩ := f_a_hd (fP F) m
    have chA := f_a_ch hw.2.1 hw.1 a ha
    have chB := f_a_ch hw.2.1 hw.1 b hb
    rw [hm.1, er] at chA
    rw [hm.2.1, er] at chB
    obtain ⟨g1, k1, k2, k3, k4, k5⟩ := C_lay_up (i := i) (w := w) (am_call (d + 2)) hw (nI a) (nI b) (nI m) (nI B.length) (U := A.length) (T := A.length + 1 + B.length) (by omega) hlen (A ++ [m]) (99999 - 1 - (A ++ [m]).length) 0 _ (some a) (h.sY hf1) (m_put _ _ _ _ _) (by simp) (fun x hx => by
        rcases List.mem_append.mp hx with hx | hx
        · exact f_a_lt hw.2.1 ha (by rw [hm.1]; exact List.mem_append_left _ hx)
        · rw [List.mem_singleton] at hx; rw [hx]; exact hmn) (fun _ => by
        have := hm.1
        obtain ⟨ra, ea⟩ := f_a_hd (fP F) a
        rw [ea, er] at this
        cases A with
        | nil => rw [List.nil_append] at this; rw [(List.cons.inj this).1]; rfl
        | cons x A => rw [List.cons_append] at this; rw [(List.cons.inj this).1]; rfl) (fun W1 x y W2 e => by
        have : A ++ m :: r = W1 ++ x :: (y :: W2 ++ r) := by rw [show A ++ m :: r = (A ++ [m]) ++ r by simp, e]; simp
        rw [this] at chA
        exact p_ch_app W1 chA)
    have ek : 99999 - 1 - (A ++ [m]).length + 1 + (A ++ [m]).length = 99999 := by rw [List.length_append, List.length_singleton]; omega
    rw [ek] at k1
    have k1 : am_run (am_call (d + 2)) 74 99999 41 [some (.inr (.inr (16, w))), some (.inr (.inr (1, i))), some (.inl (nI a)), some (.inl (nI b)), some (.inl (nI m)), some (.inl (nI A.length)), some (.inl (nI B.length)), some (.inl (nI a)), some (.inl 0)] [] (am_put (am_put g 119 w 0) 119 w (nI (A.length + 1 + B.length))) = _ := k1
    rw [k1, q_n1, pk_sub (by omega), show A.length + 1 + B.length - 1 = A.length + B.length by omega]
    obtain ⟨g2, l1, l2, l3, l4, l5⟩ := C_lay_down (i := i) (w := w) (am_call (d + 2)) hw (nI a) (nI b) (nI m) (nI B.length) (U := A.length) B (99999 - 1 - (A ++ [m]).length - 1 - B.length) g1 (some b) (h.sY (hf1.tr k2)) (by omega) (fun x hx => f_a_lt hw.2.1 hb (by rw [hm.2.1]; exact List.mem_append_left _ hx)) (fun hne => by
        have := hm.2.1
        obtain ⟨rb, eb⟩ := f_a_hd (fP F) b
        rw [eb, er] at this
        cases B with
        | nil => exact absurd rfl hne
        | cons x B => rw [List.cons_append] at this; rw [(List.cons.inj this).1]; rfl) (fun W1 x y W2 e => by
        rw [e, List.append_assoc] at chB
        exact p_ch_app W1 chB)
    have el : 99999 - 1 - (A ++ [m]).length - 1 - B.length + 1 + B.length = 99999 - 1 - (A ++ [m]).length := by rw [List.length_append, List.length_singleton]; omega
    rw [el] at l1
    refine ⟨g2, l1, ⟨?_, fun k x hk => ?_⟩, (hf1.tr k2).tr l2⟩
    · rw [l3, k3, List.length_append, List.length_cons, List.length_reverse, show A.length + 1 + B.length = A.length + (B.length + 1) by omega]
    · rw [show A ++ m :: B.reverse = (A ++ [m]) ++ B.reverse by simp, List.getElem?_append] at hk
      have eAm : (A ++ [m]).length = A.length + 1 := by simp
      by_cases hlt : k < (A ++ [m]).length
      · rw [if_pos hlt] at hk
        have := k4 k x hk
        rw [Nat.zero_add] at this
        rw [l5 k (Or.inl (by omega)), this]
      · rw [if_neg hlt] at hk
        have := l4 _ x hk
        rw [eAm] at this
        rw [show k = A.length + 1 + (k - (A.length + 1)) by omega]
        exact this
  · rw [f_m_none hw.2.1 hw.1 ha hb hr, eC_none, if_pos rfl, f_way_none hw.2.1 hw.1 ha hb hr]
    exact ⟨_, rfl, ⟨m_put _ _ _ _ _, fun k x hk => by simp at hk⟩, hf0⟩
theorem f_lo_lk {par : Nat → Option Nat} {x y : Nat} (h : f_lk par x y) : f_lo par x y = some (f_lw par x y) := by
  unfold f_lo f_lw
  by_cases h1 : par x = some y
  · rw [if_pos h1, if_pos h1]
  · rw [if_neg h1, if_neg h1, if_pos (h.resolve_left h1)]
theorem f_lw_lt {n : Nat} {par : Nat → Option Nat} {x y : Nat} (hx : x < n) (hy : y < n) : f_lw par x y < n := by
  unfold f_lw
  split
  · exact hx
  · exact hy
theorem f_lw_ne {par : Nat → Option Nat} {x y : Nat} (h : f_lk par x y) : par (f_lw par x y) ≠ none := by
  unfold f_lw
  by_cases h1 : par x = some y
  · rw [if_pos h1, h1]; simp
  · rw [if_neg h1, h.resolve_left h1]; simp
theorem C_lowerOfLink (d : Nat) (h : rC g i F) (hw : f_wf F) {L : List Nat} (hY : rY g w L) (hL : ∀ x ∈ L, x < fN F) (hl : L.length ≤ 24) {k x y : Nat} (hx : L[k]? = some x) (hy : L[k + 1]? = some y) (hk : f_lk (fP F) x y) :
    am_call (d + 2) 75 [.inr (.inr (16, w)), .inr (.inr (1, i)), .inl (nI k)] g = some (some (.inl (nI (f_lw (fP F) x y))), g) := by
  have h1 : k + 1 < 24 := Nat.lt_of_lt_of_le (List.getElem?_eq_some_iff.mp hy).1 hl
  have hxn := hL x (List.mem_of_getElem? hx)
  have hyn := hL y (List.mem_of_getElem? hy)
  rw [cY_lowerOfLink, eY_lowerOfLink_0, nI_1, q_in (k := k) (n := 24) (by omega) (by omega), q_in (k := k + 1) (n := 24) (by omega) (by omega), cond_true, cond_true, nI_clamp (n := k) (by omega), nI_clamp (n := k + 1) (by omega), hY.2 k x hx, hY.2 (k + 1) y hy, C_lowerOf d h hw hxn hyn, bi_some, f_lo_lk hk, eC_some, if_neg (q_ne1 (q24 hw.1 (f_lw_lt hxn hyn)))]
theorem get2 {L : List Nat} {k : Nat} (h : k + 1 < L.length) : ∃ x y, L[k]? = some x ∧ L[k + 1]? = some y := ⟨_, _, List.getElem?_eq_getElem (by omega), List.getElem?_eq_getElem h⟩
theorem fo_sum (ws : List Nat) : ∀ (m t b : Nat), t + m = ws.length → fo (fun b t => b + ws.getD t 0) b t m = b + (ws.drop t).sum
  | 0, t, b, h => by
    rw [List.drop_eq_nil_of_le (by omega)]
    rfl
  | m + 1, t, b, h => by
    have ht : t < ws.length := by omega
    rw [fo, fo_sum ws m (t + 1) _ (by omega), List.drop_eq_getElem_cons ht, List.sum_cons, List.getD_eq_getElem?_getD, List.getElem?_eq_getElem ht]
    simp
    omega
theorem C_lengths (d : Nat) (h : rC g i F) (hw : f_wf F) {L : List Nat} (hY : rY g w L) (hL : ∀ x ∈ L, x < fN F) (hl : L.length ≤ 24) (hk : f_lks (fP F) L) :
    am_call (d + 3) 76 [.inr (.inr (16, w)), .inr (.inr (1, i))] g = some (some (.inl (nI (f_ws (fP F) (fL F) L).sum)), g) := by
  rw [cY_lengths, eY_lengths_0]
  have hwl := f_ws_len (fP F) (fL F) L
  have key := for_loop (fun k b t => am_run (am_call (d + 2)) 76 k 4 [some (.inr (.inr (16, w))), some (.inr (.inr (1, i))), some (.inl (nI b)), some (.inl (nI t))] [] g) (L.length - 1) (fun b t => b + (f_ws (fP F) (fL F) L).getD t 0) (fun b => some (some (.inl (nI b)), g)) (fun k b t ht => by
    obtain ⟨x, y, hx, hy⟩ := get2 (L := L) (k := t) (by omega)
    have hxy := f_lks_at hk hx hy
    have hlw := f_lw_lt (par := fP F) (hL x (List.mem_of_getElem? hx)) (hL y (List.mem_of_getElem? hy))
    rw [eY_lengths_4, hY.1, nI_1, if_neg (nI_ge (by omega) (by omega)), C_lowerOfLink d h hw hY hL hl hx hy hxy, bi_some, q_c24 hw.1 hlw, cond_true, nI_clamp (q24 hw.1 hlw), h.l hlw (f_lw_ne hxy), nI_add, List.getD_eq_getElem?_getD, f_ws_at hx hy]
    rfl) (fun k b => by
    rw [eY_lengths_4, hY.1, nI_1, if_pos (nI_le (by omega) (by omega))]) (L.length - 1) 0 0 99999 (by omega) (by omega)
  rw [fo_sum (f_ws (fP F) (fL F) L) _ 0 0 (by omega), Nat.zero_add, List.drop_zero] at key
  exact key
/-- sums of ints -/
def isum : List Int32 → Int32
  | [] => 0
  | x :: r => x + isum r
theorem fo_isum (ws : List Int32) : ∀ (m t : Nat) (b : Int32), t + m = ws.length → fo (fun b t => b + ws.getD t 0) b t m = b + isum (ws.drop t)
  | 0, t, b, h => by
    rw [List.drop_eq_nil_of_le (by omega)]
    exact (Int32.add_zero b).symm
  | m + 1, t, b, h => by
    have ht : t < ws.length := by omega
    rw [fo, fo_isum ws m (t + 1) _ (by omega), List.drop_eq_getElem_cons ht, isum, List.getD_eq_getElem?_getD, List.getElem?_eq_getElem ht, Int32.add_assoc]
    rfl
theorem C_values (d : Nat) (h : rC g i F) (hw : f_wf F) {L : List Nat} (hY : rY g w L) (hL : ∀ x ∈ L, x < fN F) (hl : L.length ≤ 24) :
    am_call (d + 1) 77 [.inr (.inr (16, w)), .inr (.inr (1, i))] g = some (some (.inl (isum (L.map (fV F)))), g) := by
  rw [cY_values, eY_values_0]
  have key := for_loop (fun k b t => am_run (am_call d) 77 k 4 [some (.inr (.inr (16, w))), some (.inr (.inr (1, i))), some (.inl b), some (.inl (nI t))] [] g) L.length (fun b t => b + (L.map (fV F)).getD t 0) (fun b => some (some (.inl b), g)) (fun k b t ht => by
    have hx : L[t]? = some L[t] := List.getElem?_eq_getElem ht
    have hxn := hL _ (List.mem_of_getElem? hx)
    rw [eY_values_4, hY.1, if_neg (nI_ge ht (by omega)), q_in (k := t) (n := 24) (by omega) (by omega), cond_true, nI_clamp (n := t) (by omega), hY.2 t _ hx, q_c24 hw.1 hxn, cond_true, nI_clamp (q24 hw.1 hxn), h.v hxn, nI_1, List.getD_eq_getElem?_getD, List.getElem?_map, hx]
    rfl) (fun k b => by
    rw [eY_values_4, hY.1, if_pos (nI_le (Nat.le_refl _) (by omega))]) L.length 0 0 99999 (by omega) (by omega)
  rw [fo_isum (L.map (fV F)) _ 0 0 (by simp), List.drop_zero, Int32.zero_add] at key
  exact key
/-- the first of the greatest: where, and it -/
def f_dx (ws : List Nat) : Option Nat × Nat := fo (fun b t => if ws.getD t 0 ≤ b.2 then b else (some t, ws.getD t 0)) (none, 0) 0 ws.length
theorem C_dearestLink (d : Nat) (h : rC g i F) (hw : f_wf F) {L : List Nat} (hY : rY g w L) (hL : ∀ x ∈ L, x < fN F) (hl : L.length ≤ 24) (hk : f_lks (fP F) L) :
    am_call (d + 3) 78 [.inr (.inr (16, w)), .inr (.inr (1, i))] g = some (some (.inl (eC (f_dx (f_ws (fP F) (fL F) L)).1)), g) := by
  rw [cY_dearestLink, eY_dearestLink_0]
  have hwl := f_ws_len (fP F) (fL F) L
  have key := for_inv (fun k (b : Option Nat × Nat) o t => am_run (am_call (d + 2)) 78 k 6 [some (.inr (.inr (16, w))), some (.inr (.inr (1, i))), some (.inl (eC b.1)), some (.inl (nI b.2)), some (.inl (nI t)), o] [] g) (L.length - 1) (fun b t => if (f_ws (fP F) (fL F) L).getD t 0 ≤ b.2 then b else (some t, (f_ws (fP F) (fL F) L).getD t 0)) (fun b => some (some (.inl (eC b.1)), g)) (fun b _ => b.2 ≤ 9999) (fun k b o t ht hb => by
    obtain ⟨x, y, hx, hy⟩ := get2 (L := L) (k := t) (by omega)
    have hxy := f_lks_at hk hx hy
    have hlw := f_lw_lt (par := fP F) (hL x (List.mem_of_getElem? hx)) (hL y (List.mem_of_getElem? hy))
    have hne := f_lw_ne hxy
    have hle := hw.2.2.2 _ hlw hne
    have egt : (f_ws (fP F) (fL F) L).getD t 0 = fL F (f_lw (fP F) x y) := by rw [List.getD_eq_getElem?_getD, f_ws_at hx hy]; rfl
    rw [egt]
    refine ⟨⟨some (.inl (nI (fL F (f_lw (fP F) x y)))), ?_⟩, ?_⟩
    · rw [eY_dearestLink_6, hY.1, nI_1, if_neg (nI_ge (by omega) (by omega)), C_lowerOfLink d h hw hY hL hl hx hy hxy, bi_some, q_c24 hw.1 hlw, cond_true, nI_clamp (q24 hw.1 hlw), h.l hlw hne]
      by_cases e : fL F (f_lw (fP F) x y) ≤ b.2
      · rw [if_pos (nI_le e (by omega)), if_pos e]
      · rw [if_neg (nI_ge (by omega) (by omega)), if_neg e]; rfl
    · split
      · exact hb
      · exact hle.2.1) (fun k b o _ => by
    rw [eY_dearestLink_6, hY.1, nI_1, if_pos (nI_le (by omega) (by omega))]) (m := L.length - 1) (t := 0) (b := (none, 0)) (o := none) (k := 99999) (by omega) (by omega) (Nat.zero_le _)
  refine key.1.trans ?_
  unfold f_dx
  rw [hwl]
end RC
