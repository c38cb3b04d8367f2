/-! ===== the model: order, draws, by chance ===== -/
theorem nd_split {t : Nat} : ∀ {A A' B B' : List Nat}, (A ++ t :: B).Nodup → A ++ t :: B = A' ++ t :: B' → A = A' ∧ B = B'
  | [], [], B, B', _, e => ⟨rfl, (List.cons.inj e).2⟩
  | [], x :: A', B, B', hn, e => by
    obtain ⟨e1, e2⟩ := List.cons.inj e
    rw [List.nil_append, List.nodup_cons] at hn
    exact absurd (by rw [e2]; simp) hn.1
  | x :: A, [], B, B', hn, e => by
    obtain ⟨e1, e2⟩ := List.cons.inj e
    rw [List.cons_append, List.nodup_cons] at hn
    exact absurd (by rw [e1]; simp) hn.1
  | x :: A, y :: A', B, B', hn, e => by
    obtain ⟨e1, e2⟩ := List.cons.inj e
    obtain ⟨h1, h2⟩ := nd_split (List.nodup_cons.mp hn).2 e2
    exact ⟨by rw [e1, h1], h2⟩
section MM
variable {g : am_G} {b : Nat} {F : fF}
theorem M_cb_loop (d : Nat) (h : rMa g b F) (hw : f_wf F) {t : Nat} (ht : t < fN F) (x2 x3 : Int32) {k from1 : Nat} (hf : from1 ≤ fN F) (hk : 30 < k) : am_run (am_call (d + 2)) 210 k 25 [some (.inr (.inr (29, 0))), some (.inl (nI t)), some (.inl x2), some (.inl x3), some (.inl (nI from1))] [] g = some (some (.inl (eC (ff (f_pk F t) from1 (fN F - from1)))), g) := by
  have hn := hw.1
  have key := for_find (fun k x => am_run (am_call (d + 2)) 210 k 25 [some (.inr (.inr (29, 0))), some (.inl (nI t)), some (.inl x2), some (.inl x3), some (.inl (nI x))] [] g) (fN F) (f_pk F t) (fun x => some (some (.inl (nI x)), g)) (some (some (.inl (-1)), g)) (fun k x hx => by
    rw [eM_childBehind_25, h.2.2.2, if_neg (nI_ge hx (by omega)), M_parent d h hn hx, bi_some, nI_1]
    unfold f_pk
    by_cases e : fP F x = some t
    · rw [if_pos ((eM_inj (hw.p31 hx) (q24 hn ht)).mpr e), M_prefers d h hn ht, bi_some]
      by_cases e2 : fQ F t = some x
      · rw [if_pos ((eM_inj (hw.q31 ht) (q24 hn hx)).mpr e2).symm, if_neg (by simp [e2])]
      · rw [if_neg (fun q => e2 ((eM_inj (hw.q31 ht) (q24 hn hx)).mp q.symm)), if_pos (decide_eq_true ⟨e, e2⟩)]
    · rw [if_neg (fun q => e ((eM_inj (hw.p31 hx) (q24 hn ht)).mp q)), if_neg (by simp [e])]) (fun k => by
    rw [eM_childBehind_25, h.2.2.2, if_pos (nI_le (Nat.le_refl _) (by omega))]) (fN F - from1) from1 k (by omega) (by omega)
  refine Eq.trans key ?_
  cases ff (f_pk F t) from1 (fN F - from1) with
  | none => rfl
  | some c => rfl
theorem M_cb_none (d : Nat) (h : rMa g b F) (hw : f_wf F) {t : Nat} (ht : t < fN F) : am_call (d + 3) 210 [.inr (.inr (29, 0)), .inl (nI t), .inl (-1)] g = some (some (.inl (eC (f_kd F t).head?)), g) := by
  have hn := hw.1
  rw [cM_childBehind, eM_childBehind_0, if_neg (by decide), M_prefers d h hn ht, bi_some]
  unfold f_kd
  cases hq : fQ F t with
  | none =>
    rw [eM_none, if_pos (by decide), if_pos (by decide)]
    have := M_cb_loop d h hw ht (-1) 0 (k := 99999) (from1 := 0) (by omega) (by omega)
    rw [Nat.sub_zero] at this
    show am_run (am_call (d + 2)) 210 99999 25 _ [] g = _
    rw [show Option.toList (none : Option Nat) = [] from rfl, List.nil_append, fl_head]
    exact this
  | some q =>
    have hqn := (hw.2.2.1 t q ht hq).1
    rw [eM_some, if_neg (q_nn (q24 hn hqn)), M_prefers d h hn ht, bi_some, hq]
    rfl
theorem M_cb_some (d : Nat) (h : rMa g b F) (hw : f_wf F) {t c : Nat} (ht : t < fN F) (hc : c < fN F) {K1 K2 : List Nat} (e : f_kd F t = K1 ++ c :: K2) : am_call (d + 3) 210 [.inr (.inr (29, 0)), .inl (nI t), .inl (nI c)] g = some (some (.inl (eC K2.head?)), g) := by
  have hn := hw.1
  have hnd := f_kd_nd (F := F) t
  rw [cM_childBehind, eM_childBehind_0, if_pos (q_0le (q24 hn hc)), if_neg (q_nn (q24 hn hc)), M_prefers d h hn ht, bi_some]
  have e' := e
  unfold f_kd at e'
  by_cases hq : fQ F t = some c
  · rw [if_pos ((eM_inj (hw.q31 ht) (q24 hn hc)).mpr hq).symm]
    rw [hq] at e'
    have hnd' := hnd
    rw [e] at hnd'
    have := nd_split (A := []) (B := fl (f_pk F t) 0 (fN F)) (t := c) (A' := K1) (B' := K2) (by
      have e0 : [] ++ c :: fl (f_pk F t) 0 (fN F) = f_kd F t := by unfold f_kd; rw [hq]; rfl
      rw [e0]; exact hnd) e'
    rw [← this.2, fl_head]
    have := M_cb_loop d h hw ht (nI c) 0 (k := 99999) (from1 := 0) (by omega) (by omega)
    rw [Nat.sub_zero] at this
    exact this
  · rw [if_neg (fun q => hq ((eM_inj (hw.q31 ht) (q24 hn hc)).mp q.symm)), nI_1]
    have hfl : ∃ K, fl (f_pk F t) 0 (fN F) = K ++ c :: K2 := by
      cases hq2 : fQ F t with
      | none => rw [hq2] at e'; exact ⟨K1, e'⟩
      | some q =>
        rw [hq2] at e'
        cases K1 with
        | nil =>
          have : q = c := (List.cons.inj e').1
          exact absurd (by rw [hq2, this]) hq
        | cons y K => exact ⟨K, (List.cons.inj e').2⟩
    obtain ⟨K, eK⟩ := hfl
    rw [fl_split (fN F) 0 K eK, fl_head, Nat.zero_add]
    exact M_cb_loop d h hw ht (nI c) (nI (c + 1)) (k := 99999) (from1 := c + 1) (by omega) (by omega)
theorem fm_hd {F : fF} (hw : f_wf F) {y : Nat} (hy : y < fN F) (K C : List Nat) : ((y :: K).flatMap (f_or F) ++ C).head? = some y := by
  rw [List.flatMap_cons, f_or_eq hw hy]
  rfl
theorem M_bh_loop (d : Nat) (h : rMa g b F) (hw : f_wf F) {R : Nat} (hR : R < fN F) (hRn : fP F R = none) (x1 x2 : Int32) : ∀ x, x < fN F → R ∈ f_a (fP F) x → ∃ A C, f_or F R = A ++ (f_or F x ++ C) ∧ ∀ (k : Nat) (o4 : Option am_V), (f_a (fP F) x).length ≤ k → am_run (am_call (d + 3)) 211 k 11 [some (.inr (.inr (29, 0))), some (.inl x1), some (.inl x2), some (.inl (nI x)), o4] [] g = some (some (.inl (eC C.head?)), g) := by
  refine f_ind hw.2.1 fun x hx ih hRx => ?_
  cases hp : fP F x with
  | none =>
    rw [hw.an hx hp] at hRx
    have e : R = x := by simpa using hRx
    subst e
    refine ⟨[], [], by simp, fun k o4 hk => ?_⟩
    have := f_a_pos (fP F) R
    obtain ⟨k, rfl⟩ : ∃ k', k = k' + 1 := ⟨k - 1, by omega⟩
    rw [eM_behind_11, M_parent (d + 1) h hw.1 hx, bi_some, hp, eM_none, if_pos (by decide)]
    rfl
  | some p =>
    have hpn := hw.p hx hp
    rw [hw.as hx hp] at hRx
    have hRp : R ∈ f_a (fP F) p := by
      rcases List.mem_cons.mp hRx with q | q
      · rw [q] at hRn; rw [hRn] at hp; cases hp
      · exact q
    obtain ⟨A, C, e1, e2⟩ := ih p hp hRp
    obtain ⟨K1, K2, eK⟩ := List.append_of_mem ((f_kd_mem hw hpn).mpr ⟨hx, hp⟩)
    have eo : f_or F p = (p :: K1.flatMap (f_or F)) ++ (f_or F x ++ K2.flatMap (f_or F)) := by
      rw [f_or_eq hw hpn, eK, List.flatMap_append, List.flatMap_cons]
      simp
    refine ⟨A ++ (p :: K1.flatMap (f_or F)), K2.flatMap (f_or F) ++ C, by rw [e1, eo]; simp, fun k o4 hk => ?_⟩
    rw [hw.as hx hp, List.length_cons] at hk
    obtain ⟨k, rfl⟩ : ∃ k', k = k' + 1 := ⟨k - 1, by omega⟩
    rw [eM_behind_11, M_parent (d + 1) h hw.1 hx, bi_some, hp, eM_some, if_neg (q_nn (q24 hw.1 hpn)), M_parent (d + 1) h hw.1 hx, bi_some, hp, eM_some, M_cb_some d h hw hpn hx eK, bi_some]
    cases K2 with
    | nil =>
      rw [List.head?_nil, eC_none, if_pos (by decide), M_parent (d + 1) h hw.1 hx, bi_some, hp, eM_some]
      exact e2 k _ (by omega)
    | cons y K =>
      have hyn : y < fN F := ((f_kd_mem hw hpn).mp (by rw [eK]; simp)).1
      rw [List.head?_cons, eC_some, if_neg (q_nn (q24 hw.1 hyn)), fm_hd hw hyn]
      rfl
theorem M_behind (d : Nat) (h : rMa g b F) (hw : f_wf F) {R : Nat} (hR : R < fN F) (hRn : fP F R = none) {t : Nat} {A B : List Nat} (e : f_or F R = A ++ t :: B) : am_call (d + 4) 211 [.inr (.inr (29, 0)), .inl (nI t)] g = some (some (.inl (eC B.head?)), g) := by
  have htm : t ∈ f_or F R := by rw [e]; simp
  obtain ⟨ht, htr⟩ := f_or_mem1 hw R hR t htm
  have hnd := f_or_nd hw R hR
  obtain ⟨A', C, e1, e2⟩ := M_bh_loop d h hw hR hRn (nI t) (-1) t ht htr
  rw [f_or_eq hw ht, List.cons_append] at e1
  have hs := nd_split (by rw [← e]; exact hnd) (e.symm.trans e1)
  have hal := hw.al ht
  rw [cM_behind, eM_behind_0, M_cb_none d h hw ht, bi_some]
  cases hK : f_kd F t with
  | nil =>
    rw [hK] at hs
    rw [List.head?_nil, eC_none, if_pos (by decide), hs.2]
    exact e2 99999 none (by omega)
  | cons y K =>
    have hyn : y < fN F := ((f_kd_mem hw ht).mp (by rw [hK]; simp)).1
    rw [hK] at hs
    rw [List.head?_cons, eC_some, if_neg (q_nn (q24 hw.1 hyn)), hs.2, fm_hd hw hyn]
    rfl
theorem M_behind_at (d : Nat) (h : rMa g b F) (hw : f_wf F) {R : Nat} (hR : R < fN F) (hRn : fP F R = none) {t i : Nat} (hi : (f_or F R)[i]? = some t) : am_call (d + 4) 211 [.inr (.inr (29, 0)), .inl (nI t)] g = some (some (.inl (eC (f_or F R)[i + 1]?)), g) := by
  obtain ⟨hi1, hi2⟩ := List.getElem?_eq_some_iff.mp hi
  have e : f_or F R = (f_or F R).take i ++ t :: (f_or F R).drop (i + 1) := by
    rw [← hi2, ← List.drop_eq_getElem_cons hi1, List.take_append_drop]
  rw [M_behind d h hw hR hRn e, List.head?_drop]
theorem M_order_loop (d : Nat) (h : rMa g b F) (hw : f_wf F) {R : Nat} (hR : R < fN F) (hRn : fP F R = none) (x1 K : Int32) : ∀ (m i k : Nat), i + m = (f_or F R).length → m + 1 < k → (i : Int) ≤ K.toInt →
    am_run (am_call (d + 4)) 212 k 17 [some (.inr (.inr (29, 0))), some (.inl x1), some (.inl K), some (.inl (eC (f_or F R)[i]?)), some (.inl (nI i))] [] g = some (some (.inl (if nI (f_or F R).length ≤ K then -2 else nI ((f_or F R).getD K.toNatClampNeg 0))), g) := by
  have hl : (f_or F R).length ≤ 24 := Nat.le_trans (f_or_len hw hR) hw.1
  intro m
  induction m with
  | zero =>
    intro i k hi hk hK
    obtain ⟨k, rfl⟩ : ∃ k', k = k' + 1 := ⟨k - 1, by omega⟩
    have e : i = (f_or F R).length := by omega
    subst e
    have hz : nI (f_or F R).length ≤ K := by rw [q_le, nI_toInt (by omega)]; exact hK
    rw [List.getElem?_eq_none (Nat.le_refl _), eC_none, eM_order_17, if_neg (show ¬ (0 : Int32) ≤ -1 by decide), if_pos (show (-1 : Int32) < 0 by decide), if_pos hz]
    split <;> rfl
  | succ m ih =>
    intro i k hi hk hK
    obtain ⟨k, rfl⟩ : ∃ k', k = k' + 1 := ⟨k - 1, by omega⟩
    obtain ⟨t, ht⟩ : ∃ t, (f_or F R)[i]? = some t := ⟨_, List.getElem?_eq_getElem (by omega)⟩
    have htn := (f_or_mem1 hw R hR t (List.mem_of_getElem? ht)).1
    rw [ht, eC_some, eM_order_17]
    by_cases e : K ≤ nI i
    · have eK : K = nI i := by
        rw [q_le, nI_toInt (by omega)] at e
        rw [q_eq, nI_toInt (by omega)]
        omega
      rw [if_pos e, if_pos (q_0le (q24 hw.1 htn)), eK, if_neg (nI_ge (by omega) (by omega)), nI_clamp (by omega), List.getD_eq_getElem?_getD, ht]
      rfl
    · rw [if_neg e, if_neg (q_nn (q24 hw.1 htn)), M_behind_at d h hw hR hRn ht, bi_some, nI_1]
      refine ih (i + 1) k (by omega) (by omega) ?_
      rw [q_le, nI_toInt (by omega)] at e
      omega
theorem M_place_loop (d : Nat) (h : rMa g b F) (hw : f_wf F) {R t : Nat} (hR : R < fN F) (hRn : fP F R = none) (ht : t < fN F) (htm : t ∈ f_or F R) : ∀ (m i k : Nat), i + m = (f_or F R).length → m < k → (∀ j, j < i → (f_or F R)[j]? ≠ some t) →
    am_run (am_call (d + 4)) 213 k 15 [some (.inr (.inr (29, 0))), some (.inl (nI t)), some (.inl (nI i)), some (.inl (eC (f_or F R)[i]?))] [] g = some (some (.inl (eC (ff (fun s => decide ((f_or F R)[s]? = some t)) i m))), g) := by
  intro m
  induction m with
  | zero =>
    intro i k hi hk hj
    obtain ⟨j, hj2⟩ := List.mem_iff_getElem?.mp htm
    have := (List.getElem?_eq_some_iff.mp hj2).1
    exact absurd hj2 (hj j (by omega))
  | succ m ih =>
    intro i k hi hk hj
    obtain ⟨k, rfl⟩ : ∃ k', k = k' + 1 := ⟨k - 1, by omega⟩
    obtain ⟨x, hx⟩ : ∃ x, (f_or F R)[i]? = some x := ⟨_, List.getElem?_eq_getElem (by omega)⟩
    have hxn := (f_or_mem1 hw R hR x (List.mem_of_getElem? hx)).1
    rw [hx, eC_some, eM_place_15, ff]
    by_cases e : x = t
    · subst e
      rw [if_pos rfl, if_pos (decide_eq_true hx)]
      rfl
    · rw [if_neg (by rw [nI_eq (q24 hw.1 hxn) (q24 hw.1 ht)]; exact e), if_neg (by rw [hx]; simpa using e), M_behind_at d h hw hR hRn hx, bi_some, nI_1]
      refine ih (i + 1) k (by omega) (by omega) (fun j hj' q => ?_)
      by_cases ej : j = i
      · subst ej; rw [hx] at q; cases q; exact e rfl
      · exact hj j (by omega) q
theorem lN_msk (n : Nat) : lN n &&& lN 2147483647 = lN (n % 2147483648) := by
  apply Int64.toBitVec_inj.1
  show BitVec.ofNat 64 n &&& BitVec.ofNat 64 2147483647 = BitVec.ofNat 64 (n % 2147483648)
  rw [← BitVec.ofNat_and, show (2147483647 : Nat) = 2 ^ 31 - 1 from rfl, Nat.and_two_pow_sub_one_eq_mod]
theorem M_draw (d : Nat) {l n : Nat} (h : g 149 0 0 = nI l) (hl : l < 2 ^ 31) (hn : 0 < n) (hn2 : n < 2 ^ 31) : am_call (d + 1) 230 [.inr (.inr (29, 0)), .inl (nI n)] g = some (some (.inl (nI (dv l n))), am_put g 149 0 (nI (dw l))) := by
  have hd := dw_lt l
  have e1 : ((g 149 0 0).toInt64 * (1103515245 : Int32).toInt64 + (12345 : Int32).toInt64) &&& (2147483647 : Int32).toInt64 = lN (dw l) := by
    rw [h, dw_a, dw_b, show (2147483647 : Int32) = nI 2147483647 from rfl, nI_l hl, nI_l (by omega), nI_l (by omega), nI_l (by omega), lN_mul, lN_add, lN_msk]
    rfl
  have e2 : (lN (dw l)).toInt32.toInt64 = lN (dw l) := by rw [lN_i, nI_l hd]
  rw [cM_draw, eM_draw_0, e1, eM_draw_9, if_pos e2, lN_i, eM_draw_10, m_put, show (65536 : Int32) = nI 65536 from rfl, nI_l hd, nI_l (by omega), nI_l hn2, if_neg (by rw [show (0 : Int64) = lN 0 from rfl, lN_eq (by omega) (by omega)]; omega), if_neg (by rw [show (0 : Int64) = lN 0 from rfl, lN_eq hn2 (by omega)]; omega), pk_lDiv (by omega) (by omega) (by omega), pk_lRem (by omega) hn (by omega), lN_i]
  rfl
end MM
