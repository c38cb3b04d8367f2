/-! ===== the model: chain, joint, widest, leastFor ===== -/
theorem f_tl_st {F : fF} (hw : f_wf F) : ∀ (k x : Nat), x < fN F → 24 ≤ f_d (fP F) x + k → f_tl (fQ F) (k + 1) x = f_tl (fQ F) k x
  | 0, x, hx, h => by have := f_d_lt hw hx; omega
  | k + 1, x, hx, h => by
    rw [f_tl, f_tl]
    cases hq : fQ F x with
    | none => rfl
    | some c =>
      obtain ⟨hc, hp⟩ := hw.2.2.1 x c hx hq
      dsimp only
      exact f_tl_st hw k c hc (by rw [f_d_some hw.2.1 hw.1 hc hp]; omega)
theorem f_tl_up {F : fF} (hw : f_wf F) {x p : Nat} (hx : x < fN F) (hp : fP F x = some p) (hq : fQ F p = some x) : f_tl (fQ F) 24 p = f_tl (fQ F) 24 x := by
  have hd := f_d_some hw.2.1 hw.1 hx hp
  rw [show f_tl (fQ F) 24 p = f_tl (fQ F) 23 x by rw [f_tl, hq]]
  exact (f_tl_st hw 23 x hx (by omega)).symm
theorem f_hd_tl {F : fF} (hw : f_wf F) : ∀ (n x : Nat), x < fN F → f_tl (fQ F) 24 (f_hd (fP F) (fQ F) n x) = f_tl (fQ F) 24 x
  | 0, x, _ => rfl
  | n + 1, x, hx => by
    rw [f_hd]
    cases hp : fP F x with
    | none => rfl
    | some p =>
      dsimp only
      by_cases hq : fQ F p = some x
      · rw [if_pos hq, f_hd_tl hw n p (hw.p hx hp), f_tl_up hw hx hp hq]
      · rw [if_neg hq]
section MM
variable {g : am_G} {σ : aS} {F : fF}
theorem M_isHead (d : Nat) (h : rMa g 0 F) (hw : f_wf F) {t : Nat} (ht : t < fN F) : am_call (d + 3) 200 [.inr (.inr (29, 0)), .inl (nI t)] g = some (some (.inl (b01 (match fP F t with
    | none => true
    | some p => decide (fQ F p ≠ some t)))), g) := by
  rw [cM_isHead, eM_isHead_0, M_parent d h hw.1 ht, bi_some]
  cases hp : fP F t with
  | none => rw [eM_none, if_pos (by decide)]; rfl
  | some p =>
    have hpn := hw.p ht hp
    rw [eM_some, if_neg (q_nn (q24 hw.1 hpn)), M_parent d h hw.1 ht, bi_some, hp, eM_some, M_prefers d h hw.1 hpn, bi_some]
    dsimp only
    by_cases e : fQ F p = some t
    · rw [if_pos ((eM_inj (hw.q31 hpn) (q24 hw.1 ht)).mpr e), decide_eq_false (fun q => q e)]; rfl
    · rw [if_neg (fun q => e ((eM_inj (hw.q31 hpn) (q24 hw.1 ht)).mp q)), decide_eq_true e]; rfl
theorem M_hd_loop (d : Nat) (h : rMa g 0 F) (hw : f_wf F) (x1 x2 : Int32) : ∀ (n x c k : Nat), x < fN F → f_d (fP F) x < n → n < k →
    ∃ k', k ≤ k' + n ∧ f_d (fP F) (f_hd (fP F) (fQ F) n x) ≤ f_d (fP F) x ∧ am_run (am_call (d + 3)) 201 k 18 [some (.inr (.inr (29, 0))), some (.inl x1), some (.inl x2), some (.inl (nI x)), some (.inl (nI c)), none, none, none] [] g = am_run (am_call (d + 3)) 201 k' 34 [some (.inr (.inr (29, 0))), some (.inl x1), some (.inl x2), some (.inl (nI (f_hd (fP F) (fQ F) n x))), some (.inl (nI (c + (f_d (fP F) x - f_d (fP F) (f_hd (fP F) (fQ F) n x))))), some (.inl (nI (f_hd (fP F) (fQ F) n x))), some (.inl (1 : Int32)), some (.inl (0 : Int32))] [] g
  | 0, x, c, k, hx, hd, hk => by omega
  | n + 1, x, c, k, hx, hd, hk => by
    obtain ⟨k, rfl⟩ : ∃ k', k = k' + 1 := ⟨k - 1, by omega⟩
    rw [eM_chain_18, M_isHead d h hw hx, bi_some, f_hd]
    cases hp : fP F x with
    | none =>
      dsimp only
      rw [if_neg b01_t, Nat.sub_self, Nat.add_zero]
      exact ⟨k, by omega, Nat.le_refl _, rfl⟩
    | some p =>
      have hpn := hw.p hx hp
      have hdx := f_d_some hw.2.1 hw.1 hx hp
      dsimp only
      by_cases hq : fQ F p = some x
      · rw [if_pos (show b01 (decide (fQ F p ≠ some x)) = 0 by rw [decide_eq_false (fun q => q hq)]; rfl), if_pos hq, M_parent (d + 1) h hw.1 hx, bi_some, hp, eM_some, nI_1]
        obtain ⟨k', a1, a2, a3⟩ := M_hd_loop d h hw x1 x2 n p (c + 1) k hpn (by omega) (by omega)
        refine ⟨k', by omega, by omega, ?_⟩
        rw [a3, show c + 1 + (f_d (fP F) p - f_d (fP F) (f_hd (fP F) (fQ F) n p)) = c + (f_d (fP F) x - f_d (fP F) (f_hd (fP F) (fQ F) n p)) by omega]
      · rw [if_neg (show ¬ b01 (decide (fQ F p ≠ some x)) = 0 by rw [decide_eq_true hq]; exact q_110), if_neg hq, Nat.sub_self, Nat.add_zero]
        exact ⟨k, by omega, Nat.le_refl _, rfl⟩
theorem M_tl_loop (d : Nat) (h : rMa g 0 F) (hw : f_wf F) (x1 x2 x3 x4 : Int32) : ∀ (n x c s k : Nat), x < fN F → 24 ≤ f_d (fP F) x + n → n < k →
    ∃ B, f_a (fP F) (f_tl (fQ F) n x) = B ++ f_a (fP F) x ∧ am_run (am_call (d + 3)) 201 k 34 [some (.inr (.inr (29, 0))), some (.inl x1), some (.inl x2), some (.inl x3), some (.inl x4), some (.inl (nI x)), some (.inl (nI c)), some (.inl (nI s))] [] g = some (some (.inl (if x2 = 0 then x3 else if x2 = 1 then nI (f_tl (fQ F) n x) else if x2 = 2 then nI (c + B.length) else if x2 = 3 then x4 else nI (s + (B.map (fL F)).sum))), g)
  | 0, x, c, s, k, hx, hd, hk => by have := f_d_lt hw hx; omega
  | n + 1, x, c, s, k, hx, hd, hk => by
    obtain ⟨k, rfl⟩ : ∃ k', k = k' + 1 := ⟨k - 1, by omega⟩
    rw [eM_chain_34, M_prefers (d + 1) h hw.1 hx, bi_some, f_tl]
    cases hq : fQ F x with
    | none =>
      refine ⟨[], rfl, ?_⟩
      rw [eM_none, if_pos (by decide)]
      dsimp only
      repeat' split
      all_goals rfl
    | some y =>
      obtain ⟨hy, hp⟩ := hw.2.2.1 x y hx hq
      have hl := len_some hw hy (by rw [hp]; simp)
      obtain ⟨B, e1, e2⟩ := M_tl_loop d h hw x1 x2 x3 x4 n y (c + 1) (s + fL F y) k hy (by rw [f_d_some hw.2.1 hw.1 hy hp]; omega) (by omega)
      rw [eM_some, if_neg (q_nn (q24 hw.1 hy)), M_prefers (d + 1) h hw.1 hx, bi_some, hq, eM_some, M_ofL (d + 2) h hw.1 hy, bi_some, hl.1, M_prefers (d + 1) h hw.1 hx, bi_some, hq, eM_some, nI_1, nI_add]
      refine ⟨B ++ [y], by rw [e1, hw.as hy hp]; simp, ?_⟩
      rw [e2]
      have e3 : c + 1 + B.length = c + (B ++ [y]).length := by rw [List.length_append]; simp; omega
      have e4 : s + fL F y + (B.map (fL F)).sum = s + ((B ++ [y]).map (fL F)).sum := by rw [List.map_append, List.sum_append]; simp; omega
      rw [e3, e4]
theorem P_chain (d : Nat) (h : rMo g σ) (ho : a_ok σ) (x y : Int32) : SimM (am_call (d + 9) 201 [.inr (.inr (29, 0)), .inl x, .inl y] g) g (w_chain (aF σ) x y, σ) := by
  have h0 := h.put131 0
  have hw := ho.1
  rw [cM_chain, eM_chain_0]
  unfold w_chain
  rcases tw_cs _ ho.1.1 x with ⟨h1, h2⟩ | ⟨t, ht, rfl, h3⟩
  · rw [h1, M_isTown_f (d + 6) h0.2.1.2.2.2 ho.1.1 h2, bi_some, if_pos rfl]; exact ⟨_, rfl, h0, m131⟩
  · rw [h3, M_isTown_t (d + 6) h0.2.1.2.2.2 ho.1.1 (isT_n ho.1.1 ht), bi_some, if_neg q_110]
    dsimp only
    by_cases e : 0 ≤ y ∧ y < 5
    · have hd := f_d_lt hw ht
      have e' : (0 : Int32) ≤ y ∧ y ≤ 4 := ⟨e.1, by
        have := (q_lt _ _).mp e.2
        rw [q_le]
        rw [show (5 : Int32).toInt = 5 from rfl] at this
        rw [show (4 : Int32).toInt = 4 from rfl]
        omega⟩
      rw [M_isIn_t (d + 7) _ e', bi_some, if_neg q_110, if_pos e]
      obtain ⟨k', a1, a2, a3⟩ := M_hd_loop (d + 5) h0.2.1 hw (nI t) y 24 t 0 99999 ht hd (by omega)
      have hh := f_hd_lt hw 24 t ht
      obtain ⟨B, b1, b2⟩ := M_tl_loop (d + 5) h0.2.1 hw (nI t) y (nI (f_h (aF σ) t)) (nI (0 + (f_d (fP (aF σ)) t - f_d (fP (aF σ)) (f_h (aF σ) t)))) 24 (f_h (aF σ) t) 1 0 k' hh (by omega) (by omega)
      refine ⟨_, Eq.trans a3 (Eq.trans b2 ?_), h0, m131⟩
      have et : f_tl (fQ (aF σ)) 24 (f_h (aF σ) t) = f_t (aF σ) t := f_hd_tl hw 24 t ht
      rw [et] at b1 ⊢
      have htl := f_tl_lt hw 24 t ht
      have hdT : f_d (fP (aF σ)) (f_t (aF σ) t) = B.length + f_d (fP (aF σ)) (f_h (aF σ) t) := by
        unfold f_d
        rw [b1, List.length_append]
        have := f_a_pos (fP (aF σ)) (f_h (aF σ) t)
        omega
      have hmd : f_md (fP (aF σ)) (f_h (aF σ) t) (f_t (aF σ) t) (f_h (aF σ) t) [] B := by
        refine ⟨rfl, b1, fun z hz => (by cases hz), fun z hz hz2 => ?_⟩
        have hnd := f_a_nd hw.2.1 htl
        rw [b1] at hnd
        exact (List.nodup_append.mp hnd).2.2 z hz z hz2 rfl
      have hD := f_D_md hw hh htl hmd
      rw [hdT, pk_sub (by omega), pk_sub (by omega), hD, nI_1, Nat.zero_add, Nat.zero_add, show B.length + f_d (fP (aF σ)) (f_h (aF σ) t) - f_d (fP (aF σ)) (f_h (aF σ) t) + 1 = 1 + B.length by omega]
      simp only [List.map_nil, List.sum_nil, Nat.zero_add]
    · rw [M_isIn_f (d + 7) _ (fun q => e ⟨q.1, by
        have := (q_le _ _).mp q.2
        rw [q_lt]
        rw [show (4 : Int32).toInt = 4 from rfl] at this
        rw [show (5 : Int32).toInt = 5 from rfl]
        omega⟩), bi_some, if_pos rfl, if_neg e]; exact ⟨_, rfl, h0, m131⟩
theorem M_wi_in (d : Nat) (h : rMa g 0 F) (hw : f_wf F) {T x : Nat} (hT : T < fN F) (hx : x < fN F) (x2 : Int32) : ∀ (m y k : Nat) (s : Nat × Nat × Nat), y + m = fN F → m < k → s.1 ≤ 239976 →
    (fo (f_wst F T x) s y m).1 ≤ 239976 ∧ am_run (am_call (d + 5)) 223 k 30 [some (.inr (.inr (29, 0))), some (.inl (nI T)), some (.inl x2), some (.inl (nI s.1)), some (.inl (nI s.2.1)), some (.inl (nI s.2.2)), some (.inl (nI x)), some (.inl (nI y))] [] g =
      am_run (am_call (d + 5)) 223 (k - m - 1) 22 [some (.inr (.inr (29, 0))), some (.inl (nI T)), some (.inl x2), some (.inl (nI (fo (f_wst F T x) s y m).1)), some (.inl (nI (fo (f_wst F T x) s y m).2.1)), some (.inl (nI (fo (f_wst F T x) s y m).2.2)), some (.inl (nI (x + 1))), some (.inl (nI (fN F)))] [] g
  | 0, y, k, s, hy, hk, hs => by
    obtain ⟨k, rfl⟩ : ∃ k', k = k' + 1 := ⟨k - 1, by omega⟩
    have hn := hw.1
    have e : y = fN F := by omega
    subst e
    rw [eM_widest_30, h.2.2.2, if_pos (nI_le (Nat.le_refl _) (by omega)), nI_1]
    exact ⟨hs, rfl⟩
  | m + 1, y, k, s, hy, hk, hs => by
    obtain ⟨k, rfl⟩ : ∃ k', k = k' + 1 := ⟨k - 1, by omega⟩
    have hn := hw.1
    have hyn : y < fN F := by omega
    have hD := f_D_le hw hx hyn
    rw [eM_widest_30, h.2.2.2, if_neg (nI_ge hyn (by omega)), M_areTogether (d + 1) h hw hx hT, bi_some, nI_1 (a := y), fo, show k + 1 - (m + 1) - 1 = k - m - 1 by omega]
    by_cases e1 : f_r (fP F) x = f_r (fP F) T
    · rw [if_pos e1, if_neg q_110, M_areTogether (d + 1) h hw hyn hT, bi_some]
      by_cases e2 : f_r (fP F) y = f_r (fP F) T
      · rw [if_pos e2, if_neg q_110, M_farOf d h hw hx hyn (by rw [e1, e2]), bi_some, M_farOf d h hw hx hyn (by rw [e1, e2]), bi_some]
        by_cases e3 : s.1 < f_D F x y
        · rw [if_pos (nI_lt e3 (by omega)), show f_wst F T x s y = (f_D F x y, x, y) from if_pos ⟨e1, e2, e3⟩]
          exact M_wi_in d h hw hT hx x2 m (y + 1) k (f_D F x y, x, y) (by omega) (by omega) hD
        · rw [if_neg (nI_nlt (by omega) (by omega)), show f_wst F T x s y = s from if_neg (fun q => e3 q.2.2)]
          exact M_wi_in d h hw hT hx x2 m (y + 1) k s (by omega) (by omega) hs
      · rw [if_neg e2, if_pos rfl, show f_wst F T x s y = s from if_neg (fun q => e2 q.2.1)]
        exact M_wi_in d h hw hT hx x2 m (y + 1) k s (by omega) (by omega) hs
    · rw [if_neg e1, if_pos rfl, show f_wst F T x s y = s from if_neg (fun q => e1 q.1)]
      exact M_wi_in d h hw hT hx x2 m (y + 1) k s (by omega) (by omega) hs
theorem M_wi_out (d : Nat) (h : rMa g 0 F) (hw : f_wf F) {T : Nat} (hT : T < fN F) (x2 : Int32) : ∀ (m x k : Nat) (s : Nat × Nat × Nat) (o : Option am_V), x + m = fN F → 26 * m < k → s.1 ≤ 239976 →
    am_run (am_call (d + 5)) 223 k 22 [some (.inr (.inr (29, 0))), some (.inl (nI T)), some (.inl x2), some (.inl (nI s.1)), some (.inl (nI s.2.1)), some (.inl (nI s.2.2)), some (.inl (nI x)), o] [] g = some (some (.inl (w_3 (fo (fun s x => fo (f_wst F T x) s (x + 1) (fN F - (x + 1))) s x m) x2)), g)
  | 0, x, k, s, o, hx, hk, hs => by
    obtain ⟨k, rfl⟩ : ∃ k', k = k' + 1 := ⟨k - 1, by omega⟩
    have hn := hw.1
    have e : x = fN F := by omega
    subst e
    rw [eM_widest_22, h.2.2.2, if_pos (nI_le (Nat.le_refl _) (by omega)), fo]
    unfold w_3
    repeat' split
    all_goals rfl
  | m + 1, x, k, s, o, hx, hk, hs => by
    obtain ⟨k, rfl⟩ : ∃ k', k = k' + 1 := ⟨k - 1, by omega⟩
    have hn := hw.1
    have hxn : x < fN F := by omega
    obtain ⟨a1, a2⟩ := M_wi_in d h hw hT hxn x2 (fN F - (x + 1)) (x + 1) k s (by omega) (by omega) hs
    rw [eM_widest_22, h.2.2.2, if_neg (nI_ge hxn (by omega)), nI_1, a2, fo]
    exact M_wi_out d h hw hT x2 m (x + 1) (k - (fN F - (x + 1)) - 1) _ _ (by omega) (by omega) a1
theorem q_02 {y : Int32} : (0 ≤ y ∧ y < 3) ↔ (0 ≤ y ∧ y ≤ 2) := by
  rw [q_lt, q_le y, show (3 : Int32).toInt = 3 from rfl, show (2 : Int32).toInt = 2 from rfl]
  constructor
  · rintro ⟨h1, h2⟩; exact ⟨h1, by omega⟩
  · rintro ⟨h1, h2⟩; exact ⟨h1, by omega⟩
theorem P_widest (d : Nat) (h : rMo g σ) (ho : a_ok σ) (x y : Int32) : SimM (am_call (d + 9) 223 [.inr (.inr (29, 0)), .inl x, .inl y] g) g (w_widest (aF σ) x y, σ) := by
  have h0 := h.put131 0
  rw [cM_widest, eM_widest_0]
  unfold w_widest
  rcases tw_cs _ ho.1.1 x with ⟨h1, h2⟩ | ⟨t, ht, rfl, h3⟩
  · rw [h1, M_isTown_f (d + 6) h0.2.1.2.2.2 ho.1.1 h2, bi_some, if_pos rfl]; exact ⟨_, rfl, h0, m131⟩
  · have hn := ho.1.1
    rw [h3, M_isTown_t (d + 6) h0.2.1.2.2.2 ho.1.1 (isT_n ho.1.1 ht), bi_some, if_neg q_110]
    dsimp only
    by_cases e : 0 ≤ y ∧ y < 3
    · rw [M_isIn_t (d + 7) _ (q_02.mp e), bi_some, if_neg q_110, if_pos e]
      exact ⟨_, M_wi_out (d + 3) h0.2.1 ho.1 ht y (fN (aF σ)) 0 99999 (0, t, t) none (by omega) (by omega) (Nat.zero_le _), h0, m131⟩
    · rw [M_isIn_f (d + 7) _ (fun q => e (q_02.mpr q)), bi_some, if_pos rfl, if_neg e]; exact ⟨_, rfl, h0, m131⟩
def e3 (s : Option (Nat × Nat × Nat)) : Int32 × Int32 × Int32 := match s with
  | none => (-1, -1, -1)
  | some p => (nI p.1, nI p.2.1, nI p.2.2)
theorem M_jo_in (d : Nat) (h : rMa g 0 F) (hw : f_wf F) {a b x : Nat} (ha : a < fN F) (hb : b < fN F) (hx : x < fN F) (x3 : Int32) : ∀ (m y k : Nat) (s : Option (Nat × Nat × Nat)) (o : Option am_V), y + m = fN F → m < k → (∀ p, s = some p → p.1 ≤ 999999) →
    (∀ p, fo (f_jst F a b x) s y m = some p → p.1 ≤ 999999) ∧ ∃ o', am_run (am_call (d + 7)) 216 k 51 [some (.inr (.inr (29, 0))), some (.inl (nI a)), some (.inl (nI b)), some (.inl x3), some (.inl (nI (max (f_wd F a) (f_wd F b)))), some (.inl (e3 s).1), some (.inl (e3 s).2.1), some (.inl (e3 s).2.2), some (.inl (nI x)), some (.inl (nI y)), o] [] g =
      am_run (am_call (d + 7)) 216 (k - m - 1) 45 [some (.inr (.inr (29, 0))), some (.inl (nI a)), some (.inl (nI b)), some (.inl x3), some (.inl (nI (max (f_wd F a) (f_wd F b)))), some (.inl (e3 (fo (f_jst F a b x) s y m)).1), some (.inl (e3 (fo (f_jst F a b x) s y m)).2.1), some (.inl (e3 (fo (f_jst F a b x) s y m)).2.2), some (.inl (nI (x + 1))), some (.inl (nI (fN F))), o'] [] g
  | 0, y, k, s, o, hy, hk, hs => by
    obtain ⟨k, rfl⟩ : ∃ k', k = k' + 1 := ⟨k - 1, by omega⟩
    have hn := hw.1
    have e : y = fN F := by omega
    subst e
    rw [eM_joint_51, h.2.2.2, if_pos (nI_le (Nat.le_refl _) (by omega)), nI_1]
    exact ⟨hs, o, rfl⟩
  | m + 1, y, k, s, o, hy, hk, hs => by
    obtain ⟨k, rfl⟩ : ∃ k', k = k' + 1 := ⟨k - 1, by omega⟩
    have hn := hw.1
    have hyn : y < fN F := by omega
    have b1 := f_fa_le hw hx
    have b2 := f_fa_le hw hyn
    have b3 := f_wd_le hw (t := a)
    have b4 := f_wd_le hw (t := b)
    have b5 : f_jw F a b x y ≤ 999999 := by unfold f_jw; omega
    have hgo : ∀ (s1 : Option (Nat × Nat × Nat)) (o1 : Option am_V), (∀ p, s1 = some p → p.1 ≤ 999999) → f_jst F a b x s y = s1 → (∀ p, fo (f_jst F a b x) (f_jst F a b x s y) (y + 1) m = some p → p.1 ≤ 999999) ∧ ∃ o', am_run (am_call (d + 7)) 216 k 51 [some (.inr (.inr (29, 0))), some (.inl (nI a)), some (.inl (nI b)), some (.inl x3), some (.inl (nI (max (f_wd F a) (f_wd F b)))), some (.inl (e3 s1).1), some (.inl (e3 s1).2.1), some (.inl (e3 s1).2.2), some (.inl (nI x)), some (.inl (nI (y + 1))), o1] [] g =
      am_run (am_call (d + 7)) 216 (k - m - 1) 45 [some (.inr (.inr (29, 0))), some (.inl (nI a)), some (.inl (nI b)), some (.inl x3), some (.inl (nI (max (f_wd F a) (f_wd F b)))), some (.inl (e3 (fo (f_jst F a b x) (f_jst F a b x s y) (y + 1) m)).1), some (.inl (e3 (fo (f_jst F a b x) (f_jst F a b x s y) (y + 1) m)).2.1), some (.inl (e3 (fo (f_jst F a b x) (f_jst F a b x s y) (y + 1) m)).2.2), some (.inl (nI (x + 1))), some (.inl (nI (fN F))), o'] [] g := by
      intro s1 o1 h1 q
      rw [q]
      exact M_jo_in d h hw ha hb hx x3 m (y + 1) k s1 o1 (by omega) (by omega) h1
    have hup : ∀ p, some (f_jw F a b x y, x, y) = some p → p.1 ≤ 999999 := fun p hp => by cases hp; exact b5
    rw [eM_joint_51, h.2.2.2, if_neg (nI_ge hyn (by omega)), M_areTogether (d + 3) h hw hx ha, bi_some, nI_1 (a := y), fo, show k + 1 - (m + 1) - 1 = k - m - 1 by omega]
    by_cases e1 : f_r (fP F) x = f_r (fP F) a
    · rw [if_pos e1, if_neg q_110, M_areTogether (d + 3) h hw hyn hb, bi_some]
      by_cases e2 : f_r (fP F) y = f_r (fP F) b
      · rw [if_pos e2, if_neg q_110, M_farthest (d + 1) h hw hx, bi_some, M_farthest (d + 1) h hw hyn, bi_some, nI_1 (a := f_fa F x), nI_add]
        by_cases e3' : f_fa F x + 1 + f_fa F y ≤ max (f_wd F a) (f_wd F b)
        · have ej : f_jw F a b x y = max (f_wd F a) (f_wd F b) := by unfold f_jw; omega
          rw [if_pos (nI_le e3' (by omega))]
          cases s with
          | none =>
            rw [if_pos (show (e3 none).1 < 0 by decide), ← ej]
            have := hgo (some (f_jw F a b x y, x, y)) (some (.inl (nI (f_jw F a b x y)))) hup (if_pos ⟨e1, e2, fun p hp => by cases hp⟩)
            rw [← ej] at this
            exact this
          | some p =>
            have hp1 := hs p rfl
            rw [if_neg (show ¬ (e3 (some p)).1 < 0 from q_nn (by omega))]
            by_cases e4 : f_jw F a b x y < p.1
            · have := hgo (some (f_jw F a b x y, x, y)) (some (.inl (nI (f_jw F a b x y)))) hup (if_pos ⟨e1, e2, fun p' hp' => by cases hp'; exact e4⟩)
              rw [← ej] at this ⊢
              rw [if_pos (show nI (f_jw F a b x y) < (e3 (some p)).1 from nI_lt e4 (by omega))]
              exact this
            · have := hgo (some p) (some (.inl (nI (f_jw F a b x y)))) hs (if_neg (fun q => e4 (q.2.2 p rfl)))
              rw [← ej] at this ⊢
              rw [if_neg (show ¬ nI (f_jw F a b x y) < (e3 (some p)).1 from nI_nlt (by omega) (by omega))]
              exact this
        · have ej : f_jw F a b x y = f_fa F x + 1 + f_fa F y := by unfold f_jw; omega
          rw [if_neg (nI_ge (by omega) (by omega)), ← ej]
          cases s with
          | none =>
            rw [if_pos (show (e3 none).1 < 0 by decide)]
            exact hgo (some (f_jw F a b x y, x, y)) _ hup (if_pos ⟨e1, e2, fun p hp => by cases hp⟩)
          | some p =>
            have hp1 := hs p rfl
            rw [if_neg (show ¬ (e3 (some p)).1 < 0 from q_nn (by omega))]
            by_cases e4 : f_jw F a b x y < p.1
            · rw [if_pos (show nI (f_jw F a b x y) < (e3 (some p)).1 from nI_lt e4 (by omega))]
              exact hgo (some (f_jw F a b x y, x, y)) _ hup (if_pos ⟨e1, e2, fun p' hp' => by cases hp'; exact e4⟩)
            · rw [if_neg (show ¬ nI (f_jw F a b x y) < (e3 (some p)).1 from nI_nlt (by omega) (by omega))]
              exact hgo (some p) _ hs (if_neg (fun q => e4 (q.2.2 p rfl)))
      · rw [if_neg e2, if_pos rfl]
        exact hgo s _ hs (if_neg (fun q => e2 q.2.1))
    · rw [if_neg e1, if_pos rfl]
      exact hgo s _ hs (if_neg (fun q => e1 q.1))
def w_3o (s : Option (Nat × Nat × Nat)) (k : Int32) : Int32 := match s with
  | none => -1
  | some p => w_3 p k
theorem M_jo_out (d : Nat) (h : rMa g 0 F) (hw : f_wf F) {a b : Nat} (ha : a < fN F) (hb : b < fN F) (x3 : Int32) : ∀ (m x k : Nat) (s : Option (Nat × Nat × Nat)) (o o2 : Option am_V), x + m = fN F → 26 * m < k → (∀ p, s = some p → p.1 ≤ 999999) →
    am_run (am_call (d + 7)) 216 k 45 [some (.inr (.inr (29, 0))), some (.inl (nI a)), some (.inl (nI b)), some (.inl x3), some (.inl (nI (max (f_wd F a) (f_wd F b)))), some (.inl (e3 s).1), some (.inl (e3 s).2.1), some (.inl (e3 s).2.2), some (.inl (nI x)), o, o2] [] g = some (some (.inl (w_3o (fo (fun s x => fo (f_jst F a b x) s 0 (fN F)) s x m) x3)), g)
  | 0, x, k, s, o, o2, hx, hk, hs => by
    obtain ⟨k, rfl⟩ : ∃ k', k = k' + 1 := ⟨k - 1, by omega⟩
    have hn := hw.1
    have e : x = fN F := by omega
    subst e
    rw [eM_joint_45, h.2.2.2, if_pos (nI_le (Nat.le_refl _) (by omega)), fo]
    cases s with
    | none =>
      split
      · rfl
      · split <;> rfl
    | some p =>
      show _ = some (some (Sum.inl (w_3 p x3)), g)
      unfold w_3
      repeat' split
      all_goals rfl
  | m + 1, x, k, s, o, o2, hx, hk, hs => by
    obtain ⟨k, rfl⟩ : ∃ k', k = k' + 1 := ⟨k - 1, by omega⟩
    have hn := hw.1
    have hxn : x < fN F := by omega
    obtain ⟨a1, o', a2⟩ := M_jo_in d h hw ha hb hxn x3 (fN F) 0 k s o2 (by omega) (by omega) hs
    rw [eM_joint_45, h.2.2.2, if_neg (nI_ge hxn (by omega)), fo]
    refine Eq.trans a2 ?_
    exact M_jo_out d h hw ha hb x3 m (x + 1) (k - fN F - 1) _ _ _ (by omega) (by omega) a1
theorem P_joint (d : Nat) (h : rMo g σ) (ho : a_ok σ) (x y z : Int32) : SimM (am_call (d + 9) 216 [.inr (.inr (29, 0)), .inl x, .inl y, .inl z] g) g (w_joint (aF σ) x y z, σ) := by
  have h0 := h.put131 0
  rw [cM_joint, eM_joint_0]
  unfold w_joint
  rcases tw2_cs _ ho.1.1 x y with ⟨h1, h2⟩ | ⟨a, b, ha, hb, rfl, rfl, h3⟩
  · rw [h1, M_areTowns_f (d + 5) h0.2.1.2.2.2 ho.1.1 h2, bi_some, if_pos rfl]; exact ⟨_, rfl, h0, m131⟩
  · have hn := ho.1.1
    rw [h3, M_areTowns_t (d + 5) h0.2.1.2.2.2 ho.1.1 (isT_n ho.1.1 ha) (isT_n ho.1.1 hb), bi_some, if_neg q_110]
    dsimp only
    by_cases e : 0 ≤ z ∧ z < 3
    · rw [M_isIn_t (d + 7) _ (q_02.mp e), bi_some, if_neg q_110, if_pos e, M_areTogether (d + 4) h0.2.1 ho.1 ha hb, bi_some]
      by_cases er : f_r (fP (aF σ)) a = f_r (fP (aF σ)) b
      · rw [if_pos er, if_neg q_110, if_pos er]; exact ⟨_, rfl, h0, m131⟩
      · have w1 := f_wd_le ho.1 (t := a)
        have w2 := f_wd_le ho.1 (t := b)
        have := M_jo_out (d + 1) h0.2.1 ho.1 ha hb z (fN (aF σ)) 0 99999 none none none (by omega) (by omega) (fun p hp => by cases hp)
        rw [if_neg er, if_pos rfl, M_widestOf (d + 1) h0.2.1 ho.1 ha, bi_some, M_widestOf (d + 1) h0.2.1 ho.1 hb, bi_some, M_widestOf (d + 1) h0.2.1 ho.1 hb, bi_some, M_widestOf (d + 1) h0.2.1 ho.1 ha, bi_some, if_neg er]
        show SimM _ g (w_3o (f_jo (aF σ) a b) z, σ)
        by_cases em : f_wd (aF σ) a ≤ f_wd (aF σ) b
        · rw [if_pos (nI_le em (by omega))]
          rw [Nat.max_eq_right em] at this
          exact ⟨_, this, h0, m131⟩
        · rw [if_neg (nI_ge (by omega) (by omega))]
          rw [Nat.max_eq_left (by omega)] at this
          exact ⟨_, this, h0, m131⟩
    · rw [M_isIn_f (d + 7) _ (fun q => e (q_02.mpr q)), bi_some, if_pos rfl, if_neg e]; exact ⟨_, rfl, h0, m131⟩
end MM
