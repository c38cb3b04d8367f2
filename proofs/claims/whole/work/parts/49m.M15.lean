/-! ===== the model: chance, feed ===== -/
section MM
variable {g : am_G} {σ : aS} {F : fF}
/-- what the state does not speak of -/
def mX (c : Nat) : Prop := c = 32 ∨ c = 34 ∨ c = 131 ∨ (134 ≤ c ∧ c ≤ 138) ∨ (144 ≤ c ∧ c ≤ 147) ∨ c = 149
theorem rMo.cg {g' : am_G} (h : rMo g σ) (ho : a_ok σ) (z : ∀ c, ¬ mX c → c ≠ 139 → g' c 0 = g c 0) (z0 : g' 139 0 0 = nI 0) (zk : ∀ k, ¬ (121 ≤ k ∧ k < 242) → ¬ (363 ≤ k ∧ k < 484) → g' 32 0 k = g 32 0 k) : rMo g' σ := by
  obtain ⟨⟨a1, a2⟩, ⟨b1, b2, b3, b4⟩, ⟨c1, c2⟩, ⟨d1, d2⟩, ⟨e1, e2⟩, ⟨f1, f2⟩, ⟨h1, h2⟩, i1⟩ := h
  have hk : ∀ (b : Nat) (F : fF), b ≠ 1 → b ≠ 3 → fN F ≤ 24 → rMk g b F → rMk g' b F := fun b F x1 x3 hn q => q.cg hn fun k y1 y2 => zk k (by omega) (by omega)
  exact ⟨⟨by rw [z _ (by unfold mX; omega) (by omega)]; exact a1, fun k x hk => by rw [z _ (by unfold mX; omega) (by omega)]; exact a2 k x hk⟩, ⟨hk 0 _ (by omega) (by omega) ho.1.1 b1, z0, by omega, by rw [z _ (by unfold mX; omega) (by omega)]; exact b4⟩, ⟨fun k x hk => by rw [z _ (by unfold mX; omega) (by omega)]; exact c1 k x hk, by rw [z _ (by unfold mX; omega) (by omega)]; exact c2⟩, ⟨by rw [z _ (by unfold mX; omega) (by omega)]; exact d1, fun j G hj => hk _ _ (by omega) (by omega) (ho.uok j G hj) (d2 j G hj)⟩, ⟨by rw [z _ (by unfold mX; omega) (by omega)]; exact e1, fun G hG => hk _ _ (by omega) (by omega) (ho.2.2.2.1 G hG).1.1 (e2 G hG)⟩, ⟨by rw [z _ (by unfold mX; omega) (by omega)]; exact f1, fun l hl k x hx => by rw [z _ (by unfold mX; omega) (by omega)]; exact f2 l hl k x hx⟩, ⟨by rw [z _ (by unfold mX; omega) (by omega)]; exact h1, by rw [z _ (by unfold mX; omega) (by omega)]; exact h2⟩, fun k x hk => by rw [z _ (by unfold mX; omega) (by omega)]; exact i1 k x hk⟩
theorem mD.M {b : Nat} {g' : am_G} (h : mD b g g') : m_fr sMd g g' := fun c j hn => h.1 c j (fun q => hn (by unfold sMd; omega)) (fun q => hn (by unfold sMd; omega))
theorem M_ch_loop (d : Nat) {N : Nat} (hN : N ≤ 60) (x1 x3 S : Int32) : ∀ (m k fuel l : Nat) (g : am_G) (F : fF), k + m = N → m < fuel → rMa g 1 F → f_wf F → 0 < fN F → g 149 0 0 = nI l → l < 2 ^ 31 → g 32 0 120 = S →
    ∃ g', am_run (am_call (d + 8)) 236 fuel 40 [some (.inr (.inr (29, 0))), some (.inl x1), some (.inl (nI N)), some (.inl x3), some (.inl (nI k))] [] g = some (some (.inl (if x3 = 0 then nI (f_tr (f_ch_n F l m).1) else if x3 = 1 then fS (f_ch_n F l m).1 - S else if x3 = 2 then nI (f_po (f_ch_n F l m).1) else nI (f_r (fP (f_ch_n F l m).1) 0))), am_put g' 139 0 (0 : Int32)) ∧ mD 1 g g'
  | 0, k, fuel, l, g, F, hk, hf, hc, hw, h0, hl, hl1, hS => by
    obtain ⟨fuel, rfl⟩ : ∃ k', fuel = k' + 1 := ⟨fuel - 1, by omega⟩
    have e : k = N := by omega
    subst e
    refine ⟨g, ?_, mD.rf⟩
    rw [eM_chance_40, if_pos (nI_le (Nat.le_refl _) (by omega)), f_ch_n]
    by_cases y0 : x3 = 0
    · subst y0
      rw [if_pos rfl, if_pos rfl, M_trees (d + 4) hc hw, bi_some, if_neg (by decide)]
    · rw [if_neg y0, if_neg y0]
      by_cases y1 : x3 = 1
      · rw [if_pos y1, if_pos y1, k_120, M_of (d + 7) hc.2.1 (by omega) (by omega), bi_some, if_pos y1, M_of (d + 7) (g := am_put g 139 0 (0 : Int32)) (b := 0) (k := 120) (m_put _ _ _ _ _) (by omega) (by omega), bi_some, hc.1.1, m_put_ne (by simp), show 121 * 0 + 120 = 120 from rfl, hS]
      · rw [if_neg y1, if_neg y1]
        by_cases y2 : x3 = 2
        · rw [if_pos y2, if_pos y2, M_potentialNow (d + 2) hc hw, bi_some, if_neg y1]
        · have hr := M_rootOf (d + 5) hc hw h0
          rw [← q_n0] at hr
          rw [if_neg y2, if_neg y2, hr, bi_some, if_neg y1]
  | m + 1, k, fuel, l, g, F, hk, hf, hc, hw, h0, hl, hl1, hS => by
    obtain ⟨fuel, rfl⟩ : ∃ k', fuel = k' + 1 := ⟨fuel - 1, by omega⟩
    obtain ⟨g1, i1, i2, i3, i4, i5⟩ := M_byChance d hc hw h0 hl hl1
    obtain ⟨w1, w2⟩ := wf_chance hw h0 l
    rw [eM_chance_40, if_neg (nI_ge (by omega) (by omega)), i1, bv_some, nI_1, ch_s]
    generalize f_chance F l = X at *
    obtain ⟨g2, j1, j2⟩ := M_ch_loop d hN x1 x3 S m (k + 1) fuel X.2 g1 X.1 (by omega) (by omega) i2 w1 (by rw [w2]; exact h0) i3 i4 (by rw [i5.2 120 (by omega)]; exact hS)
    exact ⟨g2, j1, i5.tr j2⟩
theorem ch_what (F : fF) (l m : Nat) (x3 : Int32) : (if x3 = 0 then nI (f_tr (f_ch_n F l m).1) else if x3 = 1 then fS (f_ch_n F l m).1 - fS F else if x3 = 2 then nI (f_po (f_ch_n F l m).1) else nI (f_r (fP (f_ch_n F l m).1) 0)) = (if x3 = 0 then nI (f_tr (f_ch_n (f_sS F 0) l m).1) else if x3 = 1 then fS (f_ch_n (f_sS F 0) l m).1 else if x3 = 2 then nI (f_po (f_ch_n (f_sS F 0) l m).1) else nI (f_r (fP (f_ch_n (f_sS F 0) l m).1) 0)) := by
  have e := sh_n (fS F) m (f_sS F 0) l
  rw [sh_F] at e
  rw [e]
  generalize f_ch_n (f_sS F 0) l m = X
  have e1 : f_tr (f_sh X.1 (fS F)) = f_tr X.1 := rfl
  have e2 : f_po (f_sh X.1 (fS F)) = f_po X.1 := rfl
  have e3 : fP (f_sh X.1 (fS F)) = fP X.1 := rfl
  have e4 : fS (f_sh X.1 (fS F)) - fS F = fS X.1 := by
    show fS X.1 + fS F - fS F = fS X.1
    rw [Int32.add_sub_cancel]
  show (if x3 = 0 then nI (f_tr (f_sh X.1 (fS F))) else if x3 = 1 then fS (f_sh X.1 (fS F)) - fS F else if x3 = 2 then nI (f_po (f_sh X.1 (fS F))) else nI (f_r (fP (f_sh X.1 (fS F))) 0)) = _
  rw [e1, e2, e3, e4]
theorem P_chance (d : Nat) (h : rMo g σ) (ho : a_ok σ) (x n k : Int32) : SimM (am_call (d + 9) 236 [.inr (.inr (29, 0)), .inl x, .inl n, .inl k] g) g (w_chance σ x n k, σ) := by
  have hn := ho.1.1
  have h0 := h.put131 0
  rw [cM_chance, eM_chance_0]
  unfold w_chance
  by_cases e0 : x < -1
  · rw [if_pos e0, if_neg (fun q => by have := (q_lt _ _).mp e0; have := (q_le _ _).mp q.1; omega)]; exact ⟨_, rfl, h0, m131⟩
  · have e0' : -1 ≤ x := by rw [q_le]; rw [q_lt] at e0; omega
    rw [if_neg e0]
    by_cases e1 : 1 ≤ n ∧ n ≤ 60
    · rw [M_isIn_t (d + 7) _ e1, bi_some, if_neg q_110]
      by_cases e2 : 0 ≤ k ∧ k ≤ 3
      · have e3 : 0 ≤ k ∧ k < 4 := ⟨e2.1, by
          have := (q_le _ _).mp e2.2
          rw [q_lt]
          exact Int.lt_of_le_of_lt this (by decide)⟩
        rw [M_isIn_t (d + 7) _ e2, bi_some, if_neg q_110, h0.2.1.2.2.2, h0.2.2.1.2]
        by_cases e4 : 0 < fN (aF σ)
        · have hcond : -1 ≤ x ∧ (1 ≤ n ∧ n ≤ 60) ∧ (0 ≤ k ∧ k < 4) ∧ 0 < fN (aF σ) := ⟨e0', e1, e3, e4⟩
          have hq := q_clamp (lo := 1) (hi := 60) (by omega) (by omega) e1
          rw [if_neg (by rw [nI_len0 (by omega)]; omega), if_pos hcond, Int32.toInt32_toInt64, Int32.toInt32_toInt64, if_pos rfl, if_pos rfl]
          have fin : ∀ (y : Int32) (l : Nat), y = nI l → l < 2 ^ 31 → ∃ g', am_bv (am_call (d + 8) 143 [.inr (.inr (29, 0)), .inl (0 : Int32), .inl (1 : Int32)] (am_put (am_put g 131 0 (0 : Int32)) 149 0 y)) (fun g3 => am_run (am_call (d + 8)) 236 99999 40 [some (.inr (.inr (29, 0))), some (.inl x), some (.inl n), some (.inl k), some (.inl (0 : Int32))] [] (am_put g3 139 0 (1 : Int32))) = some (some (.inl (if k = 0 then nI (f_tr (f_ch_n (f_sS (aF σ) 0) l n.toNatClampNeg).1) else if k = 1 then fS (f_ch_n (f_sS (aF σ) 0) l n.toNatClampNeg).1 else if k = 2 then nI (f_po (f_ch_n (f_sS (aF σ) 0) l n.toNatClampNeg).1) else nI (f_r (fP (f_ch_n (f_sS (aF σ) 0) l n.toNatClampNeg).1) 0))), g') ∧ rMo g' σ ∧ m_fr sMd g g' := by
            intro y l hy hl
            have hG : ∀ c j, ¬ (c = 149 ∧ j = 0) → am_put (am_put g 131 0 (0 : Int32)) 149 0 y c j = am_put g 131 0 (0 : Int32) c j := fun c j q => m_put_ne q
            have h1 : rMo (am_put (am_put g 131 0 (0 : Int32)) 149 0 y) σ := h0.cg ho (fun c q _ => hG c 0 (fun q' => q (by unfold mX; omega))) (by rw [hG _ _ (by simp)]; exact h0.2.1.2.1) (fun k _ _ => by rw [hG _ _ (by simp)])
            obtain ⟨g1, i1, i2, i3⟩ := M_copyBank (d + 7) (f := 0) (t := 1) (by omega) (by omega) (by omega) (am_put (am_put g 131 0 (0 : Int32)) 149 0 y)
            have i1' : am_call (d + 8) 143 [.inr (.inr (29, 0)), .inl (0 : Int32), .inl (1 : Int32)] (am_put (am_put g 131 0 (0 : Int32)) 149 0 y) = some (none, g1) := i1
            have hp : ∀ {g : am_G} {b : Nat} {F : fF} (x : Int32), rMk g b F → rMk (am_put g 139 0 x) b F := fun x q => ⟨by rw [m_put_ne (by simp)]; exact q.1, fun t ht => by rw [m_put_ne (by simp)]; exact q.2 t ht⟩
            have hr : rMa (am_put g1 139 0 (1 : Int32)) 1 (aF σ) := ⟨hp _ (h1.2.1.1.copy hn i2), m_put _ _ _ _ _, by omega, by rw [m_put_ne (by simp), i3.1 142 0 (by simp)]; exact h1.2.1.2.2.2⟩
            have h149 : am_put g1 139 0 (1 : Int32) 149 0 0 = nI l := by rw [m_put_ne (by simp), i3.1 149 0 (by simp), m_put, hy]
            have h120 : am_put g1 139 0 (1 : Int32) 32 0 120 = fS (aF σ) := by rw [m_put_ne (by simp), i3.2 120 (by omega)]; exact h1.2.1.1.1
            obtain ⟨g2, j1, j2⟩ := M_ch_loop d hq.2.2 x k (fS (aF σ)) n.toNatClampNeg 0 99999 l (am_put g1 139 0 (1 : Int32)) (aF σ) (by omega) (by omega) hr ho.1 e4 h149 hl h120
            rw [← hq.1, ch_what] at j1
            rw [i1', bv_some]
            refine ⟨_, j1, h1.cg ho (fun c q q' => ?_) (m_put _ _ _ _ _) (fun k q q' => ?_), ?_⟩
            · rw [m_put_ne (fun r => q' r.1), j2.1 c 0 (fun r => q (by unfold mX; omega)) (fun r => q (by unfold mX; omega)), m_put_ne (fun r => q' r.1), i3.1 c 0 (fun r => q (by unfold mX; omega))]
            · rw [m_put_ne (by simp), j2.2 k (by omega), m_put_ne (by simp), i3.2 k (by omega)]
            · exact (((m131.tr (m_fr.put m_fr.rf (by unfold sMd; omega))).tr i3.M).tr (m_p139 _)).tr (j2.M.tr (m_p139 _))
          by_cases e5 : x = -1
          · obtain ⟨s, hs1, hs2⟩ := ho.2.2.2.2.1
            have hs3 : (aE σ).toNatClampNeg = s := by rw [hs2, nI_clamp (by omega)]
            obtain ⟨g2, j1, j2⟩ := fin (aE σ) s hs2 (by omega)
            rw [if_neg (show ¬ 0 ≤ x by rw [e5]; decide), j1, if_pos e5, hs3]
            exact ⟨g2, rfl, j2⟩
          · have e0'' : ¬ x < 0 := fun q => e5 (by
              rw [q_eq, q_m1]
              have h1 := (q_lt _ _).mp q
              have h2 := (q_le _ _).mp e0'
              rw [q_m1] at h2
              rw [Int32.toInt_zero] at h1
              omega)
            obtain ⟨l, hl1, hl2⟩ := nI_of e0''
            have hl3 : x.toNatClampNeg = l := by rw [hl2, nI_clamp hl1]
            obtain ⟨g2, j1, j2⟩ := fin x l hl2 hl1
            rw [if_pos (q_p0' e0''), j1, if_neg e5, hl3]
            exact ⟨g2, rfl, j2⟩
        · rw [if_pos (by rw [nI_len0 (by omega)]; omega), if_neg (fun q => e4 q.2.2.2)]; exact ⟨_, rfl, h0, m131⟩
      · rw [M_isIn_f (d + 7) _ e2, bi_some, if_pos rfl, if_neg (fun q => e2 ⟨q.2.2.1.1, by
          have := (q_lt _ _).mp q.2.2.1.2
          rw [q_le]
          exact Int.le_of_lt_add_one this⟩)]; exact ⟨_, rfl, h0, m131⟩
    · rw [M_isIn_f (d + 7) _ e1, bi_some, if_pos rfl, if_neg (fun q => e1 q.2.1)]; exact ⟨_, rfl, h0, m131⟩
end MM
