/-! ===== the model: what it does ===== -/
section MM
variable {g : am_G} {σ : aS}
theorem isT_n {n t : Nat} (hn : n ≤ 24) (ht : t < n) : isT n (nI t) := isT_nI hn ht
theorem m131 : m_fr sMd g (am_put g 131 0 (0 : Int32)) := m_p131 0
theorem P_touch (d : Nat) (h : rMo g σ) (ho : a_ok σ) (x : Int32) : SimM (am_call (d + 9) 176 [.inr (.inr (29, 0)), .inl x] g) g (o_touch σ x) := by
  have h0 := h.put131 0
  rw [cM_touch, eM_touch_0]
  unfold o_touch
  rcases tw_cs _ ho.1.1 x with ⟨h1, h2⟩ | ⟨t, ht, rfl, h3⟩
  · rw [h1, M_isTown_f (d + 6) h0.2.1.2.2.2 ho.1.1 h2, bi_some, if_pos rfl]; exact ⟨_, rfl, h0, m131⟩
  · obtain ⟨g1, r1, r2, r3, r4⟩ := h0.rem (d + 6) ho
    obtain ⟨g2, k1, k2, k3⟩ := M_touches (d + 4) r2 ho.1 ht
    rw [h3, M_isTown_t (d + 6) h0.2.1.2.2.2 ho.1.1 (isT_n ho.1.1 ht), bi_some, if_neg q_110, r1, bv_some, k1, bi_some]
    exact ⟨g2, rfl, r4 _ _ k3 k2, (m131.tr r3.M).tr k3.M⟩
theorem P_reroot (d : Nat) (h : rMo g σ) (ho : a_ok σ) (x : Int32) : SimM (am_call (d + 9) 177 [.inr (.inr (29, 0)), .inl x] g) g (o_reroot σ x) := by
  have h0 := h.put131 0
  rw [cM_reroot, eM_reroot_0]
  unfold o_reroot
  rcases tw_cs _ ho.1.1 x with ⟨h1, h2⟩ | ⟨t, ht, rfl, h3⟩
  · rw [h1, M_isTown_f (d + 6) h0.2.1.2.2.2 ho.1.1 h2, bi_some, if_pos rfl]; exact ⟨_, rfl, h0, m131⟩
  · obtain ⟨g1, r1, r2, r3, r4⟩ := h0.rem (d + 6) ho
    obtain ⟨g2, k1, k2, k3⟩ := M_reroots (d + 3) r2 ho.1 ht
    rw [h3, M_isTown_t (d + 6) h0.2.1.2.2.2 ho.1.1 (isT_n ho.1.1 ht), bi_some, if_neg q_110, r1, bv_some, k1, bi_some]
    exact ⟨g2, rfl, r4 _ _ k3 k2, (m131.tr r3.M).tr k3.M⟩
theorem P_settle (d : Nat) (h : rMo g σ) (ho : a_ok σ) (x : Int32) : SimM (am_call (d + 9) 191 [.inr (.inr (29, 0)), .inl x] g) g (o_settle σ x) := by
  have h0 := h.put131 0
  rw [cM_settle, eM_settle_0]
  unfold o_settle
  rcases tw_cs _ ho.1.1 x with ⟨h1, h2⟩ | ⟨t, ht, rfl, h3⟩
  · rw [h1, M_isTown_f (d + 6) h0.2.1.2.2.2 ho.1.1 h2, bi_some, if_pos rfl]; exact ⟨_, rfl, h0, m131⟩
  · obtain ⟨g1, r1, r2, r3, r4⟩ := h0.rem (d + 6) ho
    obtain ⟨g2, k1, k2, k3⟩ := M_settles (d + 2) r2 ho.1 ht
    rw [h3, M_isTown_t (d + 6) h0.2.1.2.2.2 ho.1.1 (isT_n ho.1.1 ht), bi_some, if_neg q_110, r1, bv_some, k1, bi_some]
    exact ⟨g2, rfl, r4 _ _ k3 k2, (m131.tr r3.M).tr k3.M⟩
theorem P_link (d : Nat) (h : rMo g σ) (ho : a_ok σ) (x y l c : Int32) : SimM (am_call (d + 9) 181 [.inr (.inr (29, 0)), .inl x, .inl y, .inl l, .inl c] g) g (o_link σ x y l c) := by
  have h0 := h.put131 0
  rw [cM_link, eM_link_0]
  unfold o_link
  rcases tw2_cs _ ho.1.1 x y with ⟨h1, h2⟩ | ⟨a, b, ha, hb, rfl, rfl, h3⟩
  · rw [h1, M_areTowns_f (d + 5) h0.2.1.2.2.2 ho.1.1 h2, bi_some, if_pos rfl]; exact ⟨_, rfl, h0, m131⟩
  · rw [h3, M_areTowns_t (d + 5) h0.2.1.2.2.2 ho.1.1 (isT_n ho.1.1 ha) (isT_n ho.1.1 hb), bi_some, if_neg q_110]
    dsimp only
    by_cases e1 : 1 ≤ l ∧ l ≤ 9999
    · rw [M_isLength_t (d + 6) _ e1, bi_some, if_neg q_110]
      by_cases e2 : 1 ≤ c ∧ c ≤ 9999
      · rw [M_isLength_t (d + 6) _ e2, bi_some, if_neg q_110, if_pos ⟨e1, e2⟩, M_areTogether (d + 4) h0.2.1 ho.1 ha hb, bi_some]
        by_cases er : f_r (fP (aF σ)) a = f_r (fP (aF σ)) b
        · rw [if_pos er, if_neg q_110, if_pos er]; exact ⟨_, rfl, h0, m131⟩
        · have q1 := q_clamp (lo := 1) (hi := 9999) (by omega) (by omega) e1
          have q2 := q_clamp (lo := 1) (hi := 9999) (by omega) (by omega) e2
          obtain ⟨g1, r1, r2, r3, r4⟩ := h0.rem (d + 6) ho
          obtain ⟨g2, k1, k2, k3⟩ := M_links (d + 2) r2 ho.1 ha hb l.toNatClampNeg c.toNatClampNeg
          rw [← q1.1, ← q2.1] at k1
          have hw2 := wf_link ho.1 ha hb er q1.2 q2.2.2
          have hN : fN (f_link (aF σ) a b l.toNatClampNeg c.toNatClampNeg) = fN (aF σ) := wk_N (b := b)
          have ha2 : a < fN (f_link (aF σ) a b l.toNatClampNeg c.toNatClampNeg) := by rw [hN]; exact ha
          rw [if_neg er, if_pos rfl, if_neg er, r1, bv_some, k1, bv_some, M_rootOf (d + 5) k2 hw2 ha2, bi_some, M_size (d + 4) k2 hw2 (f_r_lt hw2.2.1 hw2.1 a ha2).1, bi_some]
          exact ⟨g2, rfl, r4 _ _ k3 k2, (m131.tr r3.M).tr k3.M⟩
      · rw [M_isLength_f (d + 6) _ e2, bi_some, if_pos rfl, if_neg (fun q => e2 q.2)]; exact ⟨_, rfl, h0, m131⟩
    · rw [M_isLength_f (d + 6) _ e1, bi_some, if_pos rfl, if_neg (fun q => e1 q.1)]; exact ⟨_, rfl, h0, m131⟩
theorem P_cut (d : Nat) (h : rMo g σ) (ho : a_ok σ) (x y : Int32) : SimM (am_call (d + 9) 182 [.inr (.inr (29, 0)), .inl x, .inl y] g) g (o_cut σ x y) := by
  have h0 := h.put131 0
  rw [cM_cut, eM_cut_0]
  unfold o_cut
  rcases tw2_cs _ ho.1.1 x y with ⟨h1, h2⟩ | ⟨a, b, ha, hb, rfl, rfl, h3⟩
  · rw [h1, M_areTowns_f (d + 5) h0.2.1.2.2.2 ho.1.1 h2, bi_some, if_pos rfl]; exact ⟨_, rfl, h0, m131⟩
  · obtain ⟨g1, r1, r2, r3, r4⟩ := h0.rem (d + 6) ho
    obtain ⟨g2, k1, k2, k3⟩ := M_cuts (d + 1) r2 ho.1 ha hb
    rw [h3, M_areTowns_t (d + 5) h0.2.1.2.2.2 ho.1.1 (isT_n ho.1.1 ha) (isT_n ho.1.1 hb), bi_some, if_neg q_110, M_parent (d + 6) h0.2.1 ho.1.1 ha, bi_some]
    dsimp only
    unfold f_lo
    by_cases e1 : fP (aF σ) a = some b
    · have e1' : eM (fP (aF σ) a) = nI b := (eM_inj (ho.1.p31 ha) (q24 ho.1.1 hb)).mpr e1
      have hl := len_some ho.1 ha (by rw [e1]; simp)
      rw [if_pos e1', r1, bv_some, M_parent (d + 6) r2 ho.1.1 ha, bi_some, if_pos e1', M_ofL (d + 7) r2 ho.1.1 ha, bi_some, k1, bv_some, hl.1, if_pos e1]
      exact ⟨g2, rfl, r4 _ _ k3 k2, (m131.tr r3.M).tr k3.M⟩
    · have e1' : ¬ eM (fP (aF σ) a) = nI b := fun q => e1 ((eM_inj (ho.1.p31 ha) (q24 ho.1.1 hb)).mp q)
      rw [if_neg e1', M_parent (d + 6) h0.2.1 ho.1.1 hb, bi_some, if_neg e1]
      by_cases e2 : fP (aF σ) b = some a
      · have hl := len_some ho.1 hb (by rw [e2]; simp)
        rw [if_pos ((eM_inj (ho.1.p31 hb) (q24 ho.1.1 ha)).mpr e2), r1, bv_some, M_parent (d + 6) r2 ho.1.1 ha, bi_some, if_neg e1', M_ofL (d + 7) r2 ho.1.1 hb, bi_some, k1, bv_some, hl.1, if_pos e2]
        exact ⟨g2, rfl, r4 _ _ k3 k2, (m131.tr r3.M).tr k3.M⟩
      · rw [if_neg (fun q => e2 ((eM_inj (ho.1.p31 hb) (q24 ho.1.1 ha)).mp q)), if_neg e2]
        exact ⟨_, rfl, h0, m131⟩
theorem P_meet (d : Nat) (h : rMo g σ) (ho : a_ok σ) (x y : Int32) : SimM (am_call (d + 9) 187 [.inr (.inr (29, 0)), .inl x, .inl y] g) g (o_meet σ x y) := by
  have h0 := h.put131 0
  rw [cM_meet, eM_meet_0]
  unfold o_meet
  rcases tw2_cs _ ho.1.1 x y with ⟨h1, h2⟩ | ⟨a, b, ha, hb, rfl, rfl, h3⟩
  · rw [h1, M_areTowns_f (d + 5) h0.2.1.2.2.2 ho.1.1 h2, bi_some, if_pos rfl]; exact ⟨_, rfl, h0, m131⟩
  · rw [h3, M_areTowns_t (d + 5) h0.2.1.2.2.2 ho.1.1 (isT_n ho.1.1 ha) (isT_n ho.1.1 hb), bi_some, if_neg q_110, M_areTogether (d + 4) h0.2.1 ho.1 ha hb, bi_some]
    dsimp only
    by_cases er : f_r (fP (aF σ)) a = f_r (fP (aF σ)) b
    · obtain ⟨m, A, B, hm⟩ := f_md_ex ho.1.2.1 ho.1.1 hb a ha er
      have em := f_m_md ho.1.2.1 hm
      obtain ⟨g1, r1, r2, r3, r4⟩ := h0.rem (d + 6) ho
      obtain ⟨g2, k1, k2, k3⟩ := M_touches (d + 4) r2 ho.1 ha
      have hw2 := wf_touch ho.1 ha
      obtain ⟨g3, l1, l2, l3⟩ := M_touches (d + 4) k2 hw2 (t := b) hb
      rw [if_pos er, if_neg q_110, r1, bv_some, k1, bi_some, l1, bi_some, M_meetOf (d + 4) l2 (wf_touch hw2 (t := b) hb) (s := a) (t := b) ha hb er, bi_some, em]
      dsimp only
      refine ⟨g3, ?_, r4 _ _ (k3.tr l3) l2, ((m131.tr r3.M).tr k3.M).tr l3.M⟩
      show some (some (Sum.inl (eM (f_m (fP (aF σ)) a b))), g3) = _
      rw [em]
      rfl
    · rw [if_neg er, if_pos rfl, f_m_none ho.1.2.1 ho.1.1 ha hb er]
      exact ⟨_, rfl, h0, m131⟩
theorem P_shed (d : Nat) (h : rMo g σ) (ho : a_ok σ) (x : Int32) : SimM (am_call (d + 9) 194 [.inr (.inr (29, 0)), .inl x] g) g (o_shed σ x) := by
  have h0 := h.put131 0
  rw [cM_shed, eM_shed_0]
  unfold o_shed
  rcases tw_cs _ ho.1.1 x with ⟨h1, h2⟩ | ⟨t, ht, rfl, h3⟩
  · rw [h1, M_isTown_f (d + 6) h0.2.1.2.2.2 ho.1.1 h2, bi_some, if_pos rfl]; exact ⟨_, rfl, h0, m131⟩
  · rw [h3, M_isTown_t (d + 6) h0.2.1.2.2.2 ho.1.1 (isT_n ho.1.1 ht), bi_some, if_neg q_110, M_parent (d + 6) h0.2.1 ho.1.1 ht, bi_some]
    dsimp only
    cases hp : fP (aF σ) t with
    | none => rw [eM_none, if_neg (by decide)]; exact ⟨_, rfl, h0, m131⟩
    | some p =>
      have hpn := ho.1.p ht hp
      have hl := len_some ho.1 ht (by rw [hp]; simp)
      obtain ⟨g1, r1, r2, r3, r4⟩ := h0.rem (d + 6) ho
      obtain ⟨g2, k1, k2, k3⟩ := M_cuts (d + 1) r2 ho.1 hpn ht
      rw [eM_some, if_pos (q_0le (q24 ho.1.1 hpn)), r1, bv_some, M_ofL (d + 7) r2 ho.1.1 ht, bi_some, M_parent (d + 6) r2 ho.1.1 ht, bi_some, hl.1, hp, eM_some, k1, bv_some]
      exact ⟨g2, rfl, r4 _ _ k3 k2, (m131.tr r3.M).tr k3.M⟩
theorem rMa.setV {b : Nat} {F : fF} (h : rMa g b F) (hn : fN F ≤ 24) {y : Nat} (hy : y < 24) (v : Int32) : rMa (mst g b (96 + y) v) b (f_sV F y v) := by
  refine ⟨⟨?_, fun t ht => ?_⟩, by rw [mst_o _ _ _ _ (by simp)]; exact h.2.1, h.2.2.1, by rw [mst_o _ _ _ _ (by simp)]; exact h.2.2.2⟩
  · rw [mst_at, if_neg (by omega)]; exact h.1.1
  · have ht : t < fN F := ht
    obtain ⟨a1, a2, a3, a4, a5⟩ := h.1.2 t ht
    rw [mst_at, mst_at, mst_at, mst_at, mst_at, if_neg (by omega), if_neg (by omega : ¬ 24 + t = 96 + y), if_neg (by omega : ¬ 48 + t = 96 + y), if_neg (by omega : ¬ 72 + t = 96 + y)]
    refine ⟨a1, a2, a3, a4, ?_⟩
    show _ = uo (fV F) y v t
    unfold uo
    by_cases e : t = y
    · rw [if_pos (by omega), if_pos e]
    · rw [if_neg (by omega), if_neg e]; exact a5
theorem P_value (d : Nat) (h : rMo g σ) (ho : a_ok σ) (x v : Int32) : SimM (am_call (d + 9) 195 [.inr (.inr (29, 0)), .inl x, .inl v] g) g (o_value σ x v) := by
  have h0 := h.put131 0
  have hn := ho.1.1
  rw [cM_value, eM_value_0]
  unfold o_value
  rcases tw_cs _ ho.1.1 x with ⟨h1, h2⟩ | ⟨t, ht, rfl, h3⟩
  · rw [h1, M_isTown_f (d + 6) h0.2.1.2.2.2 ho.1.1 h2, bi_some, if_pos rfl]; exact ⟨_, rfl, h0, m131⟩
  · rw [h3, M_isTown_t (d + 6) h0.2.1.2.2.2 ho.1.1 (isT_n ho.1.1 ht), bi_some, if_neg q_110]
    dsimp only
    by_cases e : -9999 ≤ v ∧ v ≤ 9999
    · obtain ⟨g1, r1, r2, r3, r4⟩ := h0.rem (d + 6) ho
      rw [M_isIn_t (d + 7) _ e, bi_some, if_neg q_110, if_pos e, r1, bv_some, M_ofV (d + 7) r2 ho.1.1 ht, bi_some, k_96, M_lay (d + 7) r2.2.1 (by omega) (by omega), bv_some]
      have hB := mst_B g1 (b := 0) (k := 96 + t) (by omega) v
      exact ⟨_, rfl, r4 _ _ hB (r2.setV hn (by omega) v), (m131.tr r3.M).tr hB.M⟩
    · rw [M_isIn_f (d + 7) _ e, bi_some, if_pos rfl, if_neg e]; exact ⟨_, rfl, h0, m131⟩
theorem P_cutDearest (d : Nat) (h : rMo g σ) (ho : a_ok σ) (x y : Int32) : SimM (am_call (d + 9) 192 [.inr (.inr (29, 0)), .inl x, .inl y] g) g (o_cutDearest σ x y) := by
  have h0 := h.put131 0
  rw [cM_cutDearest, eM_cutDearest_0]
  unfold o_cutDearest
  rcases tw2_cs _ ho.1.1 x y with ⟨h1, h2⟩ | ⟨a, b, ha, hb, rfl, rfl, h3⟩
  · rw [h1, M_areTowns_f (d + 5) h0.2.1.2.2.2 ho.1.1 h2, bi_some, if_pos rfl]; exact ⟨_, rfl, h0, m131⟩
  · rw [h3, M_areTowns_t (d + 5) h0.2.1.2.2.2 ho.1.1 (isT_n ho.1.1 ha) (isT_n ho.1.1 hb), bi_some, if_neg q_110]
    dsimp only
    by_cases eab : a = b
    · rw [if_pos (by rw [eab]), if_neg (fun q => q.2 eab)]; exact ⟨_, rfl, h0, m131⟩
    · rw [if_neg (by rw [nI_eq (q24 ho.1.1 ha) (q24 ho.1.1 hb)]; exact eab), M_areTogether (d + 4) h0.2.1 ho.1 ha hb, bi_some]
      by_cases er : f_r (fP (aF σ)) a = f_r (fP (aF σ)) b
      · obtain ⟨g1, r1, r2, r3, r4⟩ := h0.rem (d + 6) ho
        obtain ⟨g2, k1, k2, k3⟩ := M_cutsDearest d r2 ho.1 ha hb er eab
        rw [if_pos er, if_neg q_110, if_pos ⟨er, eab⟩, r1, bv_some, k1, bi_some]
        exact ⟨g2, rfl, r4 _ _ k3 k2, (m131.tr r3.M).tr k3.M⟩
      · rw [if_neg er, if_pos rfl, if_neg (fun q => er q.1)]; exact ⟨_, rfl, h0, m131⟩
/-- a trial in bank 1 -/
theorem rMo.try1 (d : Nat) (h : rMo g σ) (ho : a_ok σ) : ∃ g1, am_call (d + 1) 143 [.inr (.inr (29, 0)), .inl (0 : Int32), .inl (1 : Int32)] g = some (none, g1) ∧ rMa (am_put g1 139 0 (1 : Int32)) 1 (aF σ) ∧ m_fr sMd g g1 ∧ ∀ g3, mB 1 (am_put g1 139 0 (1 : Int32)) g3 → rMo (am_put g3 139 0 (0 : Int32)) σ := by
  obtain ⟨⟨a1, a2⟩, hb, ⟨c1, c2⟩, ⟨d1, d2⟩, ⟨e1, e2⟩, ⟨f1, f2⟩, ⟨h1, h2⟩, i1⟩ := h
  obtain ⟨g1, k1, k2, k3⟩ := M_copyBank d (f := 0) (t := 1) (by omega) (by omega) (by omega) g
  have hp : ∀ {g : am_G} {b : Nat} {F : fF} (x : Int32), rMk g b F → rMk (am_put g 139 0 x) b F := fun x q => ⟨by rw [m_put_ne (by simp)]; exact q.1, fun t ht => by rw [m_put_ne (by simp)]; exact q.2 t ht⟩
  refine ⟨g1, k1, ⟨hp _ (hb.1.copy ho.1.1 k2), m_put _ _ _ _ _, by omega, by rw [m_put_ne (by simp), k3.1 142 0 (by simp)]; exact hb.2.2.2⟩, k3.M, fun g3 hB => ?_⟩
  have z : ∀ c j, ¬ (c = 32 ∧ j = 0) → ¬ (c = 139 ∧ j = 0) → am_put g3 139 0 (0 : Int32) c j = g c j := fun c j q q' => by
    rw [m_put_ne q', hB.1 c j q, m_put_ne q', k3.1 c j q]
  have zk : ∀ (b : Nat) (F : fF), b ≠ 1 → fN F ≤ 24 → rMk g b F → rMk (am_put g3 139 0 (0 : Int32)) b F := fun b F hb1 hn q => hp _ ((hp _ (q.fr hn k3 hb1)).fr hn hB hb1)
  exact ⟨⟨by rw [z _ _ (by simp) (by simp)]; exact a1, fun k x hk => by rw [z _ _ (by simp) (by simp)]; exact a2 k x hk⟩, ⟨zk 0 _ (by omega) ho.1.1 hb.1, m_put _ _ _ _ _, by omega, by rw [z _ _ (by simp) (by simp)]; exact hb.2.2.2⟩, ⟨fun k x hk => by rw [z _ _ (by simp) (by simp)]; exact c1 k x hk, by rw [z _ _ (by simp) (by simp)]; exact c2⟩, ⟨by rw [z _ _ (by simp) (by simp)]; exact d1, fun j G hj => zk _ _ (by omega) (ho.uok j G hj) (d2 j G hj)⟩, ⟨by rw [z _ _ (by simp) (by simp)]; exact e1, fun G hG => zk _ _ (by omega) (ho.2.2.2.1 G hG).1.1 (e2 G hG)⟩, ⟨by rw [z _ _ (by simp) (by simp)]; exact f1, fun l hl k x hx => by rw [z _ _ (by simp) (by simp)]; exact f2 l hl k x hx⟩, ⟨by rw [z _ _ (by simp) (by simp)]; exact h1, by rw [z _ _ (by simp) (by simp)]; exact h2⟩, fun k x hk => by rw [z _ _ (by simp) (by simp)]; exact i1 k x hk⟩
theorem mB.p139 {b : Nat} {g' : am_G} (h : mB b g g') : m_fr sMd g (am_put g' 139 0 (0 : Int32)) := h.M.tr (m_fr.put m_fr.rf (by unfold sMd; omega))
theorem m_p139 (x : Int32) : m_fr sMd g (am_put g 139 0 x) := m_fr.put m_fr.rf (by unfold sMd; omega)
theorem rMo.commit (d : Nat) {F' : fF} (h : rMo g σ) (ho : a_ok σ) (h1 : rMk g 1 F') (hN : fN F' = fN (aF σ)) : ∃ g1 g2, am_call (d + 2) 144 [.inr (.inr (29, 0))] g = some (none, g1) ∧ am_call (d + 2) 143 [.inr (.inr (29, 0)), .inl (1 : Int32), .inl (0 : Int32)] g1 = some (none, g2) ∧ rMo g2 (a_do σ F') ∧ m_fr sMd g g2 := by
  obtain ⟨g1, r1, r2, r3, r4⟩ := h.rem d ho
  obtain ⟨g2, k1, k2, k3⟩ := M_copyBank (d + 1) (f := 1) (t := 0) (by omega) (by omega) (by omega) g1
  have hn : fN F' ≤ 24 := by rw [hN]; exact ho.1.1
  have h1' : rMk g1 1 F' := h1.cg hn (fun k _ q => r3.2 k (by omega))
  refine ⟨g1, g2, r1, k1, r4 _ _ k3 ⟨h1'.copy hn k2, by rw [k3.1 139 0 (by simp)]; exact r2.2.1, by omega, by rw [k3.1 142 0 (by simp), hN]; exact r2.2.2.2⟩, r3.M.tr k3.M⟩
theorem rMk.p139 {b : Nat} {F : fF} (x : Int32) (q : rMk g b F) : rMk (am_put g 139 0 x) b F := ⟨by rw [m_put_ne (by simp)]; exact q.1, fun t ht => by rw [m_put_ne (by simp)]; exact q.2 t ht⟩
theorem P_exchange (d : Nat) (h : rMo g σ) (ho : a_ok σ) (x y l c : Int32) : SimM (am_call (d + 9) 193 [.inr (.inr (29, 0)), .inl x, .inl y, .inl l, .inl c] g) g (o_exchange σ x y l c) := by
  have h0 := h.put131 0
  rw [cM_exchange, eM_exchange_0]
  unfold o_exchange
  rcases tw2_cs _ ho.1.1 x y with ⟨h1, h2⟩ | ⟨a, b, ha, hb, rfl, rfl, h3⟩
  · rw [h1, M_areTowns_f (d + 5) h0.2.1.2.2.2 ho.1.1 h2, bi_some, if_pos rfl]; exact ⟨_, rfl, h0, m131⟩
  · rw [h3, M_areTowns_t (d + 5) h0.2.1.2.2.2 ho.1.1 (isT_n ho.1.1 ha) (isT_n ho.1.1 hb), bi_some, if_neg q_110]
    dsimp only
    by_cases e1 : 1 ≤ l ∧ l ≤ 9999
    · rw [M_isLength_t (d + 6) _ e1, bi_some, if_neg q_110]
      by_cases e2 : 1 ≤ c ∧ c ≤ 9999
      · rw [M_isLength_t (d + 6) _ e2, bi_some, if_neg q_110, if_pos (show (1 ≤ l ∧ l ≤ 9999) ∧ 1 ≤ c ∧ c ≤ 9999 from ⟨e1, e2⟩)]
        have q1 := q_clamp (lo := 1) (hi := 9999) (by omega) (by omega) e1
        have q2 := q_clamp (lo := 1) (hi := 9999) (by omega) (by omega) e2
        by_cases eab : a = b
        · rw [if_pos (by rw [eab]), if_pos eab]; exact ⟨_, rfl, h0, m131⟩
        · obtain ⟨g1, t1, t2, t3, t4⟩ := h0.try1 (d + 7) ho
          rw [if_neg (by rw [nI_eq (q24 ho.1.1 ha) (q24 ho.1.1 hb)]; exact eab), if_neg eab, t1, bv_some, M_areTogether (d + 4) t2 ho.1 ha hb, bi_some]
          by_cases er : f_r (fP (aF σ)) a = f_r (fP (aF σ)) b
          · obtain ⟨g2, k1, k2, k3⟩ := M_cutsDearest d t2 ho.1 ha hb er eab
            have hl2 : 2 ≤ (f_way (fP (aF σ)) a b).length := by
              have wl := way_len ho.1 ha hb
              have z0 : ¬ (f_way (fP (aF σ)) a b).length = 0 := fun q => wl.1.mp q er
              have z1 : ¬ (f_way (fP (aF σ)) a b).length = 1 := fun q => eab (wl.2.mp q)
              omega
            have hdx := dx_eM ho.1 ha hb hl2
            have hL2 : ∀ x ∈ f_way (fP (aF σ)) a b, x < fN (f_walk (aF σ) a b) := fun x hx => by rw [wk_N]; exact f_way_lt ho.1.2.1 ho.1.1 ha hb x hx
            obtain ⟨hw3, hN3⟩ := wf_cutd (wf_walk ho.1 ha hb) hL2 (walk_lks ho.1 ha hb er)
            have hN3' : fN (f_cutd (f_walk (aF σ) a b) (f_way (fP (aF σ)) a b)) = fN (aF σ) := by rw [hN3, wk_N]
            have ha3 : a < fN (f_cutd (f_walk (aF σ) a b) (f_way (fP (aF σ)) a b)) := by rw [hN3']; exact ha
            have hb3 : b < fN (f_cutd (f_walk (aF σ) a b) (f_way (fP (aF σ)) a b)) := by rw [hN3']; exact hb
            obtain ⟨g3, l1, l2, l3⟩ := M_links (d + 2) k2 hw3 ha3 hb3 l.toNatClampNeg c.toNatClampNeg
            rw [← q1.1, ← q2.1] at l1
            have hM := t4 g3 (k3.tr l3)
            have hfr : m_fr sMd g (am_put g3 139 0 (0 : Int32)) := ((m131.tr t3).tr (m_p139 _)).tr (k3.tr l3).p139
            rw [if_pos er, if_neg q_110, k1, bi_some, l1, bv_some, if_pos er, if_neg (show ¬ nI (f_dx (wsL (aF σ) a b)).2 ≤ 0 from fun q => by
              rw [show (0 : Int32) = nI 0 from rfl] at q
              exact absurd q (nI_ge (by omega) (by omega)))]
            by_cases ed : (f_dx (wsL (aF σ) a b)).2 ≤ l.toNatClampNeg
            · rw [if_pos ed, if_neg (by rw [q1.1]; exact nI_nlt ed (by omega))]
              exact ⟨_, rfl, hM, hfr⟩
            · obtain ⟨g4, g5, m1, m2, m3, m4⟩ := hM.commit (d + 6) ho (l2.1.p139 0) (by
                show fN (f_walk (f_cutd (f_walk (aF σ) a b) (f_way (fP (aF σ)) a b)) a b) = fN (aF σ)
                rw [wk_N, hN3'])
              rw [if_neg ed, if_pos (by rw [q1.1]; exact nI_lt (by omega) (by omega)), m1, bv_some, m2, bv_some]
              exact ⟨g5, rfl, m3, hfr.tr m4⟩
          · obtain ⟨g3, l1, l2, l3⟩ := M_links (d + 2) t2 ho.1 ha hb l.toNatClampNeg c.toNatClampNeg
            rw [← q1.1, ← q2.1] at l1
            have hM := t4 g3 l3
            have hfr : m_fr sMd g (am_put g3 139 0 (0 : Int32)) := ((m131.tr t3).tr (m_p139 _)).tr l3.p139
            obtain ⟨g4, g5, m1, m2, m3, m4⟩ := hM.commit (d + 6) ho (l2.1.p139 0) (wk_N (b := b))
            rw [if_neg er, if_pos rfl, l1, bv_some, if_neg er, if_pos (show (0 : Int32) ≤ 0 by decide), m1, bv_some, m2, bv_some]
            exact ⟨g5, rfl, m3, hfr.tr m4⟩
      · rw [M_isLength_f (d + 6) _ e2, bi_some, if_pos rfl, if_neg (fun q => e2 q.2)]; exact ⟨_, rfl, h0, m131⟩
    · rw [M_isLength_f (d + 6) _ e1, bi_some, if_pos rfl, if_neg (fun q => e1 q.1)]; exact ⟨_, rfl, h0, m131⟩
end MM
