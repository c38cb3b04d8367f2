/-! ===== the model: walk, whole ===== -/
section MM
variable {g : am_G} {F : fF}
theorem W_loop (d : Nat) (hw : f_wf F) (x1 x2 x3 : Int32) : ∀ (k x : Nat) (S : wS) (g : am_G), rMa g 0 F → x < fN F → (f_a (fP F) x).length < k → rS5 g S → okS S →
    ∃ g', am_run (am_call (d + 8)) 183 k 78 [some (.inr (.inr (29, 0))), some (.inl x1), some (.inl x2), some (.inl x3), some (.inl (nI x))] [] g = some (some (.inl (nI (S.1 + ((f_a (fP F) x).dropLast.map (fL F)).sum))), am_put g' 148 0 (1 : Int32)) ∧ rS5 g' (S.1 + ((f_a (fP F) x).dropLast.map (fL F)).sum, ((f_a (fP F) x).dropLast.map (fC F)).foldl mn1 S.2.1, S.2.2.1 + isum ((f_a (fP F) x).map (fV F)), S.2.2.2.1 + (f_a (fP F) x).length, ((f_a (fP F) x).dropLast.map (fL F)).foldl mn1 S.2.2.2.2) ∧ fx g g' ∧ m_fr s35 g g'
  | 0, x, S, g, h, hx, hk, hS, hok => by omega
  | k + 1, x, S, g, h, hx, hk, hS, hok => by
    cases hp : fP F x with
    | none =>
      obtain ⟨g', k1, k2, k3, k4⟩ := W_root d k h hw x1 x2 x3 hx hp hS
      have hfa := hw.an hx hp
      rw [hfa] at hk ⊢
      obtain ⟨k, rfl⟩ : ∃ k', k = k' + 1 := ⟨k - 1, by simp at hk; omega⟩
      refine ⟨g', ?_, ?_, k3, k4⟩
      · rw [k1, eM_walk_78, if_pos (by decide), y0, cond_true, m_put_ne (by simp), z0, k2.1]
        rfl
      · obtain ⟨a0, a4, a5, a6, a8⟩ := k2
        refine ⟨a0, a4, ?_, a6, a8⟩
        rw [a5]
        show S.2.2.1 + fV F x = S.2.2.1 + (fV F x + 0)
        rw [Int32.add_zero]
    | some p =>
      have hpn := hw.p hx hp
      have hlc := hw.2.2.2 x hx (by rw [hp]; simp)
      obtain ⟨g1, k1, k2, k3, k4⟩ := W_iter d k h hw x1 x2 x3 hx hp hS hok
      have hmn : ∀ (o : Option Nat) (v : Nat), (∀ c, o = some c → c ≤ 9999) → v ≤ 9999 → ∀ c, mn1 o v = some c → c ≤ 9999 := fun o v ho hv c hc => by
        cases o with
        | none => cases hc; exact hv
        | some u =>
          have hc : (if u ≤ v then some u else some v) = some c := hc
          split at hc
          · rw [← Option.some.inj hc]; exact ho u rfl
          · rw [← Option.some.inj hc]; exact hv
      have hfa := hw.as hx hp
      rw [hfa] at hk ⊢
      rw [List.length_cons] at hk
      obtain ⟨g2, l1, l2, l3, l4⟩ := W_loop d hw x1 x2 x3 k p _ g1 (h.fr35 k4) hpn (by omega) k2 ⟨hmn _ _ hok.1 hlc.2.2, hmn _ _ hok.2 hlc.2.1⟩
      rw [dl_some, List.map_cons, List.map_cons, List.map_cons, List.sum_cons, List.foldl_cons, List.foldl_cons, List.length_cons]
      dsimp only at l1 l2
      refine ⟨g2, ?_, ?_, ⟨l3.1.trans k3.1, l3.2.1.trans k3.2.1, l3.2.2.1.trans k3.2.2.1, l3.2.2.2.trans k3.2.2.2⟩, k4.tr l4⟩
      · rw [k1, l1, Nat.add_assoc]
      · obtain ⟨a0, a4, a5, a6, a8⟩ := l2
        refine ⟨?_, a4, ?_, ?_, a8⟩
        · rw [a0]; dsimp only; rw [Nat.add_assoc]
        · rw [a5]; dsimp only; rw [Int32.add_assoc]; rfl
        · rw [a6]; dsimp only; rw [show S.2.2.2.1 + 1 + (f_a (fP F) p).length = S.2.2.2.1 + ((f_a (fP F) p).length + 1) by omega]
def iv (k : Nat) : Int32 := if (1 ≤ k ∧ k ≤ 4) ∨ k = 8 then -2 else 0
theorem W_init (d n : Nat) (x1 x2 : Int32) : ∀ (m k : Nat) (g : am_G), k + m = 9 → ∃ G, am_run (am_call (d + 8)) 183 (n + m) 21 [some (.inr (.inr (29, 0))), some (.inl x1), some (.inl x2), some (.inl (nI k)), none] [] g = am_run (am_call (d + 8)) 183 n 21 [some (.inr (.inr (29, 0))), some (.inl x1), some (.inl x2), some (.inl (nI 9)), none] [] G ∧ (∀ j, k ≤ j → j < 9 → G 35 0 j = iv j) ∧ (∀ j, j < k → G 35 0 j = g 35 0 j) ∧ m_fr s35 g G
  | 0, k, g, h => by
    have e : k = 9 := by omega
    subst e
    exact ⟨g, rfl, fun j h1 h2 => by omega, fun _ _ => rfl, m_fr.rf⟩
  | m + 1, k, g, h => by
    have hstep : am_run (am_call (d + 8)) 183 (n + m + 1) 21 [some (.inr (.inr (29, 0))), some (.inl x1), some (.inl x2), some (.inl (nI k)), none] [] g = am_run (am_call (d + 8)) 183 (n + m) 21 [some (.inr (.inr (29, 0))), some (.inl x1), some (.inl x2), some (.inl (nI (k + 1))), none] [] (am_sto g 35 0 k (iv k)) := by
      rw [eM_walk_21, show (9 : Int32) = nI 9 from rfl, if_neg (nI_ge (by omega) (by omega)), q_in (show k < 9 by omega) (by omega), nI_clamp (by omega), nI_1]
      simp only [cond_true]
      unfold iv
      by_cases e : 1 ≤ k ∧ k ≤ 4
      · rw [M_isIn_t (d + 7) g (show (1 : Int32) ≤ nI k ∧ nI k ≤ 4 from ⟨nI_le (a := 1) e.1 (by omega), nI_le (b := 4) e.2 (by omega)⟩), bi_some, if_neg q_110, if_pos (Or.inl e)]
      · rw [M_isIn_f (d + 7) g (fun q => e ⟨by
          by_cases q1 : 1 ≤ k
          · exact q1
          · exact absurd q.1 (nI_ge (b := 1) (by omega) (by omega)), by
          by_cases q1 : k ≤ 4
          · exact q1
          · exact absurd q.2 (nI_ge (a := 4) (by omega) (by omega))⟩), bi_some, if_pos rfl]
        by_cases e8 : k = 8
        · subst e8
          rw [if_pos (show nI 8 = (8 : Int32) from rfl), if_pos (Or.inr rfl)]
        · rw [if_neg (show ¬ nI k = (8 : Int32) from fun q => e8 ((nI_eq (a := k) (b := 8) (by omega) (by omega)).mp q)), if_neg (fun q => q.elim e e8)]
    obtain ⟨G, k1, k2, k3, k4⟩ := W_init d n x1 x2 m (k + 1) (am_sto g 35 0 k (iv k)) (by omega)
    refine ⟨G, Eq.trans hstep k1, fun j h1 h2 => ?_, fun j hj => ?_, (m_fr.rf.sto ⟨rfl, rfl⟩).tr k4⟩
    · by_cases e : j = k
      · subst e; rw [k3 j (by omega), m_sto, if_pos rfl]
      · exact k2 j (by omega) h2
    · rw [k3 j (by omega), m_sto, if_neg (by omega)]
theorem rMo.see {σ : aS} {g' : am_G} {l : List Int32} (h : rMo g σ) (hz : ∀ c j, ¬ (c = 35 ∧ j = 0) → ¬ (c = 148 ∧ j = 0) → g' c j = g c j) (h1 : g' 148 0 0 = 1) (h2 : ∀ (k : Nat) (x : Int32), l[k]? = some x → g' 35 0 k = x) : rMo g' (a_see σ l) := by
  obtain ⟨⟨a1, a2⟩, ⟨⟨b1, b2⟩, b3, b4, b5⟩, ⟨c1, c2⟩, ⟨d1, d2⟩, ⟨e1, e2⟩, ⟨f1, f2⟩, ⟨i1, i2⟩, j1⟩ := h
  have z : ∀ c, c ≠ 35 → c ≠ 148 → g' c 0 = g c 0 := fun c hc hc' => hz c 0 (fun q => hc q.1) (fun q => hc' q.1)
  have hk : ∀ (b : Nat) (F : fF), rMk g b F → rMk g' b F := fun b F q => ⟨by rw [z 32 (by omega) (by omega)]; exact q.1, fun t ht => by rw [z 32 (by omega) (by omega)]; exact q.2 t ht⟩
  exact ⟨⟨by rw [z _ (by omega) (by omega)]; exact a1, fun k x hk => by rw [z _ (by omega) (by omega)]; exact a2 k x hk⟩, ⟨hk _ _ ⟨b1, b2⟩, by rw [z _ (by omega) (by omega)]; exact b3, b4, by rw [z _ (by omega) (by omega)]; exact b5⟩, ⟨fun k x hk => by rw [z _ (by omega) (by omega)]; exact c1 k x hk, by rw [z _ (by omega) (by omega)]; exact c2⟩, ⟨by rw [z _ (by omega) (by omega)]; exact d1, fun j G hj => hk _ _ (d2 j G hj)⟩, ⟨by rw [z _ (by omega) (by omega)]; exact e1, fun G hG => hk _ _ (e2 G hG)⟩, ⟨h1, fun l' hl k x hx => by cases hl; exact h2 k x hx⟩, ⟨by rw [z _ (by omega) (by omega)]; exact i1, by rw [z _ (by omega) (by omega)]; exact i2⟩, fun k x hk => by rw [z _ (by omega) (by omega)]; exact j1 k x hk⟩
theorem P_walk {σ : aS} (d : Nat) (h : rMo g σ) (ho : a_ok σ) (x y : Int32) : SimM (am_call (d + 9) 183 [.inr (.inr (29, 0)), .inl x, .inl y] g) g (o_walk σ x y) := by
  have h0 := h.put131 0
  rw [cM_walk, eM_walk_0]
  unfold o_walk
  rcases tw2_cs _ ho.1.1 x y with ⟨h1, h2⟩ | ⟨a, b, ha, hb, rfl, rfl, h3⟩
  · rw [h1, M_areTowns_f (d + 5) h0.2.1.2.2.2 ho.1.1 h2, bi_some, if_pos rfl]; exact ⟨_, rfl, h0, m131⟩
  · rw [h3, M_areTowns_t (d + 5) h0.2.1.2.2.2 ho.1.1 (isT_n ho.1.1 ha) (isT_n ho.1.1 hb), bi_some, if_neg q_110, M_areTogether (d + 4) h0.2.1 ho.1 ha hb, bi_some]
    dsimp only
    by_cases er : f_r (fP (aF σ)) a = f_r (fP (aF σ)) b
    · obtain ⟨g1, r1, r2, r3, r4⟩ := h0.rem (d + 6) ho
      obtain ⟨G, i1, i2, -, i4⟩ := W_init d 99990 (nI a) (nI b) 9 0 g1 (by omega)
      have hG := r2.fr35 i4
      obtain ⟨g2, k1, k2, k3⟩ := M_walks (d + 2) hG ho.1 ha hb
      have hw2 := wf_walk ho.1 ha hb
      have hN2 : fN (f_walk (aF σ) a b) = fN (aF σ) := wk_N
      have hb2 : b < fN (f_walk (aF σ) a b) := by rw [hN2]; exact hb
      have hup := walk_up ho.1 ha hb er
      have hfa : f_a (fP (f_walk (aF σ) a b)) b = (f_way (fP (aF σ)) a b).reverse := f_way_rr ho.1 ha hb er
      have hal := hw2.al hb2
      have k35 : ∀ j, g2 35 0 j = G 35 0 j := fun j => by rw [k3.1 35 0 (by simp)]
      have h7 := k2.s35 7 (fS (f_walk (aF σ) a b) - fS (aF σ))
      -- what lies in the row before the loop
      have key : ∃ (g3 : am_G) (x3 : Int32), am_run (am_call (d + 8)) 183 99990 21 [some (.inr (.inr (29, 0))), some (.inl (nI a)), some (.inl (nI b)), some (.inl (nI 9)), none] [] G = am_run (am_call (d + 8)) 183 99989 78 [some (.inr (.inr (29, 0))), some (.inl (nI a)), some (.inl (nI b)), some (.inl x3), some (.inl (nI b))] [] g3 ∧ rMa g3 0 (f_walk (aF σ) a b) ∧ m_fr s35 g2 g3 ∧ rS5 g3 (0, none, 0, 0, none) ∧ g3 35 0 7 = fS (f_walk (aF σ) a b) - fS (aF σ) ∧ g3 35 0 1 = eM ((f_dx (wsL (aF σ) a b)).1.map (fun _ => (f_dx (wsL (aF σ) a b)).2)) ∧ g3 35 0 2 = eM ((f_dx (wsL (aF σ) a b)).1.bind (fun k => (f_way (fP (aF σ)) a b)[k]?)) ∧ g3 35 0 3 = eM ((f_dx (wsL (aF σ) a b)).1.bind (fun k => (f_way (fP (aF σ)) a b)[k + 1]?)) := by
        rw [show 99990 = 99989 + 1 from rfl, eM_walk_21, if_pos (show (9 : Int32) ≤ nI 9 by decide), k1, bi_some, y7, cond_true, z7, M_dearestTo (d + 5) h7 hw2 hb2, bi_some, y1, y2, y3, z1, z2, z3]
        by_cases eab : a = b
        · have wl := way_len ho.1 ha hb
          have hl1 := wl.2.mpr eab
          have hws : wsL (aF σ) a b = [] := List.length_eq_zero_iff.mp (by rw [f_ws_len]; omega)
          have htl : (f_way (fP (aF σ)) a b).tail = [] := List.length_eq_zero_iff.mp (by rw [List.length_tail]; omega)
          rw [hup, htl, show sd_ (fL (f_walk (aF σ) a b)) none ([] : List Nat).reverse = none from rfl, eC_none, if_pos (by decide), hws]
          refine ⟨_, _, rfl, h7, m_fr.rf.sto ⟨rfl, rfl⟩, ⟨?_, ?_, ?_, ?_, ?_⟩, ?_, ?_, ?_, ?_⟩
          all_goals rw [m_sto]
          · rw [if_neg (by omega), k35, i2 0 (by omega) (by omega)]; rfl
          · rw [if_neg (by omega), k35, i2 4 (by omega) (by omega)]; rfl
          · rw [if_neg (by omega), k35, i2 5 (by omega) (by omega)]; rfl
          · rw [if_neg (by omega), k35, i2 6 (by omega) (by omega)]; rfl
          · rw [if_neg (by omega), k35, i2 8 (by omega) (by omega)]; rfl
          · rw [if_pos rfl]
          · rw [if_neg (by omega), k35, i2 1 (by omega) (by omega)]; rfl
          · rw [if_neg (by omega), k35, i2 2 (by omega) (by omega)]; rfl
          · rw [if_neg (by omega), k35, i2 3 (by omega) (by omega)]; rfl
        · obtain ⟨k, u, v, e1, e2, e3, e4, e5, e6, e7⟩ := walk_dear ho.1 ha hb er eab
          have hvn : v < fN (f_walk (aF σ) a b) := by rw [hN2]; exact f_way_lt ho.1.2.1 ho.1.1 ha hb v (List.mem_of_getElem? e3)
          have hlv := len_some hw2 hvn (by rw [e6]; simp)
          rw [e4, eC_some, if_neg (q_nn (q24 hw2.1 hvn)), M_ofL (d + 7) h7 hw2.1 hvn, bi_some, cond_true, M_parent (d + 6) (h7.s35 1 _) hw2.1 hvn, bi_some, cond_true, cond_true, hlv.1, e6, eM_some, e5, e1]
          refine ⟨_, _, rfl, ((h7.s35 1 _).s35 2 _).s35 3 _, (((m_fr.rf.sto ⟨rfl, rfl⟩).sto ⟨rfl, rfl⟩).sto ⟨rfl, rfl⟩).sto ⟨rfl, rfl⟩, ⟨?_, ?_, ?_, ?_, ?_⟩, ?_, ?_, ?_, ?_⟩
          all_goals rw [m_sto]
          · rw [if_neg (by omega), m_sto, if_neg (by omega), m_sto, if_neg (by omega), m_sto, if_neg (by omega), k35, i2 0 (by omega) (by omega)]; rfl
          · rw [if_neg (by omega), m_sto, if_neg (by omega), m_sto, if_neg (by omega), m_sto, if_neg (by omega), k35, i2 4 (by omega) (by omega)]; rfl
          · rw [if_neg (by omega), m_sto, if_neg (by omega), m_sto, if_neg (by omega), m_sto, if_neg (by omega), k35, i2 5 (by omega) (by omega)]; rfl
          · rw [if_neg (by omega), m_sto, if_neg (by omega), m_sto, if_neg (by omega), m_sto, if_neg (by omega), k35, i2 6 (by omega) (by omega)]; rfl
          · rw [if_neg (by omega), m_sto, if_neg (by omega), m_sto, if_neg (by omega), m_sto, if_neg (by omega), k35, i2 8 (by omega) (by omega)]; rfl
          · rw [if_neg (by omega), m_sto, if_neg (by omega), m_sto, if_neg (by omega), m_sto, if_pos rfl]
          · rw [if_neg (by omega), m_sto, if_neg (by omega), m_sto, if_pos rfl]; rfl
          · rw [if_neg (by omega), m_sto, if_pos rfl]
            show nI u = eM ((f_way (fP (aF σ)) a b)[k]?)
            rw [e2]; rfl
          · rw [if_pos rfl]
            show nI v = eM ((f_way (fP (aF σ)) a b)[k + 1]?)
            rw [e3]; rfl
      obtain ⟨g3, x3, j1, j2, j3, j4, j5, j6, j7, j8⟩ := key
      obtain ⟨g4, l1, l2, l3, l4⟩ := W_loop d hw2 (nI a) (nI b) x3 99989 b (0, none, 0, 0, none) g3 j2 hb2 (by omega) j4 ⟨fun c hc => (by cases hc), fun c hc => (by cases hc)⟩
      rw [hup] at l1 l2
      rw [hfa] at l2
      have hsum : ((f_way (fP (aF σ)) a b).tail.reverse.map (fL (f_walk (aF σ) a b))).sum = (wsL (aF σ) a b).sum := by rw [List.map_reverse, sum_rv, walk_wsL ho.1 ha hb er]
      have hmC : ((f_way (fP (aF σ)) a b).tail.reverse.map (fC (f_walk (aF σ) a b))).foldl mn1 none = f_mn (wsC (aF σ) a b) := by rw [List.map_reverse, mn1_rev, walk_wsC ho.1 ha hb er, f_mn_fl]
      have hmL : ((f_way (fP (aF σ)) a b).tail.reverse.map (fL (f_walk (aF σ) a b))).foldl mn1 none = f_mn (wsL (aF σ) a b) := by rw [List.map_reverse, mn1_rev, walk_wsL ho.1 ha hb er, f_mn_fl]
      have hws : f_ws (fP (f_walk (aF σ) a b)) (fL (f_walk (aF σ) a b)) (f_way (fP (aF σ)) a b) = wsL (aF σ) a b := by rw [walk_ws ho.1 ha hb er, walk_wsL ho.1 ha hb er]
      have hwc : f_ws (fP (f_walk (aF σ) a b)) (fC (f_walk (aF σ) a b)) (f_way (fP (aF σ)) a b) = wsC (aF σ) a b := by rw [walk_ws ho.1 ha hb er, walk_wsC ho.1 ha hb er]
      rw [hsum] at l1 l2
      rw [hmC, hmL] at l2
      dsimp only at l1 l2
      have hrun := Eq.trans i1 (Eq.trans j1 l1)
      rw [if_pos er, if_neg q_110, r1, bv_some, if_pos er, hws]
      have h35 : m_fr s35 g2 g4 := j3.tr l4
      -- the state: first without what is seen
      have hT : rMo (fun c j => if (c = 35 ∧ j = 0) ∨ (c = 148 ∧ j = 0) then g1 c j else am_put g4 148 0 (1 : Int32) c j) (a_do σ (f_walk (aF σ) a b)) := by
        have hz : ∀ c j, ¬ (c = 35 ∧ j = 0) → am_put g4 148 0 (1 : Int32) c j = if c = 148 ∧ j = 0 then (fun _ => 1) else g2 c j := fun c j q => by
          by_cases q2 : c = 148 ∧ j = 0
          · rw [if_pos q2, q2.1, q2.2]; funext z; exact m_put _ _ _ _ _
          · rw [if_neg q2, m_put_ne q2, h35 c j q]
        refine r4 _ _ ⟨fun c j q => ?_, fun k q => ?_⟩ ?_
        · dsimp only
          by_cases q2 : (c = 35 ∧ j = 0) ∨ (c = 148 ∧ j = 0)
          · rw [if_pos q2]
          · rw [if_neg q2, hz c j (fun q3 => q2 (Or.inl q3)), if_neg (fun q3 => q2 (Or.inr q3)), k3.1 c j q, i4 c j (fun q3 => q2 (Or.inl q3))]
        · dsimp only
          rw [if_neg (by omega), hz 32 0 (by omega), if_neg (by omega), k3.2 k q, i4 32 0 (by unfold s35; omega)]
        · refine ⟨⟨?_, fun t ht => ?_⟩, ?_, by omega, ?_⟩
          · dsimp only; rw [if_neg (by omega), hz 32 0 (by omega), if_neg (by omega)]; exact k2.1.1
          · dsimp only; rw [if_neg (by omega), hz 32 0 (by omega), if_neg (by omega)]; exact k2.1.2 t ht
          · dsimp only; rw [if_neg (by omega), hz 139 0 (by omega), if_neg (by omega)]; exact k2.2.1
          · dsimp only; rw [if_neg (by omega), hz 142 0 (by omega), if_neg (by omega)]; exact k2.2.2.2
      refine ⟨am_put g4 148 0 (1 : Int32), ?_, hT.see (fun c j q q2 => by rw [if_neg (fun q3 => q3.elim q q2)]) (m_put _ _ _ _ _) ?_, ?_⟩
      · refine Eq.trans hrun ?_
        rw [Nat.zero_add]
      · unfold f_look
        rw [hws, hwc]
        obtain ⟨q0, q4, q5, q6, q8⟩ := l2
        have q5' : g4 35 0 5 = isum ((f_way (fP (aF σ)) a b).map (fV (f_walk (aF σ) a b))) := by
          rw [q5]
          dsimp only
          rw [Int32.zero_add, List.map_reverse, isum_rev]
        refine nine ?_ ?_ ?_ ?_ ?_ ?_ ?_ ?_ ?_
        all_goals rw [m_put_ne (by simp)]
        · rw [q0]; dsimp only; rw [Nat.zero_add]
        · rw [l3.1, j6]
        · rw [l3.2.1, j7]
        · rw [l3.2.2.1, j8]
        · exact q4
        · exact q5'
        · rw [q6]; dsimp only; rw [Nat.zero_add, List.length_reverse]
        · rw [l3.2.2.2, j5]
        · exact q8
      · have m35 : ∀ {u v : am_G}, m_fr s35 u v → m_fr sMd u v := fun q => q.mono fun c j q => by unfold s35 at q; unfold sMd; omega
        exact ((((m131.tr r3.M).tr (m35 i4)).tr k3.M).tr (m35 h35)).tr (m_fr.put m_fr.rf (by unfold sMd; omega))
    · rw [if_neg er, if_pos rfl, if_neg er]; exact ⟨_, rfl, h0, m131⟩
end MM
