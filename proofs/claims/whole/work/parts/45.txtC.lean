/-! ===== TownForest: the tape, the text ===== -/
section AA
variable {g : am_G} {σ : aS}
theorem rB0.push {B : List Int32} {v : Int32} (h : rB0 g B) : rB0 (am_put (am_sto g 13 0 B.length v) 100 0 (nI (B.length + 1))) (B ++ [v]) := by
  refine ⟨by rw [m_put, List.length_append]; rfl, fun k x hk => ?_⟩
  rw [m_put_ne (by simp), m_sto]
  by_cases e : k = B.length
  · subst e
    rw [if_pos rfl]
    rw [List.getElem?_append_right (Nat.le_refl _), Nat.sub_self] at hk
    exact (Option.some.inj hk)
  · rw [if_neg e]
    have hl := (List.getElem?_eq_some_iff.mp hk).1
    rw [List.length_append] at hl
    have hl : k < B.length + 1 := hl
    rw [List.getElem?_append_left (by omega)] at hk
    exact h.2 k x hk
def s13 : Nat → Nat → Prop := fun c j => j = 0 ∧ (c = 13 ∨ c = 100)
theorem feed1 (ct : am_T) (k : Nat) (x1 x2 : Int32) (hx : ¬ x2 < 0) {B : List Int32} (h : rB0 g B) (hl : B.length < 700) : ∃ g', am_run ct 129 (k + 1) 2 [some (.inr (.inr (0, 0))), some (.inl x1), some (.inl x2)] [] g = am_run ct 129 k 2 [some (.inr (.inr (0, 0))), some (.inl x1), some (.inl (x2 + (-8)))] [] g' ∧ rB0 g' (B ++ [(x1 >>> (x2 &&& 31)) &&& 255]) ∧ m_fr s13 g g' := by
  refine ⟨am_put (am_sto g 13 0 B.length ((x1 >>> (x2 &&& 31)) &&& 255)) 100 0 (nI (B.length + 1)), ?_, h.push, (m_fr.rf.sto ⟨rfl, Or.inl rfl⟩).put ⟨rfl, Or.inr rfl⟩⟩
  rw [eC_feedNumber_2, if_neg hx, show (700 : Int32) = nI 700 from rfl, h.1, if_neg (nI_ge (by omega) (by omega)), q_in hl (by omega), cond_true, nI_clamp (by omega), m_sto_ne (by simp), h.1, nI_1]
theorem A_feedNumber (d : Nat) (x : Int32) {B : List Int32} (h : rB0 g B) (hl : B.length + 4 ≤ 700) : ∃ g', am_call (d + 1) 129 [.inr (.inr (0, 0)), .inl x] g = some (none, g') ∧ rB0 g' (B ++ by4 x) ∧ m_fr s13 g g' := by
  obtain ⟨g1, a1, a2, a3⟩ := feed1 (am_call d) 99998 x 24 (by decide) h (by omega)
  obtain ⟨g2, b1, b2, b3⟩ := feed1 (am_call d) 99997 x 16 (by decide) a2 (by simp; omega)
  obtain ⟨g3, c1, c2, c3⟩ := feed1 (am_call d) 99996 x 8 (by decide) b2 (by simp; omega)
  obtain ⟨g4, d1, d2, d3⟩ := feed1 (am_call d) 99995 x 0 (by decide) c2 (by simp; omega)
  rw [cC_feedNumber, eC_feedNumber_0]
  refine ⟨g4, Eq.trans a1 (Eq.trans b1 (Eq.trans c1 (Eq.trans d1 ?_))), ?_, ((a3.tr b3).tr c3).tr d3⟩
  · rw [show 99995 = 99994 + 1 from rfl, eC_feedNumber_2, if_pos (by decide)]
  · have e : B ++ by4 x = (((B ++ [(x >>> ((24 : Int32) &&& 31)) &&& 255]) ++ [(x >>> ((16 : Int32) &&& 31)) &&& 255]) ++ [(x >>> ((8 : Int32) &&& 31)) &&& 255]) ++ [(x >>> ((0 : Int32) &&& 31)) &&& 255] := by
      simp [by4]
    rw [e]
    exact d2
theorem rA.tape {g' : am_G} {B : List Int32} (h : rA g σ) (hf : m_fr s13 g g') (hB : rB0 g' B) : rA g' (a_tape σ B) := by
  obtain ⟨h1, h2, ⟨b, h3⟩, h4, h5, h6, h7, h8⟩ := h
  have z : ∀ c j, (c ≠ 13 ∧ c ≠ 100) → ¬ s13 c j := fun c j hc q => by have := q.2; omega
  exact ⟨hB, h2.fr hf (fun c hc => by have := hc.2; omega), ⟨b, h3.fr hf (fun c hc => z _ _ (by omega))⟩, h4.fr hf (z _ _ (by omega)) (z _ _ (by omega)) (fun c j _ _ hc => z _ _ (by unfold fc at hc; omega)), h5.fr hf (z _ _ (by omega)) (fun c hc => z _ _ (by omega)), h6.fr hf (z _ _ (by omega)) (z _ _ (by omega)), by rw [hf 108 0 (z _ _ (by omega))]; exact h7, by rw [hf 109 0 (z _ _ (by omega))]; exact h8⟩
theorem A_feed (d : Nat) (h : rA g σ) (ho : a_ok σ) (a b c e f : Int32) : SimC (am_call (d + 9) 84 [.inr (.inr (0, 0)), .inl a, .inl b, .inl c, .inl e, .inl f] g) g (o_feed σ a b c e f) := by
  have hl := ho.2.2.2.2.2.1
  have h4 : ∀ x, (by4 x).length = 4 := fun _ => rfl
  rw [cC_feed, eC_feed_0, h.1.1, show (20 : Int32) = nI 20 from rfl, nI_add, show (700 : Int32) = nI 700 from rfl]
  unfold o_feed
  by_cases ef : 680 < (aB σ).length
  · rw [if_neg (nI_ge (by omega) (by omega)), if_pos ef]; exact ⟨g, rfl, h, m_fr.rf⟩
  · obtain ⟨g1, a1, a2, a3⟩ := A_feedNumber (d + 7) a h.1 (by omega)
    obtain ⟨g2, b1, b2, b3⟩ := A_feedNumber (d + 7) b a2 (by rw [List.length_append, h4]; omega)
    obtain ⟨g3, c1, c2, c3⟩ := A_feedNumber (d + 7) c b2 (by rw [List.length_append, List.length_append, h4, h4]; omega)
    obtain ⟨g4, d1, d2, d3⟩ := A_feedNumber (d + 7) e c2 (by rw [List.length_append, List.length_append, List.length_append, h4, h4, h4]; omega)
    obtain ⟨g5, e1, e2, e3⟩ := A_feedNumber (d + 7) f d2 (by rw [List.length_append, List.length_append, List.length_append, List.length_append, h4, h4, h4, h4]; omega)
    have hf := (((a3.tr b3).tr c3).tr d3).tr e3
    have e9 : aB σ ++ by4 a ++ by4 b ++ by4 c ++ by4 e ++ by4 f = aB σ ++ (by4 a ++ (by4 b ++ (by4 c ++ (by4 e ++ by4 f)))) := by simp [List.append_assoc]
    rw [e9] at e2
    rw [if_pos (nI_le (by omega) (by omega)), if_neg ef, a1, bv_some, b1, bv_some, c1, bv_some, d1, bv_some, e1, bv_some, e2.1]
    refine ⟨g5, ?_, h.tape hf e2, hf.mono fun c j q => by have := q.2; show c ≤ 28 ∨ (100 ≤ c ∧ c ≤ 129); omega⟩
    simp [h4]
def sTx : Nat → Nat → Prop := fun c j => sTa c j ∨ (c = 100 ∧ j = 0)
theorem T_tell (d : Nat) {T : Nat → Int32} {n : Nat} (hn : n ≤ 700) (hT : ∀ k, k < n → g 13 0 k = T k) : ∃ x g', am_call (d + 7) 62 [.inr (.inr (10, 0)), .inr (.inr (13, 0)), .inl (nI n)] g = some (some (.inl x), g') ∧ rEnd g' (t_text T n) x ∧ m_fr sTa g g' := by
  obtain ⟨g1, a1, a2, a3⟩ := C_clear (i := 1) (g := g) (d + 5) tS0.1
  obtain ⟨g2, b1, b2, b3⟩ := N_clear (i := 1) (g := g1) (d + 5)
  have ha3 : m_fr sTa g g1 := a3.mono fun c j q => Or.inl (Or.inl q)
  have hb3 : m_fr sTa g1 g2 := b3.mono fun c j q => Or.inl (Or.inr (Or.inl q))
  have hp3 : m_fr (fun c j => j = 0 ∧ 107 ≤ c ∧ c ≤ 109) g2 (am_put (am_put (am_put g2 107 0 (0 : Int32)) 108 0 (0 : Int32)) 109 0 (-1 : Int32)) := m_fr.put (m_fr.put (m_fr.put m_fr.rf ⟨rfl, by omega, by omega⟩) ⟨rfl, by omega, by omega⟩) ⟨rfl, by omega, by omega⟩
  have hf3 : m_fr sTa g (am_put (am_put (am_put g2 107 0 (0 : Int32)) 108 0 (0 : Int32)) 109 0 (-1 : Int32)) := (ha3.tr hb3).tr (hp3.mono fun c j q => by
    unfold sTa sTl
    omega)
  have n13 : ¬ sTa 13 0 := by
    unfold sTa sTl sF sN sR
    omega
  obtain ⟨g4, c1, c2, c3⟩ := R_opn (T := T) (n := n) (g := am_put (am_put (am_put g2 107 0 (0 : Int32)) 108 0 (0 : Int32)) 109 0 (-1 : Int32)) (d + 2) hn (fun k hk => by rw [hf3 13 0 n13]; exact hT k hk)
  have hp := lx_pos T (Nat.zero_le n)
  have hr : rT g4 T n tS0 (lx T n 0) := by
    refine ⟨rC.sR ?_ c3, rN.sR ?_ c3, c2, lx_kind _ _ _, ?_, ?_⟩
    · refine rC.cg (g := g1) a2 fun c hc => ?_
      rw [m_put_ne (by omega), m_put_ne (by omega), m_put_ne (by omega)]
      exact b3 c 1 (fun q => by have := q.2; omega)
    · exact b2.fr hp3 (fun c hc q => by have := q.1; omega)
    · rw [c3 108 0 (fun q => by have := q.2; omega), m_put_ne (by simp), m_put]
    · rw [c3 109 0 (fun q => by have := q.2; omega), m_put]
  have h7 : g4 107 0 0 = nI 0 := by
    rw [c3 107 0 (fun q => by have := q.2; omega), m_put_ne (by simp), m_put_ne (by simp), m_put]; rfl
  obtain ⟨x, g5, e1, e2, e3⟩ := T_tell_loop (T := T) (n := n) d (nI n) 701 0 99999 g4 tS0 (lx T n 0) hr ⟨⟨by decide, ⟨fun t p ht => absurd ht (Nat.not_lt_zero _), fun _ => 0, fun t p ht => absurd ht (Nat.not_lt_zero _)⟩, fun t q ht => absurd ht (Nat.not_lt_zero _), fun t ht => absurd ht (Nat.not_lt_zero _)⟩, rfl⟩ h7 hp.2.2.2.1 hp.2.1 hp.2.2.1 (by omega) (by omega) (by omega)
  rw [cT_tell, eT_tell_0, a1, bv_some, b1, bv_some, c1, bv_some]
  exact ⟨x, g5, e1, e2, (hf3.tr (c3.mono fun c j q => Or.inl (Or.inr (Or.inr (Or.inl q))))).tr e3⟩
theorem z_Tx (c j : Nat) (hc : (j = 0 ∧ (c = 13 ∨ (2 ≤ c ∧ c ≤ 6) ∨ (101 ≤ c ∧ c ≤ 106) ∨ c = 9 ∨ c = 117 ∨ c = 118 ∨ c = 19 ∨ c = 120)) ∨ (j = 2 ∧ (2 ≤ c ∧ c ≤ 6 ∨ c = 102 ∨ c = 103)) ∨ (4 ≤ j ∧ j < 24 ∧ fc c)) : ¬ sTx c j := by
  unfold sTx sTa sTl sF sN sR
  unfold fc at hc
  omega
theorem A_text (d : Nat) (h : rA g σ) (ho : a_ok σ) (x : Int32) : SimC (am_call (d + 9) 85 [.inr (.inr (0, 0)), .inl x] g) g (o_text σ x) := by
  have hl := ho.2.2.2.2.2.1
  rw [cC_text, eC_text_0, h.1.1]
  unfold o_text
  by_cases e0 : x < 0
  · rw [if_pos e0, if_neg (fun q => by have := (q_lt _ _).mp e0; have := (q_le _ _).mp q.1; omega)]; exact ⟨g, rfl, h, m_fr.rf⟩
  · rw [if_neg e0]
    have e0' : 0 ≤ x := by rw [q_le]; rw [q_lt] at e0; omega
    by_cases e1 : x ≤ nI (aB σ).length
    · have hq := q_clamp (lo := 0) (hi := (aB σ).length) (x := x) (by omega) (by omega) ⟨e0', e1⟩
      rw [if_pos e1, if_pos ⟨e0', e1⟩]
      generalize hm : x.toNatClampNeg = m at *
      rw [hq.1]
      obtain ⟨h1, h2, ⟨b, h3⟩, h4, h5, h6, h7, h8⟩ := h
      obtain ⟨r, g1, a1, a2, a3⟩ := T_tell (g := am_put g 100 0 (0 : Int32)) (T := fun k => (aB σ).getD k 0) (n := m) (d + 1) (by omega) (fun k hk => by
        rw [m_put_ne (by simp)]
        have hk2 : k < (aB σ).length := by omega
        have hg := List.getElem?_eq_getElem hk2
        rw [h1.2 k _ hg, List.getD_eq_getElem?_getD, hg]
        rfl)
      have hf : m_fr sTx g g1 := (m_fr.rf.put (Or.inr ⟨rfl, rfl⟩)).tr (a3.mono fun c j q => Or.inl q)
      have hC : m_fr sCm g g1 := hf.mono fun c j q => by
        unfold sTx sTa sTl sF sN sR at q
        show c ≤ 28 ∨ (100 ≤ c ∧ c ≤ 129)
        omega
      have hB : rB0 g1 [] := ⟨by rw [a3 100 0 (by unfold sTa sTl sF sN sR; omega), m_put]; rfl, fun k x hk => by cases hk⟩
      rw [a1, bi_some]
      cases hr : t_text (fun k => (aB σ).getD k 0) m with
      | inl er =>
        rw [hr] at a2
        obtain ⟨rfl, e8, e9⟩ := a2
        rw [if_pos rfl]
        exact ⟨g1, rfl, ⟨hB, h2.cg (fun c hc => hf c 0 (z_Tx _ _ (by omega))), ⟨b, h3.fr hf (fun c hc => z_Tx _ _ (by omega))⟩, h4.fr hf (z_Tx _ _ (by omega)) (z_Tx _ _ (by omega)) (fun c j hj1 hj2 hc => z_Tx _ _ (Or.inr (Or.inr ⟨hj1, hj2, hc⟩))), h5.fr hf (z_Tx _ _ (by omega)) (fun c hc => z_Tx _ _ (by omega)), h6.fr hf (z_Tx _ _ (by omega)) (z_Tx _ _ (by omega)), e8, e9⟩, hC⟩
      | inr q =>
        rw [hr] at a2
        obtain ⟨rfl, c1, c2, c3, c4, c5, c6⟩ := a2
        obtain ⟨g2, i1, i2, i3⟩ := C_copyFrom (i := 0) (j := 1) (d + 6) c1 c3.1 (by omega)
        have c2' : rN g2 1 q.1.2.1 q.1.2.2.1 q.1.2.2.2 := c2.fr i3 (fun c hc q => by have := q.1; omega)
        obtain ⟨g3, j1, j2, j3⟩ := N_copyFrom (i := 0) (j := 1) (d + 6) c2' (by omega)
        obtain ⟨g4, k1, k2, k3⟩ := C_forget (g := am_put (am_put g3 103 0 (0 : Int32)) 101 0 (0 : Int32)) (d + 6)
        rw [if_neg q_110, cC_takeTold, eC_takeTold_0, i1, bv_some, j1, bv_some, k1, bv_some, bv_some]
        have hA : ∀ c j, ¬ (j = 0 ∧ ((2 ≤ c ∧ c ≤ 7) ∨ c = 9 ∨ (101 ≤ c ∧ c ≤ 106) ∨ c = 117 ∨ c = 118 ∨ c = 120)) → (am_put g4 120 0 (0 : Int32)) c j = g1 c j := fun c j hn => by
          rw [m_put_ne (by omega), k3 c j (by omega), m_put_ne (by omega), m_put_ne (by omega), j3 c j (fun q => by have := q.1; have := q.2; omega), i3 c j (fun q => by have := q.1; have := q.2; omega)]
        have e107 : (am_put g4 120 0 (0 : Int32)) 107 0 0 = nI q.2 := by rw [hA 107 0 (by omega)]; exact c4
        rw [e107]
        refine ⟨_, rfl, ⟨⟨by rw [hA 100 0 (by omega)]; exact hB.1, fun k x hk => by cases hk⟩, ?_, ⟨q.1.2.2.2, ?_⟩, ?_, ⟨?_, fun G hG => by cases hG⟩, ⟨m_put _ _ _ _ _, fun l hl => by cases hl⟩, by rw [hA 108 0 (by omega)]; exact c5, by rw [hA 109 0 (by omega)]; exact c6⟩, hC.tr ?_⟩
        · have i2' : rC g3 0 q.1.1 := i2.fr j3 (fun c hc => by have := hc.2; omega)
          have hs := (i2'.setS (0 : Int32))
          refine rC.cg (g := am_put g3 103 0 0) hs fun c hc => ?_
          rw [m_put_ne (by omega), k3 c 0 (by omega), m_put_ne (by omega)]
        · have z1 : m_fr (fun c j => j = 0 ∧ (c = 103 ∨ c = 101 ∨ c = 117 ∨ c = 118 ∨ c = 120)) g3 (am_put (am_put g3 103 0 (0 : Int32)) 101 0 (0 : Int32)) := m_fr.put (m_fr.put m_fr.rf ⟨rfl, by omega⟩) ⟨rfl, by omega⟩
          have z2 : m_fr (fun c j => j = 0 ∧ (c = 103 ∨ c = 101 ∨ c = 117 ∨ c = 118 ∨ c = 120)) g3 (am_put g4 120 0 (0 : Int32)) := m_fr.put (z1.tr (k3.mono fun c j q => ⟨q.1, by omega⟩)) ⟨rfl, by omega⟩
          exact j2.fr z2 (fun c hc q => by omega)
        · refine rH.fr (S := fun c j => c = 120 ∧ j = 0) k2 (m_fr.rf.put ⟨rfl, rfl⟩) (by omega) (by omega) (fun c j hj _ _ q => by omega)
        · rw [m_put_ne (by simp), k3 101 0 (by omega), m_put]; rfl
        · have z1 : m_fr sCm g2 g3 := j3.mono fun c j q => by
            have := q.2
            show c ≤ 28 ∨ (100 ≤ c ∧ c ≤ 129)
            omega
          have z2 : m_fr sCm g3 (am_put (am_put g3 103 0 (0 : Int32)) 101 0 (0 : Int32)) := m_fr.put (m_fr.put m_fr.rf (by unfold sCm; omega)) (by unfold sCm; omega)
          have z3 : m_fr sCm (am_put (am_put g3 103 0 (0 : Int32)) 101 0 (0 : Int32)) g4 := k3.mono fun c j q => by unfold sCm; omega
          have z4 : m_fr sCm g4 (am_put g4 120 0 (0 : Int32)) := m_fr.put m_fr.rf (by unfold sCm; omega)
          exact (((i3.FC.tr z1).tr z2).tr z3).tr z4
    · rw [if_neg e1, if_neg (fun q => e1 q.2)]; exact ⟨g, rfl, h, m_fr.rf⟩
end AA
