/-! ===== the model: link lines, deeds ===== -/
section MM
variable {g : am_G} {T : Nat → Int32} {n p : Nat} {s : tS} {t u : tk}
theorem rMb.a (hb : rMb g s) (h : g 142 0 0 = nI (fN s.1)) : ∃ S, rMa g 3 (f_sh s.1 S) := by
  obtain ⟨⟨S, y⟩, yb, _⟩ := hb
  exact ⟨S, y, yb, by omega, h⟩
theorem rMb.deed {g' : am_G} {F' : fF} {S : Int32} (hb : rMb g s) (hB : mB 3 g g') (hr : rMk g' 3 (f_sh F' S)) : rMb g' (F', s.2) := by
  obtain ⟨_, b, c, d, e, f, i, j⟩ := hb
  have z : ∀ c, c ≠ 32 → g' c 0 = g c 0 := fun c hc => hB.1 c 0 (fun q => hc q.1)
  exact ⟨⟨S, hr⟩, by rw [z _ (by omega)]; exact b, by rw [z _ (by omega)]; exact c, fun k x hk => by rw [z _ (by omega)]; exact d k x hk, by rw [z _ (by omega)]; exact e, by rw [z _ (by omega)]; exact f, by rw [z _ (by omega)]; exact i, by rw [z _ (by omega)]; exact j⟩
theorem rKt.B {g' : am_G} (h : rKt g T n t) (hB : mB 3 g g') : rKt g' T n t := h.cg fun c hc => hB.1 c 0 (fun q => by have := q.1; omega)
theorem rK0.B {g' : am_G} (h : rK0 g T n p) (hB : mB 3 g g') : rK0 g' T n p := h.cg fun c hc => hB.1 c 0 (fun q => by have := q.1; omega)
theorem sW142 {g' : am_G} (h : m_fr sW g g') : g' 142 0 0 = g 142 0 0 := by rw [h 142 0 (fun r => by have := r.2; omega)]
theorem sK142 {g' : am_G} (h : m_fr sK g g') : g' 142 0 0 = g 142 0 0 := by rw [h 142 0 (fun r => by have := r.2; omega)]
theorem M_linkLine (d : Nat) (h : rKt g T n t) (hb : rMb g s) (hs : tS_ok s) (h142 : g 142 0 0 = nI (fN s.1)) : ∃ x g', am_call (d + 7) 160 [.inr (.inr (29, 0))] g = some (some (.inl x), g') ∧ mL g g' ∧ lnB g' T n x (tl_link T n s t) := by
  have hl : s.2.1.length ≤ 24 := by rw [← hs.2]; exact hs.1.1
  obtain ⟨x1, g1, a1, a2, a3⟩ := M_townRead (d + 2) h.1 hb hl
  rw [cM_linkLine, eM_linkLine_0, a1, bi_some]
  unfold tl_link
  rw [t_tw]
  generalize lx T n t.2.2.1 = u at a3 ⊢
  by_cases e : t_nm u = true
  · rw [if_pos e] at a3
    rw [if_pos e]
    cases hf : n_find s.2.1 u.2.2.2 with
    | none =>
      rw [hf] at a3
      have a3 : bad g1 x1 (4, u.2.1) := a3
      rw [if_pos a3.1]
      exact ⟨0, g1, rfl, mL.W a2, Or.inl ⟨_, rfl, ⟨rfl, a3.2⟩⟩⟩
    | some a =>
      rw [hf] at a3
      obtain ⟨a4, a5, a6, a7⟩ := a3
      have ha := n_find_lt hf
      obtain ⟨x2, g2, b1, b2, b3⟩ := M_townRead (d + 2) a6.1 a7 hl
      dsimp only
      rw [if_neg (show ¬ x1 = 0 by rw [a4]; decide), b1, bi_some, t_tw]
      generalize lx T n u.2.2.1 = w at b3 ⊢
      have f2 : mL g g2 := (mL.W a2).tr (mL.W b2)
      by_cases e2 : t_nm w = true
      · rw [if_pos e2] at b3
        rw [if_pos e2]
        cases hf2 : n_find s.2.1 w.2.2.2 with
        | none =>
          rw [hf2] at b3
          have b3 : bad g2 x2 (4, w.2.1) := b3
          rw [if_pos b3.1]
          exact ⟨0, g2, rfl, f2, Or.inl ⟨_, rfl, ⟨rfl, b3.2⟩⟩⟩
        | some b =>
          rw [hf2] at b3
          obtain ⟨b4, b5, b6, b7⟩ := b3
          have hb' := n_find_lt hf2
          have h142' : g2 142 0 0 = nI (fN s.1) := by rw [sW142 b2, sW142 a2]; exact h142
          obtain ⟨S, hr⟩ := b7.a h142'
          have hN := hs.2
          have ra := M_rootOf (d + 3) (t := a) hr hs.1 (show a < fN s.1 by omega)
          have rb := M_rootOf (d + 3) (t := b) hr hs.1 (show b < fN s.1 by omega)
          have la := (f_r_lt hs.1.2.1 hs.1.1 a (by omega)).1
          have lb := (f_r_lt hs.1.2.1 hs.1.1 b (by omega)).1
          have hn := hs.1.1
          dsimp only
          rw [if_neg (show ¬ x2 = 0 by rw [b4]; decide), a5, b5, ra, bi_some, rb, bi_some]
          have ee : nI (f_r (fP (f_sh s.1 S)) a) = nI (f_r (fP (f_sh s.1 S)) b) ↔ f_r (fP s.1) a = f_r (fP s.1) b := q_inj (a := f_r (fP s.1) a) (b := f_r (fP s.1) b) (by omega) (by omega)
          by_cases er : f_r (fP s.1) a = f_r (fP s.1) b
          · obtain ⟨g', k1, k2, k3⟩ := M_wrong' (d + 5) 3 3 rfl b6.2.2.1
            rw [if_pos (ee.mpr er), if_pos er, k1, bi_some]
            exact ⟨0, g', rfl, f2.tr (mL.W k3), Or.inl ⟨_, rfl, k2⟩⟩
          · obtain ⟨g5, c1, c2, c3⟩ := M_token (d + 3) b6.1
            have hb5 := b7.K c3
            rw [if_neg (fun q => er (ee.mp q)), if_neg er, c1, bv_some, t_nb]
            generalize lx T n w.2.2.1 = l at c2 ⊢
            obtain ⟨x6, g6, d1, d2, d3⟩ := M_number (d + 1) c2 hb5 1 9999
            have f6 := (f2.tr (mL.K c3)).tr (mL.W d2)
            rw [d1, bi_some]
            by_cases e6 : l.1 = 2
            · rw [if_pos e6] at d3
              rw [if_pos e6]
              by_cases e7 : 1 ≤ l.2.2.2 ∧ l.2.2.2 ≤ 9999
              · rw [if_pos e7] at d3
                obtain ⟨d4, d5, d6, d7⟩ := d3
                rw [if_neg (show ¬ x6 = 0 by rw [d4]; decide), if_pos e7, t_nb]
                generalize lx T n l.2.2.1 = c at d6 ⊢
                obtain ⟨x7, g7, i1, i2, i3⟩ := M_number (d + 1) d6 d7 1 9999
                have f7 := f6.tr (mL.W i2)
                rw [i1, bi_some]
                by_cases e8 : c.1 = 2
                · rw [if_pos e8] at i3
                  rw [if_pos e8]
                  by_cases e9 : 1 ≤ c.2.2.2 ∧ c.2.2.2 ≤ 9999
                  · rw [if_pos e9] at i3
                    obtain ⟨i4, i5, i6, i7⟩ := i3
                    have ql := q_clamp (lo := 1) (hi := 9999) (by omega) (by omega) e7
                    have qc := q_clamp (lo := 1) (hi := 9999) (by omega) (by omega) e9
                    obtain ⟨S', hr'⟩ := i7.a (show g7 142 0 0 = nI (fN s.1) by rw [sW142 i2, sW142 d2, sK142 c3]; exact h142')
                    obtain ⟨g8, j1, j2, j3⟩ := M_links d (s := a) (t := b) hr' hs.1 (show a < fN s.1 by omega) (show b < fN s.1 by omega) l.2.2.2.toNatClampNeg c.2.2.2.toNatClampNeg
                    rw [← ql.1, ← qc.1] at j1
                    rw [sh_link] at j2
                    rw [if_neg (show ¬ x7 = 0 by rw [i4]; decide), if_pos e9, d5, i5, j1, bv_some]
                    exact ⟨1, g8, rfl, f7.tr (mL.B j3), Or.inr ⟨rfl, c.2.2.1, (f_link s.1 a b l.2.2.2.toNatClampNeg c.2.2.2.toNatClampNeg, s.2), rfl, i6.B j3, i7.deed j3 j2.1⟩⟩
                  · rw [if_neg e9] at i3
                    rw [if_pos i3.1, if_neg e9]
                    exact ⟨0, g7, rfl, f7, Or.inl ⟨_, rfl, ⟨rfl, i3.2⟩⟩⟩
                · rw [if_neg e8] at i3
                  rw [if_pos i3.1, if_neg e8]
                  exact ⟨0, g7, rfl, f7, Or.inl ⟨_, rfl, ⟨rfl, i3.2⟩⟩⟩
              · rw [if_neg e7] at d3
                rw [if_pos d3.1, if_neg e7]
                exact ⟨0, g6, rfl, f6, Or.inl ⟨_, rfl, ⟨rfl, d3.2⟩⟩⟩
            · rw [if_neg e6] at d3
              rw [if_pos d3.1, if_neg e6]
              exact ⟨0, g6, rfl, f6, Or.inl ⟨_, rfl, ⟨rfl, d3.2⟩⟩⟩
      · rw [if_neg e2] at b3
        rw [if_pos b3.1, if_neg e2]
        exact ⟨0, g2, rfl, f2, Or.inl ⟨_, rfl, ⟨rfl, b3.2⟩⟩⟩
  · rw [if_neg e] at a3
    rw [if_pos a3.1, if_neg e]
    exact ⟨0, g1, rfl, mL.W a2, Or.inl ⟨_, rfl, ⟨rfl, a3.2⟩⟩⟩
theorem M_deedLine (d : Nat) (h : rKt g T n t) (hb : rMb g s) (hs : tS_ok s) (h142 : g 142 0 0 = nI (fN s.1)) (k : Int32) (h5 : k ≠ 5) (h37 : g 137 0 0 = k) (hk2 : k = 2 ↔ t.2.2.2 = 620220416) (hk3 : k = 3 ↔ t.2.2.2 = 687508736) : ∃ x g', am_call (d + 7) 161 [.inr (.inr (29, 0))] g = some (some (.inl x), g') ∧ mL g g' ∧ lnB g' T n x (t_deed T n s t) := by
  have hl : s.2.1.length ≤ 24 := by rw [← hs.2]; exact hs.1.1
  obtain ⟨x1, g1, a1, a2, a3⟩ := M_townRead (d + 2) h.1 hb hl
  rw [cM_wordLine, eM_wordLine_0, h37, if_neg h5, a1, bi_some]
  unfold t_deed
  rw [t_tw]
  generalize lx T n t.2.2.1 = u at a3 ⊢
  by_cases e : t_nm u = true
  · rw [if_pos e] at a3
    rw [if_pos e]
    cases hf : n_find s.2.1 u.2.2.2 with
    | none =>
      rw [hf] at a3
      have a3 : bad g1 x1 (4, u.2.1) := a3
      rw [if_pos a3.1]
      exact ⟨0, g1, rfl, mL.W a2, Or.inl ⟨_, rfl, ⟨rfl, a3.2⟩⟩⟩
    | some a =>
      rw [hf] at a3
      obtain ⟨a4, a5, a6, a7⟩ := a3
      have ha := n_find_lt hf
      have hN := hs.2
      have hr := a7.a (show g1 142 0 0 = nI (fN s.1) by rw [sW142 a2]; exact h142)
      obtain ⟨S, hr⟩ := hr
      have ha' : a < fN s.1 := by omega
      dsimp only
      rw [if_neg (show ¬ x1 = 0 by rw [a4]; decide), a5]
      have fin : ∀ (F' : fF) (g2 : am_G), rMa g2 3 (f_sh F' S) → mB 3 g1 g2 → ∃ x g', am_bv (am_call (d + 6) 139 [.inr (.inr (29, 0))] g2) (fun g3 => (some (some (Sum.inl (1 : Int32) : am_V), g3) : Option am_R)) = some (some (Sum.inl x : am_V), g') ∧ mL g g' ∧ lnB g' T n x (t_end T n u.2.2.1 (fun z => .inr ((F', s.2), z))) := fun F' g2 r1 r2 => by
        obtain ⟨g3, c1, c2, c3⟩ := M_token (d + 3) (a6.1.B r2)
        rw [c1, bv_some]
        exact ⟨1, g3, rfl, ((mL.W a2).tr (mL.B r2)).tr (mL.K c3), Or.inr ⟨rfl, u.2.2.1, (F', s.2), rfl, c2, (a7.deed r2 r1.1).K c3⟩⟩
      by_cases k2 : k = 2
      · obtain ⟨g2, c1, c2, c3⟩ := M_reroots (d + 1) hr hs.1 (t := a) ha'
        rw [sh_reroot] at c2
        rw [if_pos k2, c1, bi_some, if_pos (hk2.mp k2)]
        exact fin _ g2 c2 c3
      · rw [if_neg k2, if_neg (fun q => k2 (hk2.mpr q))]
        by_cases k3 : k = 3
        · obtain ⟨g2, c1, c2, c3⟩ := M_touches (d + 2) hr hs.1 (t := a) ha'
          rw [sh_touch] at c2
          rw [if_pos k3, c1, bi_some, if_pos (hk3.mp k3)]
          exact fin _ g2 c2 c3
        · obtain ⟨g2, c1, c2, c3⟩ := M_settles d hr hs.1 (x := a) ha'
          have c2 : rMa g2 3 (f_sh (f_wQ s.1 (f_settle s.1 a).2) S) := c2
          rw [if_neg k3, c1, bi_some, if_neg (fun q => k3 (hk3.mpr q))]
          exact fin _ g2 c2 c3
  · rw [if_neg e] at a3
    rw [if_pos a3.1, if_neg e]
    exact ⟨0, g1, rfl, mL.W a2, Or.inl ⟨_, rfl, ⟨rfl, a3.2⟩⟩⟩
theorem M_seedLine (d : Nat) (h : rKt g T n t) (hb : rMb g s) (h37 : g 137 0 0 = 5) : ∃ x g', am_call (d + 7) 161 [.inr (.inr (29, 0))] g = some (some (.inl x), g') ∧ mL g g' ∧ lnB g' T n x (t_seed T n s t) := by
  rw [cM_wordLine, eM_wordLine_0, h37, if_pos rfl, hb.2.2.2.2.2.1]
  unfold t_seed
  by_cases e : s.2.2.2 = true
  · obtain ⟨g', k1, k2, k3⟩ := M_wrong' (d + 5) 3 3 rfl h.2.2.1
    rw [e, if_neg b01_t, k1, bi_some, if_pos rfl]
    exact ⟨0, g', rfl, mL.W k3, Or.inl ⟨_, rfl, k2⟩⟩
  · have e' : s.2.2.2 = false := by simpa using e
    have hb' : rMb (am_put g 146 0 (1 : Int32)) (s.1, s.2.1, s.2.2.1, true) := by
      obtain ⟨⟨S, y1, y2⟩, b, c, d, e, f, i, j⟩ := hb
      have z : ∀ c, c ≠ 146 → am_put g 146 0 (1 : Int32) c 0 = g c 0 := fun c hc => m_put_ne (fun q => hc q.1)
      exact ⟨⟨S, by rw [z _ (by omega)]; exact y1, fun t ht => by rw [z _ (by omega)]; exact y2 t ht⟩, by rw [z _ (by omega)]; exact b, by rw [z _ (by omega)]; exact c, fun k x hk => by rw [z _ (by omega)]; exact d k x hk, by rw [z _ (by omega)]; exact e, m_put _ _ _ _ _, by rw [z _ (by omega)]; exact i, by rw [z _ (by omega)]; exact j⟩
    obtain ⟨g8, c1, c2, c3⟩ := M_token (d + 3) (h.1.cg (g' := am_put g 146 0 (1 : Int32)) fun c hc => m_put_ne (fun q => by have := q.1; omega))
    have hb8 := hb'.K c3
    have f8 : mL g g8 := (mL.put ⟨rfl, by omega⟩ (by omega) _).tr (mL.K c3)
    rw [e', if_pos b01_f, c1, bv_some, if_neg (show ¬ false = true by decide), t_nb]
    generalize lx T n t.2.2.1 = l at c2 ⊢
    obtain ⟨x9, g9, d1, d2, d3⟩ := M_number (d + 1) c2 hb8 0 99999
    have f9 := f8.tr (mL.W d2)
    rw [d1, bi_some]
    by_cases e6 : l.1 = 2
    · rw [if_pos e6] at d3
      rw [if_pos e6]
      by_cases e7 : 0 ≤ l.2.2.2 ∧ l.2.2.2 ≤ 99999
      · rw [if_pos e7] at d3
        obtain ⟨d4, d5, d6, d7⟩ := d3
        rw [if_neg (show ¬ x9 = 0 by rw [d4]; decide), if_pos e7, d5]
        refine ⟨1, _, rfl, f9.tr (mL.put ⟨rfl, by omega⟩ (by omega) _), Or.inr ⟨rfl, l.2.2.1, (s.1, s.2.1, l.2.2.2, true), rfl, d6.cg (fun c hc => m_put_ne (fun q => by have := q.1; omega)), ?_⟩⟩
        obtain ⟨⟨S, y1, y2⟩, b, c, d, e, f, i, j⟩ := d7
        have z : ∀ c, c ≠ 145 → am_put g9 145 0 l.2.2.2 c 0 = g9 c 0 := fun c hc => m_put_ne (fun q => hc q.1)
        exact ⟨⟨S, by rw [z _ (by omega)]; exact y1, fun t ht => by rw [z _ (by omega)]; exact y2 t ht⟩, by rw [z _ (by omega)]; exact b, by rw [z _ (by omega)]; exact c, fun k x hk => by rw [z _ (by omega)]; exact d k x hk, m_put _ _ _ _ _, by rw [z _ (by omega)]; exact f, by rw [z _ (by omega)]; exact i, by rw [z _ (by omega)]; exact j⟩
      · rw [if_neg e7] at d3
        rw [if_pos d3.1, if_neg e7]
        exact ⟨0, g9, rfl, f9, Or.inl ⟨_, rfl, ⟨rfl, d3.2⟩⟩⟩
    · rw [if_neg e6] at d3
      rw [if_pos d3.1, if_neg e6]
      exact ⟨0, g9, rfl, f9, Or.inl ⟨_, rfl, ⟨rfl, d3.2⟩⟩⟩
end MM
