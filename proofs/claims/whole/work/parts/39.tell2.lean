/-! ===== Teller: towns, lines, all ===== -/
section TE
variable {T : Nat → Int32} {n : Nat} {s : tS} {t : tk} {g : am_G}
theorem T_town_end (d : Nat) {x y : Int32} (h : rT g T n s t) (hs : tS_ok s) (hl : s.2.1.length < 24) :
    ∃ z g'', am_bi (am_call (d + 4) 73 [.inr (.inr (10, 0))] g) (fun r12 g12 =>
              if r12 = 0 then
                (some (some (Sum.inl (0 : Int32) : am_V), g12))
              else
                (am_bv (am_call (d + 4) 43 [.inr (.inr (8, 1)), .inl x] g12) (fun g13 =>
                am_bv (am_call (d + 4) 2 [.inr (.inr (1, 1)), .inl y] g13) (fun g14 =>
                some (some (Sum.inl (1 : Int32) : am_V), g14))))) = some (some (Sum.inl z : am_V), g'') ∧ rRes g'' T n (t_end T n t.2.2.1 (fun u => .inr ((f_add s.1 y, s.2.1 ++ [x], s.2.2.1, s.2.2.2), u))) z ∧ m_fr sTl g g'' := by
  refine T_end d h fun g1 h1 => ?_
  obtain ⟨g2, k1, k2, k3⟩ := N_add (d + 3) h1.2.1 hl x
  have h2 := h1.setN k3 k2
  obtain ⟨g3, l1, l2, l3⟩ := C_addTown (d + 3) h2.1 (by rw [hs.2]; exact hl) y
  rw [k1, bv_some, l1, bv_some]
  exact ⟨1, g3, rfl, ⟨rfl, h2.setF l3 l2⟩, k3.TN.tr l3.TF⟩
theorem T_tellTown (d : Nat) (h : rT g T n s t) (hs : tS_ok s) : ∃ x g'', am_call (d + 5) 65 [.inr (.inr (10, 0))] g = some (some (.inl x), g'') ∧ rRes g'' T n (t_town T n s t) x ∧ m_fr sTl g g'' := by
  have hl := h.2.1.1
  rw [cT_tellTown, eT_tellTown_0, h.2.1.2.1, show (24 : Int32) = nI 24 from rfl]
  unfold t_town
  by_cases e : 24 ≤ s.2.1.length
  · obtain ⟨g3, k1, k2, k3⟩ := T_fail (d + 3) h 2
    have k1 : am_call (d + 4) 63 [.inr (.inr (10, 0)), .inl (2 : Int32)] g = some (some (.inl 0), g3) := k1
    rw [if_neg (nI_nlt e (by omega)), if_pos e, k1, bi_some, n01, cond_true]
    exact ⟨0, g3, rfl, k2, k3⟩
  · obtain ⟨g1, h1, h2, h3⟩ := T_step (d + 1) h
    rw [if_pos (nI_lt (by omega) (by omega)), if_neg e, h1, bv_some, T_isAtName (d + 3) h2, bi_some]
    by_cases e1 : t_nm (lx T n t.2.2.1) = true
    · have hv : g1 115 0 0 = (lx T n t.2.2.1).2.2.2 := h2.2.2.1.2.2.2.1 (t_nm_1 e1)
      rw [if_neg (by rw [b01_0, e1]; simp), if_pos e1, hv, N_find (d + 3) h2.2.1, bi_some]
      by_cases e2 : n_find s.2.1 (lx T n t.2.2.1).2.2.2 = none
      · obtain ⟨g4, i1, i2, i3⟩ := T_step (d + 1) h2
        rw [if_pos ((q_ec hl rfl).mpr e2), if_pos e2, i1, bv_some]
        by_cases e3 : (lx T n (lx T n t.2.2.1).2.2.1).1 = 2 ∨ (lx T n (lx T n t.2.2.1).2.2.1).1 = 3
        · have hv2 : g4 116 0 0 = (lx T n (lx T n t.2.2.1).2.2.1).2.2.2 := i2.2.2.1.2.2.2.2 e3
          rw [if_pos e3]
          by_cases e5 : -9999 ≤ (lx T n (lx T n t.2.2.1).2.2.1).2.2.2 ∧ (lx T n (lx T n t.2.2.1).2.2.1).2.2.2 ≤ 9999
          · obtain ⟨z, g5, j1, j2, j3⟩ := T_town_end d (x := (lx T n t.2.2.1).2.2.2) (y := (lx T n (lx T n t.2.2.1).2.2.1).2.2.2) i2 hs (by omega)
            rw [if_pos e5]
            by_cases e4 : (lx T n (lx T n t.2.2.1).2.2.1).1 = 3
            · rw [if_pos (i2.kind3.mpr e4), hv2, C_isWithin_t (d + 3) g4 e5, bi_some, if_neg q_110]
              exact ⟨z, g5, j1, j2, (h3.Tl.tr i3.Tl).tr j3⟩
            · rw [if_neg (fun q => e4 (i2.kind3.mp q)), T_takesNumber_ok (d + 3) i2 (by omega), bi_some, if_neg q_110, hv2, C_isWithin_t (d + 3) g4 e5, bi_some, if_neg q_110]
              exact ⟨z, g5, j1, j2, (h3.Tl.tr i3.Tl).tr j3⟩
          · obtain ⟨g5, k1, k2, k3⟩ := T_fail (d + 3) i2 2
            have k1 : am_call (d + 4) 63 [.inr (.inr (10, 0)), .inl (2 : Int32)] g4 = some (some (.inl 0), g5) := k1
            rw [if_neg e5]
            by_cases e4 : (lx T n (lx T n t.2.2.1).2.2.1).1 = 3
            · rw [if_pos (i2.kind3.mpr e4), hv2, C_isWithin_f (d + 3) g4 e5, bi_some, if_pos rfl, k1, bi_some, n01, cond_true]
              exact ⟨0, g5, rfl, k2, (h3.Tl.tr i3.Tl).tr k3⟩
            · rw [if_neg (fun q => e4 (i2.kind3.mp q)), T_takesNumber_ok (d + 3) i2 (by omega), bi_some, if_neg q_110, hv2, C_isWithin_f (d + 3) g4 e5, bi_some, if_pos rfl, k1, bi_some, n01, cond_true]
              exact ⟨0, g5, rfl, k2, (h3.Tl.tr i3.Tl).tr k3⟩
        · obtain ⟨g5, k1, k2, k3⟩ := T_takesNumber_no (d + 2) i2 (by omega)
          rw [if_neg (fun q => e3 (Or.inr (i2.kind3.mp q))), if_neg e3, k1, bi_some, if_pos rfl]
          exact ⟨0, g5, rfl, k2, (h3.Tl.tr i3.Tl).tr k3⟩
      · obtain ⟨g2, k1, k2, k3⟩ := T_fail (d + 3) h2 3
        have k1 : am_call (d + 4) 63 [.inr (.inr (10, 0)), .inl (3 : Int32)] g1 = some (some (.inl 0), g2) := k1
        rw [if_neg (fun q => e2 ((q_ec hl rfl).mp q)), if_neg e2, k1, bi_some, n01, cond_true]
        exact ⟨0, g2, rfl, k2, h3.Tl.tr k3⟩
    · obtain ⟨g2, k1, k2, k3⟩ := T_fail (d + 3) h2 1
      have k1 : am_call (d + 4) 63 [.inr (.inr (10, 0)), .inl (1 : Int32)] g1 = some (some (.inl 0), g2) := k1
      rw [if_pos (by rw [b01_0]; simpa using e1), if_neg e1, k1, bi_some, n01, cond_true]
      exact ⟨0, g2, rfl, k2, h3.Tl.tr k3⟩
theorem rRes_01 {r : tR} {x : Int32} (h : rRes g T n r x) : am_01 x = true := by
  cases r with
  | inl e => rw [h.1]; rfl
  | inr q => rw [h.1]; rfl
theorem T_tellLine (d : Nat) (h : rT g T n s t) (hs : tS_ok s) : ∃ x g'', am_call (d + 6) 64 [.inr (.inr (10, 0))] g = some (some (.inl x), g'') ∧ rRes g'' T n (t_line T n s t) x ∧ m_fr sTl g g'' := by
  rw [cT_tellLine, eT_tellLine_0]
  unfold t_line
  obtain ⟨f, k1, k2, k3⟩ := T_fail (d + 4) h 1
  have k1 : am_call (d + 5) 63 [.inr (.inr (10, 0)), .inl (1 : Int32)] g = some (some (.inl 0), f) := k1
  by_cases e : t.1 = 1
  · have hv : g 115 0 0 = t.2.2.2 := h.2.2.1.2.2.2.1 e
    rw [if_pos (h.kind1.mpr e), if_pos e, hv]
    obtain ⟨x1, g1, a1, a2, a3⟩ := T_tellLink d h hs
    obtain ⟨x2, g2, b1, b2, b3⟩ := T_tellDeed d h hs
    obtain ⟨x3, g3, c1, c2, c3⟩ := T_tellSeed d h
    obtain ⟨x4, g4, d1, d2, d3⟩ := T_tellTown d h hs
    by_cases e1 : t.2.2.2 = 412560384
    · rw [if_pos e1, if_pos e1, a1, bi_some, rRes_01 a2, cond_true]; exact ⟨x1, g1, rfl, a2, a3⟩
    · rw [if_neg e1, if_neg e1]
      by_cases e2 : t.2.2.2 = 620220416
      · rw [if_pos e2, if_pos e2, b1, bi_some, rRes_01 b2, cond_true]; exact ⟨x2, g2, rfl, b2, b3⟩
      · rw [if_neg e2, if_neg e2]
        by_cases e3 : t.2.2.2 = 642945024
        · rw [if_pos e3, if_pos e3, c1, bi_some, rRes_01 c2, cond_true]; exact ⟨x3, g3, rfl, c2, c3⟩
        · rw [if_neg e3, if_neg e3]
          by_cases e4 : t.2.2.2 = 643453317
          · rw [if_pos e4, if_pos e4, b1, bi_some, rRes_01 b2, cond_true]; exact ⟨x2, g2, rfl, b2, b3⟩
          · rw [if_neg e4, if_neg e4]
            by_cases e5 : t.2.2.2 = 687508736
            · rw [if_pos e5, if_pos e5, b1, bi_some, rRes_01 b2, cond_true]; exact ⟨x2, g2, rfl, b2, b3⟩
            · rw [if_neg e5, if_neg e5]
              by_cases e6 : t.2.2.2 = 687585280
              · rw [if_pos e6, if_pos e6, d1, bi_some, rRes_01 d2, cond_true]; exact ⟨x4, g4, rfl, d2, d3⟩
              · rw [if_neg e6, if_neg e6, k1, bi_some, n01, cond_true]; exact ⟨0, f, rfl, k2, k3⟩
  · rw [if_neg (fun q => e (h.kind1.mp q)), if_neg e, k1, bi_some, n01, cond_true]; exact ⟨0, f, rfl, k2, k3⟩
def sTa : Nat → Nat → Prop := fun c j => sTl c j ∨ (c = 107 ∧ j = 0)
/-- a text's end: a fault, or what was told -/
def rEnd (g : am_G) (r : (Nat × Nat) ⊕ (tS × Nat)) (x : Int32) : Prop := match r with
  | .inl e => x = 0 ∧ g 108 0 0 = nI e.1 ∧ g 109 0 0 = nI e.2
  | .inr q => x = 1 ∧ rC g 1 q.1.1 ∧ rN g 1 q.1.2.1 q.1.2.2.1 q.1.2.2.2 ∧ tS_ok q.1 ∧ g 107 0 0 = nI q.2 ∧ g 108 0 0 = 0 ∧ g 109 0 0 = -1
theorem n107 : ¬ sTl 107 0 := by
  rintro (q | q | q | q)
  · have := q.2; omega
  · have := q.2; omega
  · have := q.2; omega
  · have := q.2; omega
theorem T_tell_loop (d : Nat) (x2 : Int32) : ∀ (m c k : Nat) (g : am_G) (s : tS) (t : tk), rT g T n s t → tS_ok s → g 107 0 0 = nI c → (t.1 = 0 ↔ t.2.1 = n) → t.2.1 ≤ t.2.2.1 → t.2.2.1 ≤ n → n < t.2.1 + m → c + (n - t.2.1) ≤ 700 → n - t.2.1 < k →
    ∃ x g', am_run (am_call (d + 6)) 62 k 22 [some (.inr (.inr (10, 0))), some (.inr (.inr (13, 0))), some (.inl x2), some (.inl (nI c))] [] g = some (some (.inl x), g') ∧ rEnd g' (t_all T n m s t c) x ∧ m_fr sTa g g'
  | 0, c, k, g, s, t, h, hs, h7, h0, h1, h2, hm, hc, hk => by omega
  | m + 1, c, k, g, s, t, h, hs, h7, h0, h1, h2, hm, hc, hk => by
    obtain ⟨k, rfl⟩ : ∃ k', k = k' + 1 := ⟨k - 1, by omega⟩
    have hn := h.2.2.1.1.2.2.2.1
    rw [eT_tell_22, show (700 : Int32) = nI 700 from rfl, if_neg (nI_nlt (by omega) (by omega)), t_all]
    by_cases e : t.1 = 0
    · rw [if_pos (h.kind0.mpr e), if_pos e]
      exact ⟨1, g, rfl, ⟨rfl, h.1, h.2.1, hs, h7, h.2.2.2.2.1, h.2.2.2.2.2⟩, m_fr.rf⟩
    · rw [if_neg (fun q => e (h.kind0.mp q)), if_neg e]
      obtain ⟨x, g1, k1, k2, k3⟩ := T_tellLine d h hs
      rw [k1, bi_some]
      cases hr : t_line T n s t with
      | inl er =>
        rw [hr] at k2
        obtain ⟨rfl, e8, e9⟩ := k2
        rw [if_pos rfl]
        exact ⟨0, g1, rfl, ⟨rfl, e8, e9⟩, k3.mono fun c j q => Or.inl q⟩
      | inr q =>
        obtain ⟨s', t'⟩ := q
        rw [hr] at k2
        obtain ⟨rfl, h'⟩ := k2
        obtain ⟨a1, a2, a3, a4, a5⟩ := t_line_ok hs h2 h1 hr
        have h17 : g1 107 0 0 = nI c := by rw [k3 107 0 n107]; exact h7
        have hfr : m_fr (fun c j => c = 107 ∧ j = 0) g1 (am_put g1 107 0 (nI (c + 1))) := m_fr.rf.put ⟨rfl, rfl⟩
        rw [if_neg q_110, h17, nI_1]
        have h'' : rT (am_put g1 107 0 (nI (c + 1))) T n s' t' := by
          obtain ⟨b1, b2, b3, b4, b5, b6⟩ := h'
          exact ⟨b1.fr hfr (fun c hc => by have := hc.1; omega), b2.fr hfr (fun c hc q => by have := q.1; omega), b3.fr hfr (fun c hc q => by have := q.1; omega), b4, by rw [m_put_ne (by simp)]; exact b5, by rw [m_put_ne (by simp)]; exact b6⟩
        obtain ⟨x, g2, l1, l2, l3⟩ := T_tell_loop d x2 m (c + 1) k (am_put g1 107 0 (nI (c + 1))) s' t' h'' a1 (m_put _ _ _ _ _) a4 a5 a3 (by omega) (by omega) (by omega)
        exact ⟨x, g2, l1, l2, ((k3.mono fun c j q => Or.inl q).tr (hfr.mono fun c j q => Or.inr q)).tr l3⟩
end TE
