/-! ===== Teller ===== -/
theorem lx_kind (T : Nat → Int32) (n p : Nat) : (lx T n p).1 ≤ 5 := by
  unfold lx lx1
  split
  · dsimp only; omega
  · split
    · dsimp only; split <;> omega
    · split
      · dsimp only; omega
      · split
        · dsimp only; omega
        · dsimp only; split <;> omega
def sTl : Nat → Nat → Prop := fun c j => sF 1 c j ∨ sN 1 c j ∨ sR c j ∨ (j = 0 ∧ (c = 108 ∨ c = 109))
def rT (g : am_G) (T : Nat → Int32) (n : Nat) (s : tS) (t : tk) : Prop := rC g 1 s.1 ∧ rN g 1 s.2.1 s.2.2.1 s.2.2.2 ∧ rTk g T n t ∧ t.1 ≤ 5 ∧ g 108 0 0 = 0 ∧ g 109 0 0 = -1
def rRes (g : am_G) (T : Nat → Int32) (n : Nat) (r : tR) (x : Int32) : Prop := match r with
  | .inl e => x = 0 ∧ g 108 0 0 = nI e.1 ∧ g 109 0 0 = nI e.2
  | .inr q => x = 1 ∧ rT g T n q.1 q.2
section TE
variable {T : Nat → Int32} {n : Nat} {s : tS} {t : tk} {g : am_G}
theorem rTk.fr {g' : am_G} {S : Nat → Nat → Prop} (h : rTk g T n t) (hf : m_fr S g g') (h1 : ∀ c, (110 ≤ c ∧ c ≤ 116 ∨ c = 13) → ¬ S c 0) : rTk g' T n t := by
  obtain ⟨⟨a0, a1, a2, a3, a4, a5⟩, b1, b2, b3, b4⟩ := h
  refine ⟨⟨by rw [hf 110 0 (h1 _ (by omega))]; exact a0, by rw [hf 111 0 (h1 _ (by omega))]; exact a1, by rw [hf 112 0 (h1 _ (by omega))]; exact a2, a3, a4, fun k hk => by rw [hf 13 0 (h1 _ (by omega))]; exact a5 k hk⟩, by rw [hf 113 0 (h1 _ (by omega))]; exact b1, by rw [hf 114 0 (h1 _ (by omega))]; exact b2, fun q => by rw [hf 115 0 (h1 _ (by omega))]; exact b3 q, fun q => by rw [hf 116 0 (h1 _ (by omega))]; exact b4 q⟩
theorem rC.sR {i : Nat} {F : fF} {g' : am_G} (h : rC g i F) (hf : m_fr sR g g') : rC g' i F := h.fr hf (fun c hc => by have := hc.2; omega)
theorem rN.sR {i : Nat} {L : List Int32} {x : Int32} {b : Bool} {g' : am_G} (h : rN g i L x b) (hf : m_fr sR g g') : rN g' i L x b := h.fr hf (fun c hc q => by have := q.2; omega)
theorem m_fr.Tl {g' : am_G} (h : m_fr sR g g') : m_fr sTl g g' := h.mono fun c j q => Or.inr (Or.inr (Or.inl q))
theorem T_fail (d : Nat) (h : rT g T n s t) (e : Nat) : ∃ g', am_call (d + 1) 63 [.inr (.inr (10, 0)), .inl (nI e)] g = some (some (.inl 0), g') ∧ rRes g' T n (.inl (e, t.2.1)) 0 ∧ m_fr sTl g g' := by
  rw [cT_fail, eT_fail_0, m_put_ne (by simp), h.2.2.1.2.2.1]
  refine ⟨_, rfl, ⟨rfl, ?_, m_put _ _ _ _ _⟩, (m_fr.rf.put (Or.inr (Or.inr (Or.inr ⟨rfl, Or.inl rfl⟩)))).put (Or.inr (Or.inr (Or.inr ⟨rfl, Or.inr rfl⟩)))⟩
  rw [m_put_ne (by simp), m_put]
theorem T_step (d : Nat) (h : rT g T n s t) : ∃ g', am_call (d + 3) 46 [.inr (.inr (11, 0))] g = some (none, g') ∧ rT g' T n s (lx T n t.2.2.1) ∧ m_fr sR g g' := by
  obtain ⟨h1, h2, h3, h4, h5, h6⟩ := h
  obtain ⟨g', k1, k2, k3⟩ := R_step d h3.1
  exact ⟨g', k1, ⟨h1.sR k3, h2.sR k3, k2, lx_kind _ _ _, by rw [k3 108 0 (fun q => by have := q.2; omega)]; exact h5, by rw [k3 109 0 (fun q => by have := q.2; omega)]; exact h6⟩, k3⟩
theorem rT.kind (h : rT g T n s t) (k : Nat) (hk : k ≤ 5) : g 113 0 0 = nI k ↔ t.1 = k := by
  rw [h.2.2.1.2.1, nI_eq (by have := h.2.2.2.1; omega) (by omega)]
theorem rT.kind0 (h : rT g T n s t) : g 113 0 0 = 0 ↔ t.1 = 0 := h.kind 0 (by omega)
theorem rT.kind1 (h : rT g T n s t) : g 113 0 0 = 1 ↔ t.1 = 1 := h.kind 1 (by omega)
theorem rT.kind2 (h : rT g T n s t) : g 113 0 0 = 2 ↔ t.1 = 2 := h.kind 2 (by omega)
theorem rT.kind3 (h : rT g T n s t) : g 113 0 0 = 3 ↔ t.1 = 3 := h.kind 3 (by omega)
theorem rT.kind4 (h : rT g T n s t) : g 113 0 0 = 4 ↔ t.1 = 4 := h.kind 4 (by omega)
theorem T_isAtName (d : Nat) (h : rT g T n s t) : am_call (d + 1) 69 [.inr (.inr (10, 0))] g = some (some (.inl (b01 (t_nm t))), g) := by
  rw [cT_isAtName, eT_isAtName_0]
  unfold t_nm
  by_cases e : t.1 = 1
  · rw [if_pos (h.kind1.mpr e), h.2.2.1.2.2.2.1 e, decide_eq_true e, Bool.true_and]
    unfold isKw
    by_cases e1 : t.2.2.2 = 412560384
    · rw [if_pos e1, decide_eq_true e1]; rfl
    · rw [if_neg e1, decide_eq_false e1, Bool.false_or]
      by_cases e2 : t.2.2.2 = 620220416
      · rw [if_pos e2, decide_eq_true e2]; rfl
      · rw [if_neg e2, decide_eq_false e2, Bool.false_or]
        by_cases e3 : t.2.2.2 = 642945024
        · rw [if_pos e3, decide_eq_true e3]; rfl
        · rw [if_neg e3, decide_eq_false e3, Bool.false_or]
          by_cases e4 : t.2.2.2 = 643453317
          · rw [if_pos e4, decide_eq_true e4]; rfl
          · rw [if_neg e4, decide_eq_false e4, Bool.false_or]
            by_cases e5 : t.2.2.2 = 687508736
            · rw [if_pos e5, decide_eq_true e5]; rfl
            · rw [if_neg e5, decide_eq_false e5, Bool.false_or]
              by_cases e6 : t.2.2.2 = 687585280
              · rw [if_pos e6, decide_eq_true e6]; rfl
              · rw [if_neg e6, decide_eq_false e6]; rfl
  · rw [if_neg (fun q => e (h.kind1.mp q)), decide_eq_false e]; rfl
theorem t_nm_1 (h : t_nm t = true) : t.1 = 1 := by
  unfold t_nm at h
  rw [Bool.and_eq_true] at h
  exact of_decide_eq_true h.1
theorem q_ec {o : Option Nat} {L : List Int32} {x : Int32} (hl : L.length ≤ 24) (h : n_find L x = o) : eC o = -1 ↔ o = none := eC_m1 fun p hp => by
  subst h
  have := n_find_lt hp
  omega
theorem n01 : am_01 (0 : Int32) = true := rfl
theorem T_tw (d : Nat) {K : Int32 → am_G → Option am_R} {k : Nat → tk → tR} (h : rT g T n s t) (hK : ∀ a g', a < s.2.1.length → rT g' T n s (lx T n t.2.2.1) → ∃ x g'', K (nI a) g' = some (some (.inl x), g'') ∧ rRes g'' T n (k a (lx T n t.2.2.1)) x ∧ m_fr sTl g' g'') :
    ∃ x g'', am_bv (am_call (d + 4) 46 [.inr (.inr (11, 0))] g) (fun g1 => am_bi (am_call (d + 4) 70 [.inr (.inr (10, 0))] g1) (fun r2 g2 => if r2 = 0 then some (some (.inl (0 : Int32)), g2) else am_bi (am_call (d + 4) 44 [.inr (.inr (8, 1)), .inl (g2 115 0 0)] g2) K)) = some (some (.inl x), g'') ∧ rRes g'' T n (t_tw T n s.2.1 t.2.2.1 k) x ∧ m_fr sTl g g'' := by
  obtain ⟨g1, h1, h2, h3⟩ := T_step (d + 1) h
  rw [h1, bv_some, cT_takesTown, eT_takesTown_0, T_isAtName (d + 2) h2, bi_some]
  unfold t_tw
  by_cases e : t_nm (lx T n t.2.2.1) = true
  · have hv : g1 115 0 0 = (lx T n t.2.2.1).2.2.2 := h2.2.2.1.2.2.2.1 (t_nm_1 e)
    rw [if_neg (by rw [b01_0, e]; simp), if_pos e, N_find (d + 2) h2.2.1, bi_some, hv]
    cases hf : n_find s.2.1 (lx T n t.2.2.1).2.2.2 with
    | none =>
      obtain ⟨g2, k1, k2, k3⟩ := T_fail (d + 2) h2 4
      have k1 : am_call (d + 3) 63 [.inr (.inr (10, 0)), .inl (4 : Int32)] g1 = some (some (.inl 0), g2) := k1
      rw [eC_none, if_pos rfl, k1, bi_some, if_pos rfl, bi_some, if_pos rfl]
      exact ⟨0, g2, rfl, k2, h3.Tl.tr k3⟩
    | some a =>
      have ha := n_find_lt hf
      have hl := h2.2.1.1
      rw [eC_some, if_neg (q_ne1 (by omega)), bi_some, if_neg q_110, hv, N_find (d + 3) h2.2.1, bi_some, hf, eC_some]
      obtain ⟨x, g2, k1, k2, k3⟩ := hK a g1 ha h2
      exact ⟨x, g2, k1, k2, h3.Tl.tr k3⟩
  · obtain ⟨g2, k1, k2, k3⟩ := T_fail (d + 2) h2 1
    have k1 : am_call (d + 3) 63 [.inr (.inr (10, 0)), .inl (1 : Int32)] g1 = some (some (.inl 0), g2) := k1
    rw [if_pos (by rw [b01_0]; simpa using e), if_neg e, k1, bi_some, n01, cond_true, bi_some, if_pos rfl]
    exact ⟨0, g2, rfl, k2, h3.Tl.tr k3⟩
theorem T_takesNumber_ok (d : Nat) (h : rT g T n s t) (e : t.1 = 2) : am_call (d + 1) 71 [.inr (.inr (10, 0))] g = some (some (.inl 1), g) := by
  rw [cT_takesNumber, eT_takesNumber_0, if_pos (h.kind2.mpr e)]
theorem T_takesNumber_no (d : Nat) (h : rT g T n s t) (e : t.1 ≠ 2) : ∃ g', am_call (d + 2) 71 [.inr (.inr (10, 0))] g = some (some (.inl 0), g') ∧ rRes g' T n (.inl (1, t.2.1)) 0 ∧ m_fr sTl g g' := by
  obtain ⟨g2, k1, k2, k3⟩ := T_fail d h 1
  have k1 : am_call (d + 1) 63 [.inr (.inr (10, 0)), .inl (1 : Int32)] g = some (some (.inl 0), g2) := k1
  rw [cT_takesNumber, eT_takesNumber_0, if_neg (fun q => e (h.kind2.mp q)), k1, bi_some, if_pos rfl]
  exact ⟨g2, rfl, k2, k3⟩
theorem T_nb (d : Nat) {lo hi : Int32} {K : am_G → Option am_R} {k : tk → tR} (h : rT g T n s t) (hK : ∀ g', rT g' T n s (lx T n t.2.2.1) → (lx T n t.2.2.1).1 = 2 → lo ≤ (lx T n t.2.2.1).2.2.2 ∧ (lx T n t.2.2.1).2.2.2 ≤ hi → ∃ x g'', K g' = some (some (.inl x), g'') ∧ rRes g'' T n (k (lx T n t.2.2.1)) x ∧ m_fr sTl g' g'') :
    ∃ x g'', am_bv (am_call (d + 4) 46 [.inr (.inr (11, 0))] g) (fun g1 => am_bi (am_call (d + 4) 72 [.inr (.inr (10, 0)), .inl lo, .inl hi] g1) (fun r2 g2 => if r2 = 0 then some (some (.inl (0 : Int32)), g2) else K g2)) = some (some (.inl x), g'') ∧ rRes g'' T n (t_nb T n t.2.2.1 lo hi k) x ∧ m_fr sTl g g'' := by
  obtain ⟨g1, h1, h2, h3⟩ := T_step (d + 1) h
  rw [h1, bv_some, cT_takesNumberWithin, eT_takesNumberWithin_0]
  unfold t_nb
  by_cases e : (lx T n t.2.2.1).1 = 2
  · have hv : g1 116 0 0 = (lx T n t.2.2.1).2.2.2 := h2.2.2.1.2.2.2.2 (Or.inl e)
    rw [if_pos e, T_takesNumber_ok (d + 2) h2 e, bi_some, if_neg q_110, hv]
    by_cases e2 : lo ≤ (lx T n t.2.2.1).2.2.2 ∧ (lx T n t.2.2.1).2.2.2 ≤ hi
    · rw [if_pos e2, C_isWithin_t (d + 2) g1 e2, bi_some, if_neg q_110, bi_some, if_neg q_110]
      obtain ⟨x, g2, k1, k2, k3⟩ := hK g1 h2 e e2
      exact ⟨x, g2, k1, k2, h3.Tl.tr k3⟩
    · obtain ⟨g2, k1, k2, k3⟩ := T_fail (d + 2) h2 2
      have k1 : am_call (d + 3) 63 [.inr (.inr (10, 0)), .inl (2 : Int32)] g1 = some (some (.inl 0), g2) := k1
      rw [if_neg e2, C_isWithin_f (d + 2) g1 e2, bi_some, if_pos rfl, k1, bi_some, if_pos rfl, bi_some, if_pos rfl]
      exact ⟨0, g2, rfl, k2, h3.Tl.tr k3⟩
  · obtain ⟨g2, k1, k2, k3⟩ := T_takesNumber_no (d + 1) h2 e
    rw [if_neg e, k1, bi_some, if_pos rfl, bi_some, if_pos rfl]
    exact ⟨0, g2, rfl, k2, h3.Tl.tr k3⟩
theorem T_endsLine_ok (d : Nat) (h : rT g T n s t) (e : (lx T n t.2.2.1).1 = 4) : ∃ g', am_call (d + 4) 73 [.inr (.inr (10, 0))] g = some (some (.inl 1), g') ∧ rT g' T n s (lx T n (lx T n t.2.2.1).2.2.1) ∧ m_fr sR g g' := by
  obtain ⟨g1, h1, h2, h3⟩ := T_step d h
  obtain ⟨g2, h4, h5, h6⟩ := T_step d h2
  rw [cT_endsLine, eT_endsLine_0, h1, bv_some, if_pos (h2.kind4.mpr e), h4, bv_some]
  exact ⟨g2, rfl, h5, h3.tr h6⟩
theorem T_endsLine_no (d : Nat) (h : rT g T n s t) (e : ¬ (lx T n t.2.2.1).1 = 4) : ∃ g', am_call (d + 4) 73 [.inr (.inr (10, 0))] g = some (some (.inl 0), g') ∧ rRes g' T n (.inl (1, (lx T n t.2.2.1).2.1)) 0 ∧ m_fr sTl g g' := by
  obtain ⟨g1, h1, h2, h3⟩ := T_step d h
  obtain ⟨g2, k1, k2, k3⟩ := T_fail (d + 2) h2 1
  have k1 : am_call (d + 3) 63 [.inr (.inr (10, 0)), .inl (1 : Int32)] g1 = some (some (.inl 0), g2) := k1
  rw [cT_endsLine, eT_endsLine_0, h1, bv_some, if_neg (fun q => e (h2.kind4.mp q)), k1, bi_some, n01, cond_true]
  exact ⟨g2, rfl, k2, h3.Tl.tr k3⟩
theorem T_end (d : Nat) {K : am_G → Option am_R} {k : tk → tR} (h : rT g T n s t) (hK : ∀ g', rT g' T n s (lx T n (lx T n t.2.2.1).2.2.1) → ∃ x g'', K g' = some (some (.inl x), g'') ∧ rRes g'' T n (k (lx T n (lx T n t.2.2.1).2.2.1)) x ∧ m_fr sTl g' g'') :
    ∃ x g'', am_bi (am_call (d + 4) 73 [.inr (.inr (10, 0))] g) (fun r2 g2 => if r2 = 0 then some (some (.inl (0 : Int32)), g2) else K g2) = some (some (.inl x), g'') ∧ rRes g'' T n (t_end T n t.2.2.1 k) x ∧ m_fr sTl g g'' := by
  unfold t_end
  by_cases e : (lx T n t.2.2.1).1 = 4
  · obtain ⟨g1, h1, h2, h3⟩ := T_endsLine_ok d h e
    obtain ⟨x, g2, k1, k2, k3⟩ := hK g1 h2
    rw [h1, bi_some, if_neg q_110, if_pos e]
    exact ⟨x, g2, k1, k2, h3.Tl.tr k3⟩
  · obtain ⟨g1, h1, h2, h3⟩ := T_endsLine_no d h e
    rw [h1, bi_some, if_pos rfl, if_neg e]
    exact ⟨0, g1, rfl, h2, h3⟩
theorem rT.setF {g' : am_G} {F' : fF} (h : rT g T n s t) (hf : m_fr (sF 1) g g') (hc : rC g' 1 F') : rT g' T n (F', s.2) t := by
  obtain ⟨h1, h2, h3, h4, h5, h6⟩ := h
  exact ⟨hc, h2.fr hf (fun c hc q => by have := q.2; omega), h3.fr hf (fun c hc q => by have := q.1; omega), h4, by rw [hf 108 0 (fun q => by have := q.1; omega)]; exact h5, by rw [hf 109 0 (fun q => by have := q.1; omega)]; exact h6⟩
theorem rT.setN {g' : am_G} {L : List Int32} {x : Int32} {b : Bool} (h : rT g T n s t) (hf : m_fr (sN 1) g g') (hc : rN g' 1 L x b) : rT g' T n (s.1, L, x, b) t := by
  obtain ⟨h1, h2, h3, h4, h5, h6⟩ := h
  exact ⟨h1.fr hf (fun c hc => by have := hc.2; omega), hc, h3.fr hf (fun c hc q => by have := q.1; omega), h4, by rw [hf 108 0 (fun q => by have := q.1; omega)]; exact h5, by rw [hf 109 0 (fun q => by have := q.1; omega)]; exact h6⟩
theorem m_fr.TF {g' : am_G} (h : m_fr (sF 1) g g') : m_fr sTl g g' := h.mono fun c j q => Or.inl q
theorem m_fr.TN {g' : am_G} (h : m_fr (sN 1) g g') : m_fr sTl g g' := h.mono fun c j q => Or.inr (Or.inl q)
theorem T_tellDeed (d : Nat) (h : rT g T n s t) (hs : tS_ok s) : ∃ x g'', am_call (d + 5) 67 [.inr (.inr (10, 0)), .inl t.2.2.2] g = some (some (.inl x), g'') ∧ rRes g'' T n (t_deed T n s t) x ∧ m_fr sTl g g'' := by
  rw [cT_tellDeed, eT_tellDeed_0]
  unfold t_deed
  refine T_tw d h fun a g1 ha h1 => ?_
  have haF : a < fN s.1 := by rw [hs.2]; exact ha
  refine T_end d h1 fun g2 h2 => ?_
  rw [C_has_t (d + 3) h2.1 hs.1 haF, bi_some, if_neg q_110]
  by_cases e1 : t.2.2.2 = 620220416
  · obtain ⟨g3, k1, k2, k3⟩ := C_rerootAt (d + 2) h2.1 hs.1 haF
    rw [if_pos e1, if_pos e1, k1, bv_some]
    exact ⟨1, g3, rfl, ⟨rfl, h2.setF k3 k2⟩, k3.TF⟩
  · rw [if_neg e1, if_neg e1]
    by_cases e2 : t.2.2.2 = 687508736
    · obtain ⟨g3, k1, k2, k3⟩ := C_touchAt (d + 3) h2.1 hs.1 haF
      rw [if_pos e2, if_pos e2, k1, bv_some]
      exact ⟨1, g3, rfl, ⟨rfl, h2.setF k3 k2⟩, k3.TF⟩
    · obtain ⟨g3, k1, k2, -, k3⟩ := C_settleTreeOf (d + 2) h2.1 hs.1 haF
      rw [if_neg e2, if_neg e2, k1, bi_some]
      exact ⟨1, g3, rfl, ⟨rfl, h2.setF k3 k2⟩, k3.TF⟩
theorem T_tellLink (d : Nat) (h : rT g T n s t) (hs : tS_ok s) : ∃ x g'', am_call (d + 5) 66 [.inr (.inr (10, 0))] g = some (some (.inl x), g'') ∧ rRes g'' T n (tl_link T n s t) x ∧ m_fr sTl g g'' := by
  rw [cT_tellLink, eT_tellLink_0]
  unfold tl_link
  refine T_tw d h fun a g1 ha h1 => ?_
  have haF : a < fN s.1 := by rw [hs.2]; exact ha
  refine T_tw d h1 fun b g2 hb h2 => ?_
  have hbF : b < fN s.1 := by rw [hs.2]; exact hb
  rw [C_hasBoth_t (d + 2) h2.1 hs.1 haF hbF, bi_some, if_neg q_110, C_hangTogether (d + 2) h2.1 hs.1 haF hbF, bi_some]
  by_cases e : f_r (fP s.1) a = f_r (fP s.1) b
  · obtain ⟨g3, k1, k2, k3⟩ := T_fail (d + 3) h2 3
    have k1 : am_call (d + 4) 63 [.inr (.inr (10, 0)), .inl (3 : Int32)] g2 = some (some (.inl 0), g3) := k1
    rw [if_pos e, if_neg q_110, if_pos e, k1, bi_some, n01, cond_true]
    exact ⟨0, g3, rfl, k2, k3⟩
  · rw [if_neg e, if_pos rfl, if_neg e]
    refine T_nb d h2 fun g3 h3 l1 l2 => ?_
    refine T_nb d h3 fun g4 h4 c1 c2 => ?_
    refine T_end d h4 fun g5 h5 => ?_
    have v1 := h3.2.2.1.2.2.2.2 (Or.inl l1)
    have v2 := h4.2.2.1.2.2.2.2 (Or.inl c1)
    have q1 := (q_clamp (lo := 1) (hi := 9999) (by omega) (by omega) l2).1
    have q2 := (q_clamp (lo := 1) (hi := 9999) (by omega) (by omega) c2).1
    obtain ⟨g6, k1, k2, k3⟩ := C_linkUnder d h5.1 hs.1 haF hbF (lx T n (lx T n (lx T n t.2.2.1).2.2.1).2.2.1).2.2.2.toNatClampNeg (lx T n (lx T n (lx T n (lx T n t.2.2.1).2.2.1).2.2.1).2.2.1).2.2.2.toNatClampNeg
    rw [← q1, ← q2] at k1
    rw [v1, v2, k1, bv_some]
    exact ⟨1, g6, rfl, ⟨rfl, h5.setF k3 k2⟩, k3.TF⟩
theorem T_tellSeed (d : Nat) (h : rT g T n s t) : ∃ x g'', am_call (d + 5) 68 [.inr (.inr (10, 0))] g = some (some (.inl x), g'') ∧ rRes g'' T n (t_seed T n s t) x ∧ m_fr sTl g g'' := by
  rw [cT_tellSeed, eT_tellSeed_0, h.2.1.2.2.2.2]
  unfold t_seed
  by_cases e : s.2.2.2 = true
  · obtain ⟨g3, k1, k2, k3⟩ := T_fail (d + 3) h 3
    have k1 : am_call (d + 4) 63 [.inr (.inr (10, 0)), .inl (3 : Int32)] g = some (some (.inl 0), g3) := k1
    rw [if_neg (by rw [b01_0, e]; simp), if_pos e, k1, bi_some, n01, cond_true]
    exact ⟨0, g3, rfl, k2, k3⟩
  · rw [if_pos (by rw [b01_0]; simpa using e), if_neg e]
    refine T_nb d h fun g1 h1 l1 l2 => ?_
    have v1 := h1.2.2.1.2.2.2.2 (Or.inl l1)
    have hf : m_fr (sN 1) g1 (am_put (am_put g1 105 1 (lx T n t.2.2.1).2.2.2) 106 1 (1 : Int32)) := (m_fr.rf.put ⟨rfl, by omega⟩).put ⟨rfl, by omega⟩
    have hN : rN (am_put (am_put g1 105 1 (lx T n t.2.2.1).2.2.2) 106 1 (1 : Int32)) 1 s.2.1 (lx T n t.2.2.1).2.2.2 true := by
      obtain ⟨a1, a2, a3, a4, a5⟩ := h1.2.1
      refine ⟨a1, ?_, fun k x hk => ?_, ?_, m_put _ _ _ _ _⟩
      · rw [m_put_ne (by simp), m_put_ne (by simp)]; exact a2
      · rw [m_put_ne (by simp), m_put_ne (by simp)]; exact a3 k x hk
      · rw [m_put_ne (by simp), m_put]
    have h2 := h1.setN hf hN
    rw [v1]
    unfold t_end
    by_cases e4 : (lx T n (lx T n t.2.2.1).2.2.1).1 = 4
    · obtain ⟨g3, k1, k2, k3⟩ := T_endsLine_ok d h2 e4
      rw [k1, bi_some, if_pos e4]
      exact ⟨1, g3, rfl, ⟨rfl, k2⟩, hf.TN.tr k3.Tl⟩
    · obtain ⟨g3, k1, k2, k3⟩ := T_endsLine_no d h2 e4
      rw [k1, bi_some, if_neg e4]
      exact ⟨0, g3, rfl, k2, hf.TN.tr k3⟩
end TE
