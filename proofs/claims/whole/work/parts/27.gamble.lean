/-! ===== Gamble ===== -/
def f_chance (F : fF) (l : Nat) : fF × Nat :=
  match dv l 4 with
  | 0 => (f_touch F (dv (dw l) (fN F)), dw (dw (dw l)))
  | 1 => (f_reroot F (dv (dw l) (fN F)), dw (dw (dw l)))
  | 2 => if f_r (fP F) (dv (dw l) (fN F)) = f_r (fP F) (dv (dw (dw l)) (fN F)) then (F, dw (dw (dw l))) else (f_link F (dv (dw l) (fN F)) (dv (dw (dw l)) (fN F)) (dv (dw (dw (dw l))) 100 + 1) 1, dw (dw (dw (dw l))))
  | _ => (f_cutd F (f_way (fP F) (dv (dw l) (fN F)) (dv (dw (dw l)) (fN F))), dw (dw (dw l)))
theorem dv_lt (l : Nat) {n : Nat} (h : 0 < n) : dv l n < n := Nat.mod_lt _ h
def sB : Nat → Nat → Prop := fun c j => sF 3 c j ∨ sY 1 c j ∨ (c = 122 ∧ j = 0)
theorem wf_chance {F : fF} (hw : f_wf F) (h0 : 0 < fN F) (l : Nat) : f_wf (f_chance F l).1 ∧ fN (f_chance F l).1 = fN F := by
  have ha := dv_lt (dw l) h0
  have hb := dv_lt (dw (dw l)) h0
  unfold f_chance
  split
  · exact ⟨wf_touch hw ha, rfl⟩
  · exact ⟨wf_reroot hw ha, rr_N.1⟩
  · split
    · exact ⟨hw, rfl⟩
    · rename_i hr
      have := dv_lt (dw (dw (dw l))) (n := 100) (by omega)
      exact ⟨wf_link hw ha hb hr ⟨by omega, by omega⟩ (by omega), wk_N (a := dv (dw l) (fN F)) (b := dv (dw (dw l)) (fN F))⟩
  · exact wf_cutd hw (f_way_lt hw.2.1 hw.1 ha hb) (f_way_lks hw.2.1 hw.1 ha hb)
theorem B_start {g : am_G} {F : fF} (d : Nat) (h : rC g 0 F) (hw : f_wf F) (x : Int32) : ∃ g', am_call (d + 2) 35 [.inr (.inr (28, 0)), .inr (.inr (1, 0)), .inl x] g = some (none, g') ∧ rC g' 3 (fN F, fP F, fQ F, fL F, fC F, fV F, 0) ∧ g' 122 0 0 = x ∧ m_fr sB g g' := by
  obtain ⟨g1, k1, k2, k3⟩ := C_copyFrom (i := 3) (j := 0) d h hw (by omega)
  rw [cB_start, eB_start_0, k1, bv_some]
  refine ⟨_, rfl, (k2.setS 0).cg fun c hc => m_put_ne (by omega), m_put _ _ _ _ _, ((k3.mono fun c j q => Or.inl q).put (Or.inl ⟨rfl, by omega⟩)).put (Or.inr (Or.inr ⟨rfl, rfl⟩))⟩
theorem q_d4 {l : Nat} : dv l 4 = 0 ∨ dv l 4 = 1 ∨ dv l 4 = 2 ∨ dv l 4 = 3 := by
  have := dv_lt l (n := 4) (by omega)
  omega
theorem q_n4 : (4 : Int32) = nI 4 := rfl
theorem q_n100 : (100 : Int32) = nI 100 := rfl
theorem B_doOne {g : am_G} {F : fF} {l : Nat} (d : Nat) (h : rC g 3 F) (hw : f_wf F) (h0 : 0 < fN F) (hl : g 122 0 0 = nI l) :
    ∃ g', am_call (d + 6) 37 [.inr (.inr (28, 0))] g = some (none, g') ∧ rC g' 3 (f_chance F l).1 ∧ g' 122 0 0 = nI (f_chance F l).2 ∧ m_fr sB g g' := by
  have ha := dv_lt (dw l) h0
  have hb := dv_lt (dw (dw l)) h0
  have hn := hw.1
  have p122 : ∀ {g' : am_G} {x : Int32}, m_fr sB g g' → m_fr sB g (am_put g' 122 0 x) := fun hf => hf.put (Or.inr (Or.inr ⟨rfl, rfl⟩))
  have c122 : ∀ {g' : am_G} {x : Int32} {G : fF}, rC g' 3 G → rC (am_put g' 122 0 x) 3 G := fun hc => hc.cg fun c hc => m_put_ne (by omega)
  have e102 : ∀ {g' : am_G} {x : Int32}, am_put g' 122 0 x 102 3 0 = g' 102 3 0 := fun {g' x} => by rw [m_put_ne (by simp)]
  rw [cB_doOne, eB_doOne_0, q_n4, B_draw (d + 4) hl (by omega) (by omega), bi_some, e102, h.1, B_draw (d + 4) (m_put _ _ _ _ _) h0 (by omega), bi_some, e102, e102, h.1, B_draw (d + 4) (m_put _ _ _ _ _) h0 (by omega), bi_some]
  have hc3 := c122 (x := nI (dw (dw (dw l)))) (c122 (x := nI (dw (dw l))) (c122 (x := nI (dw l)) h))
  have hf3 := p122 (x := nI (dw (dw (dw l)))) (p122 (x := nI (dw (dw l))) (p122 (x := nI (dw l)) m_fr.rf))
  have hv3 : (am_put (am_put (am_put g 122 0 (nI (dw l))) 122 0 (nI (dw (dw l)))) 122 0 (nI (dw (dw (dw l))))) 122 0 0 = nI (dw (dw (dw l))) := m_put _ _ _ _ _
  generalize am_put (am_put (am_put g 122 0 (nI (dw l))) 122 0 (nI (dw (dw l)))) 122 0 (nI (dw (dw (dw l)))) = g3 at hc3 hf3 hv3
  have hfF : ∀ {g1 g2 : am_G}, m_fr (sF 3) g1 g2 → m_fr sB g1 g2 := fun q => q.mono fun c j q => Or.inl q
  have h122 : ∀ {g1 g2 : am_G}, m_fr (sF 3) g1 g2 → g2 122 0 0 = g1 122 0 0 := fun q => by rw [q 122 0 (fun q => by have := q.1; omega)]
  unfold f_chance
  rcases q_d4 (l := l) with e | e | e | e <;> rw [e]
  · obtain ⟨g4, k1, k2, k3⟩ := C_touchAt (d + 4) hc3 hw ha
    rw [if_pos nI_0, k1, bv_some]
    exact ⟨g4, rfl, k2, (h122 k3).trans hv3, hf3.tr (hfF k3)⟩
  · obtain ⟨g4, k1, k2, k3⟩ := C_rerootAt (d + 3) hc3 hw ha
    rw [if_neg (nI_ne0 (by omega) (by omega)), if_pos q_n1.symm, k1, bv_some]
    exact ⟨g4, rfl, k2, (h122 k3).trans hv3, hf3.tr (hfF k3)⟩
  · rw [if_neg (nI_ne0 (by omega) (by omega)), if_neg (by decide), if_pos q_n2.symm, C_hangTogether (d + 3) hc3 hw ha hb, bi_some]
    by_cases hr : f_r (fP F) (dv (dw l) (fN F)) = f_r (fP F) (dv (dw (dw l)) (fN F))
    · rw [if_pos hr, if_neg (by decide), if_pos hr]
      exact ⟨g3, rfl, hc3, hv3, hf3⟩
    · obtain ⟨g4, k1, k2, k3⟩ := C_linkUnder (d + 1) (c122 (x := nI (dw (dw (dw (dw l))))) hc3) hw ha hb (dv (dw (dw (dw l))) 100 + 1) 1
      rw [if_neg hr, if_pos rfl, if_neg hr, q_n100, B_draw (d + 4) hv3 (by omega) (by omega), bi_some, nI_1, q_n1, k1, bv_some]
      refine ⟨g4, rfl, k2, (h122 k3).trans (m_put _ _ _ _ _), (p122 hf3).tr (hfF k3)⟩
  · obtain ⟨g4, k1, k2, k3⟩ := C_lay (w := 1) (d + 2) hc3 hw ha hb
    have hc4 := hc3.sY k3
    obtain ⟨g5, l1, l2, l3⟩ := C_cutDearestLink d hc4 hw k2 (f_way_lt hw.2.1 hw.1 ha hb) (f_way_nd hw ha hb).2 (f_way_lks hw.2.1 hw.1 ha hb)
    rw [if_neg (nI_ne0 (by omega) (by omega)), if_neg (by decide), if_neg (by decide), k1, bv_some, l1, bv_some]
    refine ⟨g5, rfl, l2, (h122 l3).trans ?_, (hf3.tr (k3.mono fun c j q => Or.inr (Or.inl q))).tr (hfF l3)⟩
    rw [k3 122 0 (fun q => by have := q.2; omega)]
    exact hv3
