/-! ===== the model: walk ===== -/
def mn1 (o : Option Nat) (v : Nat) : Option Nat := match o with
  | none => some v
  | some c => if c ≤ v then some c else some v
theorem fo_foldl {β : Type} (f : β → Nat → β) (ws : List Nat) : ∀ (m t : Nat) (b : β), t + m = ws.length → fo (fun b t => f b (ws.getD t 0)) b t m = (ws.drop t).foldl f b
  | 0, t, b, h => by rw [List.drop_eq_nil_of_le (by omega)]; rfl
  | m + 1, t, b, h => by
    have ht : t < ws.length := by omega
    rw [fo, fo_foldl f ws m (t + 1) _ (by omega), List.drop_eq_getElem_cons ht, List.foldl_cons, List.getD_eq_getElem?_getD, List.getElem?_eq_getElem ht]
    rfl
theorem f_mn_fl (ws : List Nat) : f_mn ws = ws.foldl mn1 none := by
  have := fo_foldl mn1 ws ws.length 0 none (by omega)
  rw [List.drop_zero] at this
  exact this
theorem mn1_ok : ∀ (ws : List Nat) (o : Option Nat), (ws.foldl mn1 o = none ↔ ws = [] ∧ o = none) ∧ ∀ v, ws.foldl mn1 o = some v → (v ∈ ws ∨ o = some v) ∧ (∀ u ∈ ws, v ≤ u) ∧ ∀ u, o = some u → v ≤ u
  | [], o => by
    refine ⟨⟨fun h => ⟨rfl, h⟩, fun h => h.2⟩, fun v h => ⟨Or.inr h, fun u hu => (by cases hu), fun u hu => ?_⟩⟩
    have h : o = some v := h
    rw [h] at hu
    cases hu
    exact Nat.le_refl _
  | x :: ws, o => by
    obtain ⟨h1, h2⟩ := mn1_ok ws (mn1 o x)
    have hx : ∃ c, mn1 o x = some c ∧ c ≤ x ∧ (c = x ∨ o = some c) ∧ ∀ u, o = some u → c ≤ u := by
      cases o with
      | none => exact ⟨x, rfl, Nat.le_refl _, Or.inl rfl, fun u hu => by cases hu⟩
      | some c =>
        by_cases e : c ≤ x
        · exact ⟨c, if_pos e, e, Or.inr rfl, fun u hu => by cases hu; exact Nat.le_refl _⟩
        · exact ⟨x, if_neg e, Nat.le_refl _, Or.inl rfl, fun u hu => by cases hu; omega⟩
    obtain ⟨c, c1, c2, c3, c4⟩ := hx
    rw [List.foldl_cons]
    refine ⟨⟨fun h => ?_, fun h => absurd h.1 (by simp)⟩, fun v hv => ?_⟩
    · have := (h1.mp h).2
      rw [c1] at this; cases this
    · obtain ⟨a1, a2, a3⟩ := h2 v hv
      refine ⟨?_, fun u hu => ?_, fun u hu => ?_⟩
      · rcases a1 with q | q
        · exact Or.inl (List.mem_cons_of_mem _ q)
        · rw [c1] at q
          cases q
          rcases c3 with q | q
          · exact Or.inl (by rw [q]; exact List.mem_cons_self)
          · exact Or.inr q
      · rcases List.mem_cons.mp hu with rfl | hu
        · have := a3 c c1; omega
        · exact a2 u hu
      · have h5 := a3 c c1
        have h6 := c4 u hu
        omega
theorem mn1_rev (ws : List Nat) : ws.reverse.foldl mn1 none = ws.foldl mn1 none := by
  obtain ⟨h1, h2⟩ := mn1_ok ws none
  obtain ⟨k1, k2⟩ := mn1_ok ws.reverse none
  cases e : ws.foldl mn1 none with
  | none => exact k1.mpr ⟨by rw [(h1.mp e).1]; rfl, rfl⟩
  | some v =>
    cases e2 : ws.reverse.foldl mn1 none with
    | none =>
      have := (k1.mp e2).1
      have : ws = [] := by simpa using this
      rw [this] at e; cases e
    | some u =>
      obtain ⟨a1, a2, -⟩ := h2 v e
      obtain ⟨b1, b2, -⟩ := k2 u e2
      have a1 : v ∈ ws := a1.resolve_right (fun q => by cases q)
      have b1 : u ∈ ws := List.mem_reverse.mp (b1.resolve_right (fun q => by cases q))
      have := a2 u b1
      have := b2 v (List.mem_reverse.mpr a1)
      rw [show u = v by omega]
theorem isum_app : ∀ (A B : List Int32), isum (A ++ B) = isum A + isum B
  | [], B => by rw [List.nil_append, isum, Int32.zero_add]
  | x :: A, B => by rw [List.cons_append, isum, isum, isum_app A B, Int32.add_assoc]
theorem isum_rev : ∀ (A : List Int32), isum A.reverse = isum A
  | [] => rfl
  | x :: A => by
    rw [List.reverse_cons, isum_app, isum_rev A]
    show isum A + (x + 0) = x + isum A
    rw [Int32.add_zero, Int32.add_comm]
abbrev wS : Type := Nat × Option Nat × Int32 × Nat × Option Nat
def rS5 (g : am_G) (S : wS) : Prop := g 35 0 0 = nI S.1 ∧ g 35 0 4 = eM S.2.1 ∧ g 35 0 5 = S.2.2.1 ∧ g 35 0 6 = nI S.2.2.2.1 ∧ g 35 0 8 = eM S.2.2.2.2
def okS (S : wS) : Prop := (∀ c, S.2.1 = some c → c ≤ 9999) ∧ ∀ c, S.2.2.2.2 = some c → c ≤ 9999
def fx (g g' : am_G) : Prop := g' 35 0 1 = g 35 0 1 ∧ g' 35 0 2 = g 35 0 2 ∧ g' 35 0 3 = g 35 0 3 ∧ g' 35 0 7 = g 35 0 7
def s35 : Nat → Nat → Prop := fun c j => c = 35 ∧ j = 0
section MM
variable {g : am_G} {F : fF}
theorem rMa.fr35 {b : Nat} {g' : am_G} (h : rMa g b F) (hf : m_fr s35 g g') : rMa g' b F := by
  obtain ⟨⟨h1, h2⟩, h3, h4, h5⟩ := h
  have z : ∀ c, c ≠ 35 → g' c 0 = g c 0 := fun c hc => hf c 0 (fun q => hc q.1)
  exact ⟨⟨by rw [z 32 (by omega)]; exact h1, fun t ht => by rw [z 32 (by omega)]; exact h2 t ht⟩, by rw [z 139 (by omega)]; exact h3, h4, by rw [z 142 (by omega)]; exact h5⟩
theorem rMa.s35 {b : Nat} (h : rMa g b F) (k : Nat) (v : Int32) : rMa (am_sto g 35 0 k v) b F := h.fr35 (m_fr.rf.sto ⟨rfl, rfl⟩)
theorem W_root (d n : Nat) (h : rMa g 0 F) (hw : f_wf F) (x1 x2 x3 : Int32) {y : Nat} (hy : y < fN F) (hp : fP F y = none) {S : wS} (hS : rS5 g S) :
    ∃ g', am_run (am_call (d + 8)) 183 (n + 1) 78 [some (.inr (.inr (29, 0))), some (.inl x1), some (.inl x2), some (.inl x3), some (.inl (nI y))] [] g = am_run (am_call (d + 8)) 183 n 78 [some (.inr (.inr (29, 0))), some (.inl x1), some (.inl x2), some (.inl x3), some (.inl (-2))] [] g' ∧ rS5 g' (S.1, S.2.1, S.2.2.1 + fV F y, S.2.2.2.1 + 1, S.2.2.2.2) ∧ fx g g' ∧ m_fr s35 g g' := by
  obtain ⟨s0, s4, s5, s6, s8⟩ := hS
  have hn := hw.1
  rw [eM_walk_78, if_neg (q_nn (q24 hn hy)), y5, y6, y0, y4, y8, z5, z6, z0, z4, z8, M_ofV (d + 7) h hn hy, bi_some]
  simp only [cond_true]
  rw [M_parent (d + 6) ((h.s35 _ _).s35 _ _) hn hy, bi_some, hp, eM_none, if_neg (by decide), M_parent (d + 6) ((h.s35 _ _).s35 _ _) hn hy, bi_some, hp, eM_none]
  refine ⟨_, rfl, ⟨?_, ?_, ?_, ?_, ?_⟩, ⟨?_, ?_, ?_, ?_⟩, (m_fr.rf.sto ⟨rfl, rfl⟩).sto ⟨rfl, rfl⟩⟩
  all_goals simp only [m_sto]
  · exact s0
  · exact s4
  · simp; rw [s5]
  · simp; rw [s6, nI_1]
  · exact s8
  all_goals rfl
theorem W_iter (d n : Nat) (h : rMa g 0 F) (hw : f_wf F) (x1 x2 x3 : Int32) {y p : Nat} (hy : y < fN F) (hp : fP F y = some p) {S : wS} (hS : rS5 g S) (hk : okS S) :
    ∃ g', am_run (am_call (d + 8)) 183 (n + 1) 78 [some (.inr (.inr (29, 0))), some (.inl x1), some (.inl x2), some (.inl x3), some (.inl (nI y))] [] g = am_run (am_call (d + 8)) 183 n 78 [some (.inr (.inr (29, 0))), some (.inl x1), some (.inl x2), some (.inl x3), some (.inl (nI p))] [] g' ∧ rS5 g' (S.1 + fL F y, mn1 S.2.1 (fC F y), S.2.2.1 + fV F y, S.2.2.2.1 + 1, mn1 S.2.2.2.2 (fL F y)) ∧ fx g g' ∧ m_fr s35 g g' := by
  obtain ⟨s0, s4, s5, s6, s8⟩ := hS
  obtain ⟨S0, S4, S5, S6, S8⟩ := S
  have hn := hw.1
  have hpn := hw.p hy hp
  have hpt : fP F y ≠ none := by rw [hp]; simp
  have hL := len_some hw hy hpt
  have hC := cap_some hw hy hpt
  have mL : ∀ {g' : am_G}, rMa g' 0 F → am_call (d + 8) 141 [.inr (.inr (29, 0)), .inl ((48 : Int32) + nI y)] g' = some (some (.inl (nI (fL F y))), g') := fun q => by rw [M_ofL (d + 7) q hn hy, hL.1]
  have mC : ∀ {g' : am_G}, rMa g' 0 F → am_call (d + 8) 141 [.inr (.inr (29, 0)), .inl ((72 : Int32) + nI y)] g' = some (some (.inl (nI (fC F y))), g') := fun q => by rw [M_ofC (d + 7) q hn hy, hC.1]
  have mP : ∀ {g' : am_G}, rMa g' 0 F → am_call (d + 8) 150 [.inr (.inr (29, 0)), .inl (nI y)] g' = some (some (.inl (nI p)), g') := fun q => by rw [M_parent (d + 6) q hn hy, hp, eM_some]
  have g1 := (h.s35 5 (S5 + fV F y)).s35 6 (nI (S6 + 1))
  have g2 := g1.s35 0 (nI (S0 + fL F y))
  rw [eM_walk_78, if_neg (q_nn (q24 hn hy)), y5, y6, y0, y4, y8, z5, z6, z0, z4, z8, M_ofV (d + 7) h hn hy, bi_some]
  simp only [cond_true]
  have r6 : am_sto g 35 0 5 (S5 + fV F y) 35 0 6 = nI S6 := by rw [m_sto, if_neg (by omega)]; exact s6
  have r0 : am_sto (am_sto g 35 0 5 (S5 + fV F y)) 35 0 6 (nI (S6 + 1)) 35 0 0 = nI S0 := by rw [m_sto, if_neg (by omega), m_sto, if_neg (by omega)]; exact s0
  have r4 : am_sto (am_sto (am_sto g 35 0 5 (S5 + fV F y)) 35 0 6 (nI (S6 + 1))) 35 0 0 (nI (S0 + fL F y)) 35 0 4 = eM S4 := by rw [m_sto, if_neg (by omega), m_sto, if_neg (by omega), m_sto, if_neg (by omega)]; exact s4
  have r8 : ∀ v, am_sto (am_sto (am_sto (am_sto g 35 0 5 (S5 + fV F y)) 35 0 6 (nI (S6 + 1))) 35 0 0 (nI (S0 + fL F y))) 35 0 4 v 35 0 8 = eM S8 := fun v => by rw [m_sto, if_neg (by omega), m_sto, if_neg (by omega), m_sto, if_neg (by omega), m_sto, if_neg (by omega)]; exact s8
  have fin : ∀ (v4 v8 : Int32) (g' : am_G), g' = am_sto (am_sto (am_sto (am_sto (am_sto g 35 0 5 (S5 + fV F y)) 35 0 6 (nI (S6 + 1))) 35 0 0 (nI (S0 + fL F y))) 35 0 4 v4) 35 0 8 v8 → v4 = eM (mn1 S4 (fC F y)) → v8 = eM (mn1 S8 (fL F y)) → rS5 g' (S0 + fL F y, mn1 S4 (fC F y), S5 + fV F y, S6 + 1, mn1 S8 (fL F y)) ∧ fx g g' ∧ m_fr s35 g g' := by
    rintro v4 v8 g' rfl h4 h8
    refine ⟨⟨?_, ?_, ?_, ?_, ?_⟩, ⟨?_, ?_, ?_, ?_⟩, ((((m_fr.rf.sto ⟨rfl, rfl⟩).sto ⟨rfl, rfl⟩).sto ⟨rfl, rfl⟩).sto ⟨rfl, rfl⟩).sto ⟨rfl, rfl⟩⟩
    all_goals simp only [m_sto]
    · rfl
    · exact h4
    · rfl
    · rfl
    · exact h8
    all_goals rfl
  rw [show g 35 0 5 = S5 from s5, r6, nI_1, mP g1, bi_some, if_pos (q_0le (q24 hn hpn)), mL g1, bi_some, r0, nI_add, r4]
  cases S4 with
  | none =>
    rw [eM_none, if_pos (by decide), mC g2, bi_some, r8]
    have g3 := g2.s35 4 (nI (fC F y))
    cases S8 with
    | none =>
      rw [eM_none, if_pos (by decide), mL g3, bi_some, mP (g3.s35 8 _), bi_some]
      exact ⟨_, rfl, fin _ _ _ rfl rfl rfl⟩
    | some c8 =>
      have h8 := hk.2 c8 rfl
      rw [eM_some, if_neg (q_nn (by omega)), mL g3, bi_some, r8, eM_some, mL g3, bi_some, mP (g3.s35 8 _), bi_some, mP (g3.s35 8 _), bi_some]
      by_cases q : c8 ≤ fL F y
      · rw [if_pos (nI_le q (by omega))]
        exact ⟨_, rfl, fin _ _ _ rfl rfl (by show nI c8 = eM (if c8 ≤ fL F y then some c8 else some (fL F y)); rw [if_pos q]; rfl)⟩
      · rw [if_neg (nI_ge (by omega) (by omega))]
        exact ⟨_, rfl, fin _ _ _ rfl rfl (by show nI (fL F y) = eM (if c8 ≤ fL F y then some c8 else some (fL F y)); rw [if_neg q]; rfl)⟩
  | some c4 =>
    have h4 := hk.1 c4 rfl
    rw [eM_some, if_neg (q_nn (by omega)), mC g2, bi_some, r4, eM_some, mC g2, bi_some]
    by_cases q4 : c4 ≤ fC F y
    · have v4 : nI c4 = eM (mn1 (some c4) (fC F y)) := by show nI c4 = eM (if c4 ≤ fC F y then some c4 else some (fC F y)); rw [if_pos q4]; rfl
      have g3 := g2.s35 4 (nI c4)
      rw [if_pos (nI_le q4 (by omega)), r8]
      cases S8 with
      | none =>
        rw [eM_none, if_pos (by decide), mL g3, bi_some, mP (g3.s35 8 _), bi_some]
        exact ⟨_, rfl, fin _ _ _ rfl v4 rfl⟩
      | some c8 =>
        have h8 := hk.2 c8 rfl
        rw [eM_some, if_neg (q_nn (by omega)), mL g3, bi_some, r8, eM_some, mL g3, bi_some, mP (g3.s35 8 _), bi_some, mP (g3.s35 8 _), bi_some]
        by_cases q : c8 ≤ fL F y
        · rw [if_pos (nI_le q (by omega))]
          exact ⟨_, rfl, fin _ _ _ rfl v4 (by show nI c8 = eM (if c8 ≤ fL F y then some c8 else some (fL F y)); rw [if_pos q]; rfl)⟩
        · rw [if_neg (nI_ge (by omega) (by omega))]
          exact ⟨_, rfl, fin _ _ _ rfl v4 (by show nI (fL F y) = eM (if c8 ≤ fL F y then some c8 else some (fL F y)); rw [if_neg q]; rfl)⟩
    · have v4 : nI (fC F y) = eM (mn1 (some c4) (fC F y)) := by show nI (fC F y) = eM (if c4 ≤ fC F y then some c4 else some (fC F y)); rw [if_neg q4]; rfl
      have g3 := g2.s35 4 (nI (fC F y))
      rw [if_neg (nI_ge (by omega) (by omega)), r8]
      cases S8 with
      | none =>
        rw [eM_none, if_pos (by decide), mL g3, bi_some, mP (g3.s35 8 _), bi_some]
        exact ⟨_, rfl, fin _ _ _ rfl v4 rfl⟩
      | some c8 =>
        have h8 := hk.2 c8 rfl
        rw [eM_some, if_neg (q_nn (by omega)), mL g3, bi_some, r8, eM_some, mL g3, bi_some, mP (g3.s35 8 _), bi_some, mP (g3.s35 8 _), bi_some]
        by_cases q : c8 ≤ fL F y
        · rw [if_pos (nI_le q (by omega))]
          exact ⟨_, rfl, fin _ _ _ rfl v4 (by show nI c8 = eM (if c8 ≤ fL F y then some c8 else some (fL F y)); rw [if_pos q]; rfl)⟩
        · rw [if_neg (nI_ge (by omega) (by omega))]
          exact ⟨_, rfl, fin _ _ _ rfl v4 (by show nI (fL F y) = eM (if c8 ≤ fL F y then some c8 else some (fL F y)); rw [if_neg q]; rfl)⟩
end MM
