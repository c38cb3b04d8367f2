/-! ===== the model: a text's towns and numbers ===== -/
def sLc (c j : Nat) : Prop := j = 0 ∧ (c = 32 ∨ c = 34 ∨ c = 132 ∨ c = 133 ∨ (135 ≤ c ∧ c ≤ 138) ∨ (144 ≤ c ∧ c ≤ 147))
def mL (g g' : am_G) : Prop := (∀ c j, ¬ sLc c j → g' c j = g c j) ∧ ∀ k, ¬ (363 ≤ k ∧ k < 484) → g' 32 0 k = g 32 0 k
def rMb (g : am_G) (s : tS) : Prop := (∃ S, rMk g 3 (f_sh s.1 S)) ∧ g 139 0 0 = nI 3 ∧ g 144 0 0 = nI s.2.1.length ∧ (∀ (k : Nat) (x : Int32), s.2.1[k]? = some x → g 34 0 k = x) ∧ g 145 0 0 = s.2.2.1 ∧ g 146 0 0 = b01 s.2.2.2 ∧ g 132 0 0 = 0 ∧ g 133 0 0 = -1
def bad (g : am_G) (x : Int32) (e : Nat × Nat) : Prop := x = 0 ∧ g 132 0 0 = nI e.1 ∧ g 133 0 0 = nI e.2
def sW : Nat → Nat → Prop := fun c j => j = 0 ∧ (c = 132 ∨ c = 133 ∨ (135 ≤ c ∧ c ≤ 138) ∨ c = 147)
section MM
variable {g : am_G} {T : Nat → Int32} {n p : Nat} {s : tS} {t u : tk}
theorem mL.rf : mL g g := ⟨fun _ _ _ => rfl, fun _ _ => rfl⟩
theorem mL.tr {g1 g2 : am_G} (h1 : mL g g1) (h2 : mL g1 g2) : mL g g2 := ⟨fun c j h => (h2.1 c j h).trans (h1.1 c j h), fun k h => (h2.2 k h).trans (h1.2 k h)⟩
theorem mL.put {c : Nat} (hc : sLc c 0) (h32 : c ≠ 32) (x : Int32) : mL g (am_put g c 0 x) := ⟨fun c' j q => m_put_ne (fun r => q (by rw [r.1, r.2]; exact hc)), fun k _ => by rw [m_put_ne (fun r => h32 r.1.symm)]⟩
theorem mL.K {g' : am_G} (h : m_fr sK g g') : mL g g' := ⟨fun c j q => h c j (fun r => q ⟨r.1, by have := r.2; omega⟩), fun k _ => by rw [h 32 0 (fun r => by have := r.2.1; omega)]⟩
theorem mL.B {g' : am_G} (h : mB 3 g g') : mL g g' := ⟨fun c j q => h.1 c j (fun r => q ⟨r.2, Or.inl r.1⟩), fun k hk => h.2 k (by omega)⟩
theorem rMb.cg {g' : am_G} (h : rMb g s) (z : ∀ c, c = 32 ∨ c = 139 ∨ c = 144 ∨ c = 34 ∨ c = 145 ∨ c = 146 ∨ c = 132 ∨ c = 133 → g' c 0 = g c 0) : rMb g' s := by
  obtain ⟨⟨S, a1, a2⟩, b, c, d, e, f, i, j⟩ := h
  exact ⟨⟨S, by rw [z _ (by omega)]; exact a1, fun t ht => by rw [z _ (by omega)]; exact a2 t ht⟩, by rw [z _ (by omega)]; exact b, by rw [z _ (by omega)]; exact c, fun k x hk => by rw [z _ (by omega)]; exact d k x hk, by rw [z _ (by omega)]; exact e, by rw [z _ (by omega)]; exact f, by rw [z _ (by omega)]; exact i, by rw [z _ (by omega)]; exact j⟩
theorem rMb.K {g' : am_G} (h : rMb g s) (hf : m_fr sK g g') : rMb g' s := h.cg fun c hc => hf c 0 (fun q => by have := q.2; omega)
theorem rMb.p147 (h : rMb g s) (x : Int32) : rMb (am_put g 147 0 x) s := h.cg fun c hc => m_put_ne (fun q => by have := q.1; omega)
theorem rK0.p147 (h : rK0 g T n p) (x : Int32) : rK0 (am_put g 147 0 x) T n p := by
  obtain ⟨a1, a2, a3, a4, a5, a6⟩ := h
  exact ⟨by rw [m_put_ne (by simp)]; exact a1, by rw [m_put_ne (by simp)]; exact a2, a3, a4, fun k hk => by rw [m_put_ne (by simp)]; exact a5 k hk, fun k hk => by rw [m_put_ne (by simp)]; exact a6 k hk⟩
theorem rKt.p147 (h : rKt g T n t) (x : Int32) : rKt (am_put g 147 0 x) T n t := by
  obtain ⟨a1, a2, a3, a4, a5, a6⟩ := h
  exact ⟨a1.p147 x, by rw [m_put_ne (by simp)]; exact a2, by rw [m_put_ne (by simp)]; exact a3, fun q r => by rw [m_put_ne (by simp)]; exact a4 q r, fun q r => by rw [m_put_ne (by simp)]; exact a5 q r, fun q => by rw [m_put_ne (by simp)]; exact a6 q⟩
theorem kM_cs (u : tk) : (u.1 = 0 ∧ kM u = 0) ∨ (u.1 = 1 ∧ isKw u.2.2.2 = true ∧ kM u = 1) ∨ (u.1 = 1 ∧ isKw u.2.2.2 = false ∧ kM u = 2) ∨ (u.1 = 2 ∧ kM u = 3) ∨ (u.1 = 3 ∧ kM u = 6) ∨ (u.1 = 4 ∧ kM u = 4) ∨ (5 ≤ u.1 ∧ kM u = 5) := by
  unfold kM
  by_cases h0 : u.1 = 0
  · exact Or.inl ⟨h0, if_pos h0⟩
  · rw [if_neg h0]
    by_cases h1 : u.1 = 1
    · rw [if_pos h1]
      cases hk : isKw u.2.2.2
      · exact Or.inr (Or.inr (Or.inl ⟨h1, rfl, if_neg (by decide)⟩))
      · exact Or.inr (Or.inl ⟨h1, rfl, if_pos rfl⟩)
    · rw [if_neg h1]
      by_cases h2 : u.1 = 2
      · rw [if_pos h2]; exact Or.inr (Or.inr (Or.inr (Or.inl ⟨h2, rfl⟩)))
      · rw [if_neg h2]
        by_cases h3 : u.1 = 3
        · rw [if_pos h3]; exact Or.inr (Or.inr (Or.inr (Or.inr (Or.inl ⟨h3, rfl⟩))))
        · rw [if_neg h3]
          by_cases h4 : u.1 = 4
          · rw [if_pos h4]; exact Or.inr (Or.inr (Or.inr (Or.inr (Or.inr (Or.inl ⟨h4, rfl⟩)))))
          · rw [if_neg h4]; exact Or.inr (Or.inr (Or.inr (Or.inr (Or.inr (Or.inr ⟨by omega, rfl⟩)))))
theorem kM_nm (u : tk) : kM u = 2 ↔ t_nm u = true := by
  unfold t_nm
  rcases kM_cs u with ⟨a, b⟩ | ⟨a, c, b⟩ | ⟨a, c, b⟩ | ⟨a, b⟩ | ⟨a, b⟩ | ⟨a, b⟩ | ⟨a, b⟩ <;> rw [b]
  · rw [a]; simp
  · rw [a, c]; simp
  · rw [a, c]; simp
  · rw [a]; simp
  · rw [a]; simp
  · rw [a]; simp
  · rw [decide_eq_false (show ¬ u.1 = 1 by omega)]; simp
theorem kM_n (u : tk) : (kM u = 3 ↔ u.1 = 2) ∧ (kM u = 6 ↔ u.1 = 3) ∧ (kM u = 4 ↔ u.1 = 4) ∧ (kM u = 0 ↔ u.1 = 0) ∧ (kM u = 1 ↔ u.1 = 1 ∧ isKw u.2.2.2 = true) := by
  rcases kM_cs u with ⟨a, b⟩ | ⟨a, c, b⟩ | ⟨a, c, b⟩ | ⟨a, b⟩ | ⟨a, b⟩ | ⟨a, b⟩ | ⟨a, b⟩ <;> rw [b]
  · rw [a]; simp
  · rw [a, c]; simp
  · rw [a, c]; simp
  · rw [a]; simp
  · rw [a]; simp
  · rw [a]; simp
  · simp; omega
theorem sWK {g' : am_G} (h : m_fr sK g g') : m_fr sW g g' := h.mono fun c j q => ⟨q.1, by have := q.2; omega⟩
theorem sWp {c : Nat} (hc : c = 132 ∨ c = 133 ∨ c = 147) (x : Int32) : m_fr sW g (am_put g c 0 x) := m_fr.put m_fr.rf ⟨rfl, by omega⟩
theorem mL.W {g' : am_G} (h : m_fr sW g g') : mL g g' := ⟨fun c j q => h c j (fun r => q ⟨r.1, by have := r.2; omega⟩), fun k _ => by rw [h 32 0 (fun r => by have := r.2; omega)]⟩
theorem M_wrong (d k : Nat) {a : Nat} (h8 : g 138 0 0 = nI a) : ∃ g', am_call (d + 1) 135 [.inr (.inr (29, 0)), .inl (nI k)] g = some (some (.inl (0 : Int32)), g') ∧ bad g' 0 (k, a) ∧ m_fr sW g g' := by
  rw [cM_wrong, eM_wrong_0]
  refine ⟨_, rfl, ⟨rfl, ?_, ?_⟩, (sWp (by omega) _).tr (sWp (by omega) _)⟩
  · rw [m_put_ne (by simp), m_put]
  · rw [m_put, m_put_ne (by simp)]; exact h8
theorem M_signed (d : Nat) (h : rKt g T n u) (hb : rMb g s) (lo hi : Int32) : ∃ x g', am_call (d + 4) 156 [.inr (.inr (29, 0)), .inl lo, .inl hi] g = some (some (.inl x), g') ∧ m_fr sW g g' ∧ (if u.1 = 2 ∨ u.1 = 3 then (if lo ≤ u.2.2.2 ∧ u.2.2.2 ≤ hi then x = 1 ∧ g' 147 0 0 = u.2.2.2 ∧ rKt g' T n (lx T n u.2.2.1) ∧ rMb g' s else bad g' x (2, u.2.1)) else bad g' x (1, u.2.1)) := by
  have hk := kM_n u
  rw [cM_signed, eM_signed_0, h.2.1]
  have good : u.1 = 2 ∨ u.1 = 3 → ∃ x g', am_bi (am_call (d + 3) 134 [.inl (g 137 0 0), .inl lo, .inl hi] g) (fun r1 g1 =>
    if r1 = 0 then
      (am_bi (am_call (d + 3) 135 [.inr (.inr (29, 0)), .inl (2 : Int32)] g1) (fun r3 g3 =>
      bif am_01 r3 then some (some (Sum.inl r3 : am_V), g3) else none))
    else
      (am_bv (am_call (d + 3) 139 [.inr (.inr (29, 0))] (am_put g1 147 0 (g1 137 0 0))) (fun g2 =>
      some (some (Sum.inl (1 : Int32) : am_V), g2)))) = some (some (Sum.inl x : am_V), g') ∧ m_fr sW g g' ∧ (if lo ≤ u.2.2.2 ∧ u.2.2.2 ≤ hi then x = 1 ∧ g' 147 0 0 = u.2.2.2 ∧ rKt g' T n (lx T n u.2.2.1) ∧ rMb g' s else bad g' x (2, u.2.1)) := fun q => by
    rw [h.2.2.2.2.2 q]
    by_cases e : lo ≤ u.2.2.2 ∧ u.2.2.2 ≤ hi
    · rw [M_isIn_t (d + 2) g e, bi_some, if_neg q_110, h.2.2.2.2.2 q]
      obtain ⟨g', k1, k2, k3⟩ := M_token d (h.1.p147 u.2.2.2)
      rw [k1, bv_some]
      refine ⟨1, g', rfl, (sWp (by omega) _).tr (sWK k3), ?_⟩
      rw [if_pos e]
      exact ⟨rfl, by rw [k3 147 0 (fun r => by have := r.2.2; omega), m_put], k2, (hb.p147 _).K k3⟩
    · rw [M_isIn_f (d + 2) g e, bi_some, if_pos rfl]
      obtain ⟨g', k1, k2, k3⟩ := M_wrong (d + 2) 2 h.2.2.1
      have k1' : am_call (d + 3) 135 [.inr (.inr (29, 0)), .inl (2 : Int32)] g = some (some (.inl (0 : Int32)), g') := k1
      rw [k1', bi_some]
      exact ⟨0, g', rfl, k3, by rw [if_neg e]; exact k2⟩
  by_cases e2 : u.1 = 2
  · rw [if_pos (hk.1.mpr e2)]
    obtain ⟨x, g', k1, k2, k3⟩ := good (Or.inl e2)
    exact ⟨x, g', k1, k2, by rw [if_pos (Or.inl e2)]; exact k3⟩
  · rw [if_neg (fun q => e2 (hk.1.mp q))]
    by_cases e3 : u.1 = 3
    · rw [if_pos (hk.2.1.mpr e3)]
      obtain ⟨x, g', k1, k2, k3⟩ := good (Or.inr e3)
      exact ⟨x, g', k1, k2, by rw [if_pos (Or.inr e3)]; exact k3⟩
    · rw [if_neg (fun q => e3 (hk.2.1.mp q))]
      obtain ⟨g', k1, k2, k3⟩ := M_wrong (d + 2) 1 h.2.2.1
      have k1' : am_call (d + 3) 135 [.inr (.inr (29, 0)), .inl (1 : Int32)] g = some (some (.inl (0 : Int32)), g') := k1
      rw [k1', bi_some]
      exact ⟨0, g', rfl, k3, by rw [if_neg (show ¬ (u.1 = 2 ∨ u.1 = 3) by omega)]; exact k2⟩
theorem M_number (d : Nat) (h : rKt g T n u) (hb : rMb g s) (lo hi : Int32) : ∃ x g', am_call (d + 5) 157 [.inr (.inr (29, 0)), .inl lo, .inl hi] g = some (some (.inl x), g') ∧ m_fr sW g g' ∧ (if u.1 = 2 then (if lo ≤ u.2.2.2 ∧ u.2.2.2 ≤ hi then x = 1 ∧ g' 147 0 0 = u.2.2.2 ∧ rKt g' T n (lx T n u.2.2.1) ∧ rMb g' s else bad g' x (2, u.2.1)) else bad g' x (1, u.2.1)) := by
  have hk := kM_n u
  rw [cM_number, eM_number_0, h.2.1]
  by_cases e2 : u.1 = 2
  · obtain ⟨x, g', k1, k2, k3⟩ := M_signed d h hb lo hi
    rw [if_pos (Or.inl e2)] at k3
    rw [if_pos (hk.1.mpr e2), k1, bi_some]
    have hx : am_01 x = true := by
      by_cases e : lo ≤ u.2.2.2 ∧ u.2.2.2 ≤ hi
      · rw [if_pos e] at k3; rw [k3.1]; rfl
      · rw [if_neg e] at k3; rw [k3.1]; rfl
    rw [hx, cond_true]
    exact ⟨x, g', rfl, k2, by rw [if_pos e2]; exact k3⟩
  · rw [if_neg (fun q => e2 (hk.1.mp q))]
    obtain ⟨g', k1, k2, k3⟩ := M_wrong (d + 3) 1 h.2.2.1
    have k1' : am_call (d + 4) 135 [.inr (.inr (29, 0)), .inl (1 : Int32)] g = some (some (.inl (0 : Int32)), g') := k1
    rw [k1', bi_some]
    exact ⟨0, g', rfl, k3, by rw [if_neg e2]; exact k2⟩
theorem M_townRead (d : Nat) (h : rK0 g T n p) (hb : rMb g s) (hs : s.2.1.length ≤ 24) : ∃ x g', am_call (d + 4) 158 [.inr (.inr (29, 0))] g = some (some (.inl x), g') ∧ m_fr sW g g' ∧ (if t_nm (lx T n p) = true then (match n_find s.2.1 (lx T n p).2.2.2 with
    | none => bad g' x (4, (lx T n p).2.1)
    | some a => x = 1 ∧ g' 147 0 0 = nI a ∧ rKt g' T n (lx T n p) ∧ rMb g' s) else bad g' x (1, (lx T n p).2.1)) := by
  obtain ⟨g1, k1, k2, k3⟩ := M_token d h
  have hb1 := hb.K k3
  rw [cM_townRead, eM_townRead_0, k1, bv_some, k2.2.1]
  generalize lx T n p = u at k2 ⊢
  by_cases e : t_nm u = true
  · have e' : u.1 = 1 ∧ isKw u.2.2.2 = false := by
      unfold t_nm at e
      simpa using e
    rw [if_pos ((kM_nm u).mpr e), k2.2.2.2.1 e'.1 e'.2, hb1.2.2.1, P_nameAt34 (d + 2) hs hb1.2.2.2.1, bi_some, m_put]
    cases hf : n_find s.2.1 u.2.2.2 with
    | none =>
      obtain ⟨g', j1, j2, j3⟩ := M_wrong (g := am_put g1 147 0 (eC none)) (d + 2) 4 (a := u.2.1) (by rw [m_put_ne (by simp)]; exact k2.2.2.1)
      have j1' : am_call (d + 3) 135 [.inr (.inr (29, 0)), .inl (4 : Int32)] (am_put g1 147 0 (eC none)) = some (some (.inl (0 : Int32)), g') := j1
      rw [if_neg (show ¬ (0 : Int32) ≤ eC none by decide), j1', bi_some, if_pos rfl]
      exact ⟨0, g', rfl, ((sWK k3).tr (sWp (by omega) _)).tr j3, by rw [if_pos e]; exact j2⟩
    | some a =>
      have ha : a < s.2.1.length := n_find_lt hf
      rw [eC_some, if_pos (q_0le (by omega))]
      exact ⟨1, _, rfl, (sWK k3).tr (sWp (by omega) _), by rw [if_pos e]; exact ⟨rfl, m_put _ _ _ _ _, k2.p147 _, hb1.p147 _⟩⟩
  · rw [if_neg (fun q => e ((kM_nm u).mp q))]
    obtain ⟨g', j1, j2, j3⟩ := M_wrong (d + 2) 1 k2.2.2.1
    have j1' : am_call (d + 3) 135 [.inr (.inr (29, 0)), .inl (1 : Int32)] g1 = some (some (.inl (0 : Int32)), g') := j1
    rw [j1', bi_some]
    exact ⟨0, g', rfl, (sWK k3).tr j3, by rw [if_neg e]; exact j2⟩
end MM
