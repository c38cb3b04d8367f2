/-! ===== the model: token, whole ===== -/
section MM
variable {g : am_G} {T : Nat → Int32} {n p : Nat}
theorem tok_one (d : Nat) (fuel : Nat) (h : rK0 g T n p) (hf : n < fuel) (hb : p < n → ¬ (T p = 10 ∨ T p = 32)) :
    ∃ g', am_run (am_call (d + 2)) 139 (fuel + 1) 0 [some (.inr (.inr (29, 0)))] [] g = some (none, g') ∧ rKt g' T n (lx1 T n p) ∧ m_fr sK g g' := by
  obtain ⟨h1, h2, hn, hp, hT, hW⟩ := h
  have h : rK0 g T n p := ⟨h1, h2, hn, hp, hT, hW⟩
  have fr : m_fr sK g (am_put g 138 0 (nI p)) := m_pK (by omega) _
  have hG : rK0 (am_put g 138 0 (nI p)) T n p := h.fr fr hp (by rw [m_put_ne (by simp)]; exact h2)
  have hG8 : am_put g 138 0 (nI p) 138 0 0 = nI p := m_put _ _ _ _ _
  unfold lx1
  rw [eM_token_0, h1, h2]
  generalize am_put g 138 0 (nI p) = G at fr hG hG8 ⊢
  by_cases e : n ≤ p
  · have e1 : p = n := by omega
    subst e1
    rw [if_pos (nI_le e (by omega)), hG.1, hG.2.1, if_pos rfl, if_pos e]
    have fr2 : m_fr sK g (am_put G 136 0 (0 : Int32)) := fr.tr (m_pK (by omega) _)
    refine ⟨_, rfl, ⟨h.fr fr2 hp (by rw [m_put_ne (by simp)]; exact hG.2.1), m_put _ _ _ _ _, by rw [m_put_ne (by simp)]; exact hG8, fun q => ?_, fun q => ?_, fun q => ?_⟩, fr2⟩
    · cases q
    · cases q
    · rcases q with q | q <;> cases q
  · have hlt : p < n := by omega
    have hb := hb hlt
    rw [if_neg (nI_ge hlt (by omega)), q_in (by omega) (by omega), cond_true, nI_clamp (by omega), hT p hlt, if_neg (fun q => hb (Or.inl q)), cond_true, if_neg (fun q => hb (Or.inr q)), hG.1, hG.2.1, if_neg (show ¬ nI p = nI n by rw [q_inj (by omega) (by omega)]; omega), if_neg e, M_isSmall (d + 1) hG.1 hn hG.2.2.2.2.1 hp, decide_eq_true hlt, Bool.true_and, bi_some]
    by_cases e1 : kL T p = true
    · rw [if_neg (by rw [e1]; exact b01_t), if_pos e1]
      obtain ⟨g', k1, k2, k3⟩ := tok_44 (T := T) (n := n) (d + 1) (a := p) (n - p) p fuel G (by omega) (by omega) hG hG8 (Or.inr ⟨rfl, hlt, e1⟩) (fun x q q' => by omega)
      exact ⟨g', k1, k2, fr.tr k3⟩
    · rw [if_pos (show b01 (kL T p) = 0 by rw [b01_0]; simpa using e1), if_neg e1, hG.2.1, M_isDigit (d + 1) hG.1 hn hG.2.2.2.2.1 hp, decide_eq_true hlt, Bool.true_and, bi_some]
      by_cases e2 : kD T p = true
      · have e45 : ¬ T p = 45 := fun q => by
          obtain ⟨c, c1, c2, c3⟩ := kD_of e2
          rw [q, show (45 : Int32) = nI 45 from rfl, q_inj (by omega) (by omega)] at c3
          omega
        rw [if_neg (by rw [e2]; exact b01_t), if_pos e2, hG.2.1, q_in (by omega) (by omega), cond_true, nI_clamp (by omega), hG.2.2.2.2.1 p hlt, if_neg e45, m_put, if_neg (show ¬ (3 : Int32) = 6 by decide)]
        have fr2 : m_fr sK g (am_put (am_put G 136 0 (3 : Int32)) 137 0 (0 : Int32)) := (fr.tr (m_pK (by omega) _)).tr (m_pK (by omega) _)
        obtain ⟨g', k1, k2, k3, k4, k5, k6⟩ := tok_143 (T := T) (n := n) (d + 1) (n - p) p 0 fuel (am_put (am_put G 136 0 (3 : Int32)) 137 0 (0 : Int32)) (by omega) (by omega) (h.fr fr2 hp (by rw [m_put_ne (by simp), m_put_ne (by simp)]; exact hG.2.1)) (m_put _ _ _ _ _) (by omega)
        have k5' : g' 136 0 0 = 3 := by rw [k5, m_put_ne (by simp), m_put]
        rw [m_put_ne (by simp), m_put, if_neg (show ¬ (3 : Int32) = 6 by decide)] at k3
        rw [m_put_ne (by simp), m_put_ne (by simp), hG8] at k6
        refine ⟨g', k1, ⟨k2, k5', k6, fun q => ?_, fun q => ?_, fun _ => k3⟩, fr2.tr k4⟩
        · cases q
        · cases q
      · rw [if_pos (show b01 (kD T p) = 0 by rw [b01_0]; simpa using e2), if_neg e2, hG.2.1, hG.1, if_neg (nI_ge hlt (by omega)), q_in (by omega) (by omega), cond_true, nI_clamp (by omega), hG.2.2.2.2.1 p hlt]
        have last : ∀ (k : Nat) (x : Int32), (k = 4 ∧ x = 4) ∨ (k = 5 ∧ x = 5) → ∃ g', (some (none, am_put (am_put G 136 0 x) 135 0 ((am_put G 136 0 x) 135 0 0 + (1 : Int32))) : Option am_R) = some (none, g') ∧ rKt g' T n (k, p, p + 1, 0) ∧ m_fr sK g g' := fun k x hk => by
          have fr2 : m_fr sK g (am_put (am_put G 136 0 x) 135 0 ((am_put G 136 0 x) 135 0 0 + (1 : Int32))) := (fr.tr (m_pK (by omega) _)).tr (m_pK (by omega) _)
          refine ⟨_, rfl, ⟨h.fr fr2 (show p + 1 ≤ n by omega) ?_, ?_, ?_, fun q => ?_, fun q => ?_, fun q => ?_⟩, fr2⟩
          · rw [m_put, m_put_ne (by simp), hG.2.1, nI_1]
          · rw [m_put_ne (by simp), m_put]
            rcases hk with ⟨rfl, rfl⟩ | ⟨rfl, rfl⟩ <;> rfl
          · rw [m_put_ne (by simp), m_put_ne (by simp)]; exact hG8
          · rcases hk with ⟨rfl, rfl⟩ | ⟨rfl, rfl⟩ <;> cases q
          · rcases hk with ⟨rfl, rfl⟩ | ⟨rfl, rfl⟩ <;> cases q
          · rcases hk with ⟨rfl, rfl⟩ | ⟨rfl, rfl⟩ <;> rcases q with q | q <;> cases q
        by_cases e3 : T p = 45
        · have e59 : ¬ T p = 59 := by rw [e3]; decide
          rw [if_pos e3, show (1 : Int32) = nI 1 from rfl, nI_add, M_isDigit (d + 1) hG.1 hn hG.2.2.2.2.1 (show p + 1 ≤ n by omega), bi_some]
          by_cases e4 : (decide (p + 1 < n) && kD T (p + 1)) = true
          · have e5 : p + 1 < n ∧ kD T (p + 1) = true := by
              rw [Bool.and_eq_true] at e4
              exact ⟨of_decide_eq_true e4.1, e4.2⟩
            rw [if_neg (by rw [e4]; exact b01_t), if_pos (show (T p = 45 ∧ p + 1 < n ∧ kD T (p + 1) = true) from ⟨e3, e5⟩), hG.2.1, q_in (by omega) (by omega), cond_true, nI_clamp (by omega), hG.2.2.2.2.1 p hlt, if_pos e3, m_put, if_pos rfl, m_put_ne (by simp), hG.2.1, nI_add]
            have fr2 : m_fr sK g (am_put (am_put (am_put G 136 0 (6 : Int32)) 135 0 (nI (p + 1))) 137 0 (0 : Int32)) := ((fr.tr (m_pK (by omega) _)).tr (m_pK (by omega) _)).tr (m_pK (by omega) _)
            obtain ⟨g', k1, k2, k3, k4, k5, k6⟩ := tok_143 (T := T) (n := n) (d + 1) (n - (p + 1)) (p + 1) 0 fuel (am_put (am_put (am_put G 136 0 (6 : Int32)) 135 0 (nI (p + 1))) 137 0 (0 : Int32)) (by omega) (by omega) (h.fr fr2 (by omega) (by rw [m_put_ne (by simp), m_put])) (m_put _ _ _ _ _) (by omega)
            have k5' : g' 136 0 0 = 6 := by rw [k5, m_put_ne (by simp), m_put_ne (by simp), m_put]
            rw [m_put_ne (by simp), m_put_ne (by simp), m_put, if_pos rfl] at k3
            rw [m_put_ne (by simp), m_put_ne (by simp), m_put_ne (by simp), hG8] at k6
            refine ⟨g', k1, ⟨k2, k5', k6, fun q => ?_, fun q => ?_, fun _ => k3⟩, fr2.tr k4⟩
            · cases q
            · cases q
          · rw [if_pos (show b01 (decide (p + 1 < n) && kD T (p + 1)) = 0 by rw [b01_0]; simpa using e4), if_neg (show ¬ (T p = 45 ∧ p + 1 < n ∧ kD T (p + 1) = true) from fun q => e4 (by rw [decide_eq_true q.2.1, q.2.2]; rfl)), hG.2.1, q_in (by omega) (by omega), cond_true, nI_clamp (by omega), hG.2.2.2.2.1 p hlt, if_neg e59, if_neg e59]
            exact last 5 5 (Or.inr ⟨rfl, rfl⟩)
        · rw [if_neg e3, cond_true, if_neg (show ¬ (T p = 45 ∧ p + 1 < n ∧ kD T (p + 1) = true) from fun q => e3 q.1)]
          by_cases e4 : T p = 59
          · rw [if_pos e4, if_pos e4]
            exact last 4 4 (Or.inl ⟨rfl, rfl⟩)
          · rw [if_neg e4, if_neg e4]
            exact last 5 5 (Or.inr ⟨rfl, rfl⟩)
theorem tok_0 (d : Nat) : ∀ (m p fuel : Nat) (g : am_G), p + m = n → m + n < fuel → rK0 g T n p →
    ∃ g', am_run (am_call (d + 2)) 139 (fuel + 1) 0 [some (.inr (.inr (29, 0)))] [] g = some (none, g') ∧ rKt g' T n (lx1 T n (sc (kB T) m p)) ∧ m_fr sK g g'
  | 0, p, fuel, g, hp, hf, h => by
    rw [sc]
    exact tok_one d fuel h (by omega) (fun q => by omega)
  | m + 1, p, fuel, g, hp, hf, h => by
    by_cases e : kB T p = true
    · have e' := of_decide_eq_true e
      have hn := h.2.2.1
      have hfr : m_fr sK g (am_put g 135 0 (nI (p + 1))) := m_pK (by omega) _
      obtain ⟨fuel, rfl⟩ : ∃ k', fuel = k' + 1 := ⟨fuel - 1, by omega⟩
      obtain ⟨g', k1, k2, k3⟩ := tok_0 d m (p + 1) fuel (am_put g 135 0 (nI (p + 1))) (by omega) (by omega) (h.fr hfr (by omega) (m_put _ _ _ _ _))
      rw [eM_token_0, h.1, h.2.1, if_neg (nI_ge (show p < n by omega) (by omega)), q_in (by omega) (by omega), cond_true, cond_true, nI_clamp (by omega), h.2.2.2.2.1 p (by omega), show (1 : Int32) = nI 1 from rfl, nI_add, sc, if_pos e]
      rcases e' with q | q
      · rw [if_pos q]; exact ⟨g', k1, k2, hfr.tr k3⟩
      · rw [if_neg (by rw [q]; decide), if_pos q]; exact ⟨g', k1, k2, hfr.tr k3⟩
    · rw [sc, if_neg e]
      exact tok_one d fuel h (by omega) (fun _ q => e (decide_eq_true q))
theorem M_token (d : Nat) (h : rK0 g T n p) : ∃ g', am_call (d + 3) 139 [.inr (.inr (29, 0))] g = some (none, g') ∧ rKt g' T n (lx T n p) ∧ m_fr sK g g' := by
  have hn := h.2.2.1
  have hp := h.2.2.2.1
  rw [cM_token]
  exact tok_0 d (n - p) p 99999 g (by omega) (by omega) h
end MM
