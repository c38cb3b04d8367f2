/-! ===== Reader: a token ===== -/
section RD
variable {T : Nat → Int32} {n : Nat}
theorem m_fr.R2 {g g' : am_G} (h : m_fr (fun c j => j = 0 ∧ (c = 112 ∨ c = 116)) g g') : m_fr sR g g' := h.mono fun c j q => ⟨q.1, by omega, by omega⟩
theorem R_tok (d : Nat) {p : Nat} {g : am_G} (h1 : rR0 g T n p) (hp : p < n) (h4 : g 114 0 0 = nI p) :
    ∃ g', am_bi (am_call (d + 2) 47 [.inr (.inr (11, 0)), .inl (g 112 0 0)] g) (fun r1 g1 =>
      if r1 = 0 then
        (am_bi (am_call (d + 2) 48 [.inr (.inr (11, 0)), .inl (g1 112 0 0)] g1) (fun r2 g2 =>
        if r2 = 0 then
          (if g2 110 0 0 = 0 then none else
          bif am_in (g2 112 0 0) 700 then
            (if (g2 13 0 (g2 112 0 0).toNatClampNeg) = (45 : Int32) then
            (am_bi (am_call (d + 2) 48 [.inr (.inr (11, 0)), .inl ((g2 112 0 0) + (1 : Int32))] g2) (fun r3 g3 =>
            if r3 = 0 then
              (if g3 110 0 0 = 0 then none else
              bif am_in (g3 112 0 0) 700 then
                (if (g3 13 0 (g3 112 0 0).toNatClampNeg) = (59 : Int32) then
                (some ((none : Option am_V), am_put (am_put g3 113 0 (4 : Int32)) 112 0 (((am_put g3 113 0 (4 : Int32)) 112 0 0) + (1 : Int32))))
              else
                (some (none, am_put (am_put g3 113 0 (5 : Int32)) 112 0 (((am_put g3 113 0 (5 : Int32)) 112 0 0) + (1 : Int32)))))
              else none)
            else
              (am_bv (am_call (d + 2) 50 [.inr (.inr (11, 0))] (am_put (am_put g3 113 0 (3 : Int32)) 112 0 (((am_put g3 113 0 (3 : Int32)) 112 0 0) + (1 : Int32)))) (fun g4 =>
              some (none, am_put g4 116 0 (-(g4 116 0 0)))))))
          else
            (if g2 110 0 0 = 0 then none else
            bif am_in (g2 112 0 0) 700 then
              (if (g2 13 0 (g2 112 0 0).toNatClampNeg) = (59 : Int32) then
              (some (none, am_put (am_put g2 113 0 (4 : Int32)) 112 0 (((am_put g2 113 0 (4 : Int32)) 112 0 0) + (1 : Int32))))
            else
              (some (none, am_put (am_put g2 113 0 (5 : Int32)) 112 0 (((am_put g2 113 0 (5 : Int32)) 112 0 0) + (1 : Int32)))))
            else none))
          else none)
        else
          (am_bv (am_call (d + 2) 50 [.inr (.inr (11, 0))] (am_put g2 113 0 (2 : Int32))) (fun g5 =>
          some (none, g5)))))
      else
        (am_bv (am_call (d + 2) 49 [.inr (.inr (11, 0))] g1) (fun g6 =>
        some (none, g6)))) = some (none, g') ∧ rTk g' T n (lx1 T n p) ∧ m_fr sR g g' := by
  have hn := h1.2.2.2.1
  have hnp : ¬ n ≤ p := by omega
  have h0 : ¬ g 110 0 0 = 0 := by rw [h1.1]; exact q_110
  rw [h1.2.2.1, R_isLetterAt (d + 1) h1 p (by omega), bi_some, decide_eq_true hp, Bool.true_and]
  by_cases eL : kL T p = true
  · have el : lx1 T n p = (if 6 < sc (kL T) (n - p) p - p then 5 else 1, p, sc (kL T) (n - p) p, nI (pkw T p (sc (kL T) (n - p) p))) := by
      unfold lx1; rw [if_neg hnp, if_pos eL]
    obtain ⟨g6, k1, k2, k3, k4, k5, k6⟩ := R_readWord d h1 h4
    rw [if_neg (by rw [b01_0, eL]; simp), k1, bv_some, el]
    refine ⟨g6, rfl, ⟨k2, k3, k4, fun q => k5 (fun q6 => ?_), fun q => ?_⟩, k6⟩
    · dsimp only at q
      rw [if_pos q6] at q
      omega
    · dsimp only at q
      split at q <;> omega
  · rw [if_pos (by rw [b01_0]; simpa using eL), h1.2.2.1, R_isDigitAt (d + 1) h1 p (by omega), bi_some, decide_eq_true hp, Bool.true_and]
    by_cases eD : kD T p = true
    · have el : lx1 T n p = (2, p, sc (kD T) (n - p) p, nI (nu T p (sc (kD T) (n - p) p))) := by
        unfold lx1; rw [if_neg hnp, if_neg eL, if_pos eD]
      obtain ⟨g5, k1, k2, k3, k4⟩ := R_readDigits d (h1.put (c := 113) (x := 2) (by omega))
      rw [if_neg (by rw [b01_0, eD]; simp), k1, bv_some, el]
      refine ⟨g5, rfl, ⟨k2, ?_, ?_, fun q => ?_, fun q => k3⟩, (m_fr.rf.put (sR_in (by omega))).tr k4.R2⟩
      · rw [k4 113 0 (by omega), m_put]; rfl
      · rw [k4 114 0 (by omega), m_put_ne (by simp)]; exact h4
      · dsimp only at q; omega
    · rw [if_pos (by rw [b01_0]; simpa using eD), if_neg h0, if_neg h0, h1.2.2.1, q_s700 hp hn, cond_true, cond_true, nI_clamp (by omega), h1.2.2.2.2.2 p hp]
      have hend : ∀ (hne : ¬ (T p = 45 ∧ p + 1 < n ∧ kD T (p + 1) = true)), ∃ g', (if T p = 59 then (some ((none : Option am_V), am_put (am_put g 113 0 (4 : Int32)) 112 0 (((am_put g 113 0 (4 : Int32)) 112 0 0) + (1 : Int32))))
            else (some (none, am_put (am_put g 113 0 (5 : Int32)) 112 0 (((am_put g 113 0 (5 : Int32)) 112 0 0) + (1 : Int32))))) = some (none, g') ∧ rTk g' T n (lx1 T n p) ∧ m_fr sR g g' := by
        intro hne
        have el : lx1 T n p = (if T p = 59 then 4 else 5, p, p + 1, 0) := by
          unfold lx1; rw [if_neg hnp, if_neg eL, if_neg eD, if_neg hne]
        rw [el]
        by_cases e : T p = 59
        · rw [if_pos e, if_pos e, m_put_ne (by simp), h1.2.2.1, nI_1]
          refine ⟨_, rfl, ⟨(h1.put (by omega)).next (by omega), ?_, ?_, fun q => ?_, fun q => ?_⟩, (m_fr.rf.put (sR_in (by omega))).put (sR_in (by omega))⟩
          · rw [m_put_ne (by simp), m_put]; rfl
          · rw [m_put_ne (by simp), m_put_ne (by simp)]; exact h4
          · dsimp only at q; omega
          · dsimp only at q; omega
        · rw [if_neg e, if_neg e, m_put_ne (by simp), h1.2.2.1, nI_1]
          refine ⟨_, rfl, ⟨(h1.put (by omega)).next (by omega), ?_, ?_, fun q => ?_, fun q => ?_⟩, (m_fr.rf.put (sR_in (by omega))).put (sR_in (by omega))⟩
          · rw [m_put_ne (by simp), m_put]; rfl
          · rw [m_put_ne (by simp), m_put_ne (by simp)]; exact h4
          · dsimp only at q; omega
          · dsimp only at q; omega
      by_cases em : T p = 45
      · rw [if_pos em, nI_1, R_isDigitAt (d + 1) h1 (p + 1) (by omega), bi_some]
        by_cases e2 : p + 1 < n ∧ kD T (p + 1) = true
        · have el : lx1 T n p = (3, p, sc (kD T) (n - (p + 1)) (p + 1), - nI (nu T (p + 1) (sc (kD T) (n - (p + 1)) (p + 1)))) := by
            unfold lx1; rw [if_neg hnp, if_neg eL, if_neg eD, if_pos ⟨em, e2⟩]
          have h2 : rR0 (am_put (am_put g 113 0 (3 : Int32)) 112 0 (nI (p + 1))) T n (p + 1) := (h1.put (by omega)).next (by omega)
          obtain ⟨g5, k1, k2, k3, k4⟩ := R_readDigits d h2
          rw [if_neg (by rw [b01_0, decide_eq_true e2.1, e2.2]; simp), m_put_ne (by simp), h1.2.2.1, nI_1, k1, bv_some, el]
          refine ⟨_, rfl, ⟨k2.put (by omega), ?_, ?_, fun q => ?_, fun q => ?_⟩, ((((m_fr.rf.put (sR_in (by omega))).put (sR_in (by omega))).tr k4.R2).put (sR_in (by omega)))⟩
          · rw [m_put_ne (by simp), k4 113 0 (by omega), m_put_ne (by simp), m_put]; rfl
          · rw [m_put_ne (by simp), k4 114 0 (by omega), m_put_ne (by simp), m_put_ne (by simp)]; exact h4
          · dsimp only at q; omega
          · rw [m_put, k3]
        · rw [if_pos (by rw [b01_0]; simpa using e2), if_neg h0, h1.2.2.1, q_s700 hp hn, cond_true, nI_clamp (by omega), h1.2.2.2.2.2 p hp]
          exact hend (fun q => e2 q.2)
      · rw [if_neg em]
        exact hend (fun q => em q.1)
theorem R_step_loop (d : Nat) : ∀ (m p k : Nat) (g : am_G), rR0 g T n p → p + m = n → m < k →
    ∃ g', am_run (am_call (d + 2)) 46 k 0 [some (.inr (.inr (11, 0)))] [] g = some (none, g') ∧ rTk g' T n (lx1 T n (sc (kB T) m p)) ∧ m_fr sR g g'
  | 0, p, k, g, h, hp, hk => by
    obtain ⟨k, rfl⟩ : ∃ k', k = k' + 1 := ⟨k - 1, by omega⟩
    have hn := h.2.2.2.1
    have e : p = n := by omega
    subst e
    have el : lx1 T p p = (0, p, p, 0) := by unfold lx1; rw [if_pos (Nat.le_refl _)]
    rw [eR_step_0, h.2.2.1, h.2.1, if_pos (nI_le (Nat.le_refl _) (by omega)), m_put_ne (by simp), m_put_ne (by simp), h.2.2.1, h.2.1, if_neg (nI_nlt (Nat.le_refl _) (by omega)), sc, el]
    refine ⟨_, rfl, ⟨(h.put (by omega)).put (by omega), m_put _ _ _ _ _, ?_, fun q => ?_, fun q => ?_⟩, (m_fr.rf.put (sR_in (by omega))).put (sR_in (by omega))⟩
    · rw [m_put_ne (by simp), m_put]
    · dsimp only at q; omega
    · dsimp only at q; omega
  | m + 1, p, k, g, h, hp, hk => by
    obtain ⟨k, rfl⟩ : ∃ k', k = k' + 1 := ⟨k - 1, by omega⟩
    have hn := h.2.2.2.1
    have hpn : p < n := by omega
    have h0 : ¬ g 110 0 0 = 0 := by rw [h.1]; exact q_110
    rw [eR_step_0, if_neg h0, if_neg h0, h.2.2.1, h.2.1, if_neg (nI_ge hpn (by omega)), q_s700 hpn hn, cond_true, cond_true, nI_clamp (by omega), h.2.2.2.2.2 p hpn, nI_1, sc]
    by_cases e1 : T p = 10
    · rw [if_pos e1, if_pos (show kB T p = true from decide_eq_true (Or.inl e1))]
      obtain ⟨g', k1, k2, k3⟩ := R_step_loop d m (p + 1) k (am_put g 112 0 (nI (p + 1))) (h.next (by omega)) (by omega) (by omega)
      exact ⟨g', k1, k2, (m_fr.rf.put (sR_in (by omega))).tr k3⟩
    · rw [if_neg e1]
      by_cases e2 : T p = 32
      · rw [if_pos e2, if_pos (show kB T p = true from decide_eq_true (Or.inr e2))]
        obtain ⟨g', k1, k2, k3⟩ := R_step_loop d m (p + 1) k (am_put g 112 0 (nI (p + 1))) (h.next (by omega)) (by omega) (by omega)
        exact ⟨g', k1, k2, (m_fr.rf.put (sR_in (by omega))).tr k3⟩
      · have h1 : rR0 (am_put g 114 0 (nI p)) T n p := h.put (by omega)
        have hlt : (am_put g 114 0 (nI p)) 112 0 0 < (am_put g 114 0 (nI p)) 111 0 0 := by rw [h1.2.2.1, h1.2.1]; exact nI_lt hpn (by omega)
        rw [if_neg e2, if_neg (show ¬ kB T p = true from fun q => (of_decide_eq_true q).elim e1 e2), if_pos hlt]
        obtain ⟨g', k1, k2, k3⟩ := R_tok d h1 hpn (m_put _ _ _ _ _)
        exact ⟨g', k1, k2, (m_fr.rf.put (sR_in (by omega))).tr k3⟩
theorem R_step (d : Nat) {p : Nat} {g : am_G} (h : rR0 g T n p) : ∃ g', am_call (d + 3) 46 [.inr (.inr (11, 0))] g = some (none, g') ∧ rTk g' T n (lx T n p) ∧ m_fr sR g g' := by
  have hn := h.2.2.2.1
  have hp := h.2.2.2.2.1
  rw [cR_step]
  exact R_step_loop d (n - p) p (99999 + 1) g h (by omega) (by omega)
theorem R_opn (d : Nat) {g : am_G} (hn : n ≤ 700) (hT : ∀ k, k < n → g 13 0 k = T k) : ∃ g', am_call (d + 4) 45 [.inr (.inr (11, 0)), .inr (.inr (13, 0)), .inl (nI n)] g = some (none, g') ∧ rTk g' T n (lx T n 0) ∧ m_fr sR g g' := by
  rw [cR_opn, eR_opn_0, if_neg (nI_nlt hn (by omega))]
  have h : rR0 (am_put (am_put (am_put g 110 0 1) 111 0 (nI n)) 112 0 (0 : Int32)) T n 0 := by
    refine ⟨?_, ?_, m_put _ _ _ _ _, hn, Nat.zero_le _, fun k hk => ?_⟩
    · rw [m_put_ne (by simp), m_put_ne (by simp), m_put]
    · rw [m_put_ne (by simp), m_put]
    · rw [m_put_ne (by simp), m_put_ne (by simp), m_put_ne (by simp)]; exact hT k hk
  obtain ⟨g', k1, k2, k3⟩ := R_step d h
  rw [k1, bv_some]
  exact ⟨g', rfl, k2, (((m_fr.rf.put (sR_in (by omega))).put (sR_in (by omega))).put (sR_in (by omega))).tr k3⟩
end RD
