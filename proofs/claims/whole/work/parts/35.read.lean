/-! ===== Reader ===== -/
def sR : Nat → Nat → Prop := fun c j => j = 0 ∧ 110 ≤ c ∧ c ≤ 116
/-- the reader ahead of place p of a text of n bytes -/
def rR0 (g : am_G) (T : Nat → Int32) (n p : Nat) : Prop := g 110 0 0 = 1 ∧ g 111 0 0 = nI n ∧ g 112 0 0 = nI p ∧ n ≤ 700 ∧ p ≤ n ∧ ∀ k, k < n → g 13 0 k = T k
def rTk (g : am_G) (T : Nat → Int32) (n : Nat) (t : tk) : Prop := rR0 g T n t.2.2.1 ∧ g 113 0 0 = nI t.1 ∧ g 114 0 0 = nI t.2.1 ∧ (t.1 = 1 → g 115 0 0 = t.2.2.2) ∧ (t.1 = 2 ∨ t.1 = 3 → g 116 0 0 = t.2.2.2)
theorem sR_in {c : Nat} (h : 110 ≤ c ∧ c ≤ 116) : sR c 0 := ⟨rfl, h⟩
section RD
variable {g : am_G} {T : Nat → Int32} {n p : Nat}
theorem q_s700 {k : Nat} (h : k < n) (hn : n ≤ 700) : am_in (nI k) 700 = true := q_in (by omega) (by omega)
theorem q_110 : ¬ (1 : Int32) = 0 := by decide
theorem b01_0 (b : Bool) : b01 b = 0 ↔ b = false := by cases b <;> simp [b01]
theorem R_isLetterAt (d : Nat) (h : rR0 g T n p) (a : Nat) (ha : a < 2 ^ 31) : am_call (d + 1) 47 [.inr (.inr (11, 0)), .inl (nI a)] g = some (some (.inl (b01 (decide (a < n) && kL T a))), g) := by
  obtain ⟨h0, h1, -, hn, -, hT⟩ := h
  rw [cR_isLetterAt, eR_isLetterAt_0, h1, h0]
  by_cases e : a < n
  · rw [if_neg (nI_ge e (by omega)), if_neg q_110, if_neg q_110, q_s700 e hn, cond_true, cond_true, nI_clamp ha, hT a e]
    unfold kL
    by_cases e1 : T a < 97
    · rw [if_pos e1, decide_eq_true e, decide_eq_false (fun q => by have := (q_le _ _).mp q.1; have := (q_lt _ _).mp e1; omega)]; rfl
    · rw [if_neg e1]
      by_cases e2 : (122 : Int32) < T a
      · rw [if_pos e2, decide_eq_true e, decide_eq_false (fun q => by have := (q_le _ _).mp q.2; have := (q_lt _ _).mp e2; omega)]; rfl
      · rw [if_neg e2, decide_eq_true e, decide_eq_true (show 97 ≤ T a ∧ T a ≤ 122 by rw [q_le, q_le]; rw [q_lt] at e1 e2; omega)]; rfl
  · rw [if_pos (nI_le (by omega) (by omega)), decide_eq_false e]; rfl
theorem R_isDigitAt (d : Nat) (h : rR0 g T n p) (a : Nat) (ha : a < 2 ^ 31) : am_call (d + 1) 48 [.inr (.inr (11, 0)), .inl (nI a)] g = some (some (.inl (b01 (decide (a < n) && kD T a))), g) := by
  obtain ⟨h0, h1, -, hn, -, hT⟩ := h
  rw [cR_isDigitAt, eR_isDigitAt_0, h1, h0]
  by_cases e : a < n
  · rw [if_neg (nI_ge e (by omega)), if_neg q_110, if_neg q_110, q_s700 e hn, cond_true, cond_true, nI_clamp ha, hT a e]
    unfold kD
    by_cases e1 : T a < 48
    · rw [if_pos e1, decide_eq_true e, decide_eq_false (fun q => by have := (q_le _ _).mp q.1; have := (q_lt _ _).mp e1; omega)]; rfl
    · rw [if_neg e1]
      by_cases e2 : (57 : Int32) < T a
      · rw [if_pos e2, decide_eq_true e, decide_eq_false (fun q => by have := (q_le _ _).mp q.2; have := (q_lt _ _).mp e2; omega)]; rfl
      · rw [if_neg e2, decide_eq_true e, decide_eq_true (show 48 ≤ T a ∧ T a ≤ 57 by rw [q_le, q_le]; rw [q_lt] at e1 e2; omega)]; rfl
  · rw [if_pos (nI_le (by omega) (by omega)), decide_eq_false e]; rfl
theorem rR0.put {c : Nat} {x : Int32} (h : rR0 g T n p) (hc : c ≠ 110 ∧ c ≠ 111 ∧ c ≠ 112 ∧ c ≠ 13) : rR0 (am_put g c 0 x) T n p := by
  obtain ⟨h0, h1, h2, h3, h4, h5⟩ := h
  refine ⟨?_, ?_, ?_, h3, h4, fun k hk => ?_⟩
  · rw [m_put_ne (fun q => hc.1 q.1.symm)]; exact h0
  · rw [m_put_ne (fun q => hc.2.1 q.1.symm)]; exact h1
  · rw [m_put_ne (fun q => hc.2.2.1 q.1.symm)]; exact h2
  · rw [m_put_ne (fun q => hc.2.2.2 q.1.symm)]; exact h5 k hk
theorem rR0.next (h : rR0 g T n p) {p' : Nat} (hp : p' ≤ n) : rR0 (am_put g 112 0 (nI p')) T n p' := by
  obtain ⟨h0, h1, h2, h3, h4, h5⟩ := h
  refine ⟨?_, ?_, m_put _ _ _ _ _, h3, hp, fun k hk => ?_⟩
  · rw [m_put_ne (by simp)]; exact h0
  · rw [m_put_ne (by simp)]; exact h1
  · rw [m_put_ne (by simp)]; exact h5 k hk
/-- the rest of a word, j letters of it read -/
theorem R_word_loop (d : Nat) {a : Nat} : ∀ (m j k : Nat) (g : am_G) (x1 : Int32), rR0 g T n (a + j) → a + j + m = n → m < k → (∀ x, a ≤ x → x < a + j → kL T x = true) → g 114 0 0 = nI a → x1.toInt = 25 - 5 * (j : Int) → (j ≤ 6 → g 115 0 0 = nI (pkv T a j * 32 ^ (6 - j))) →
    ∃ g', am_run (am_call (d + 1)) 49 k 5 [some (.inr (.inr (11, 0))), some (.inl x1)] [] g = some (none, g') ∧ rR0 g' T n (sc (kL T) m (a + j)) ∧ g' 113 0 0 = nI (if 6 < sc (kL T) m (a + j) - a then 5 else 1) ∧ g' 114 0 0 = nI a ∧ (¬ 6 < sc (kL T) m (a + j) - a → g' 115 0 0 = nI (pkw T a (sc (kL T) m (a + j)))) ∧ m_fr sR g g' := by
  intro m
  have fin : ∀ (j : Nat) (g : am_G), rR0 g T n (a + j) → g 114 0 0 = nI a → (j ≤ 6 → g 115 0 0 = nI (pkv T a j * 32 ^ (6 - j))) → ∃ g', (if (g 112 0 0) - (g 114 0 0) ≤ (6 : Int32) then some ((none : Option am_V), am_put g 113 0 (1 : Int32)) else some (none, am_put g 113 0 (5 : Int32))) = some (none, g') ∧ rR0 g' T n (a + j) ∧ g' 113 0 0 = nI (if 6 < a + j - a then 5 else 1) ∧ g' 114 0 0 = nI a ∧ (¬ 6 < a + j - a → g' 115 0 0 = nI (pkw T a (a + j))) ∧ m_fr sR g g' := by
    intro j g h h4 h5
    have hn := h.2.2.2.1
    have hp := h.2.2.2.2.1
    rw [h.2.2.1, h4, pk_sub (by omega), show a + j - a = j by omega]
    by_cases e : 6 < j
    · rw [show (6 : Int32) = nI 6 from rfl, if_neg (nI_ge (a := 6) e (by omega)), if_pos e]
      refine ⟨_, rfl, h.put (by omega), m_put _ _ _ _ _, ?_, fun q => absurd e q, m_fr.rf.put (sR_in (by omega))⟩
      rw [m_put_ne (by simp)]; exact h4
    · rw [show (6 : Int32) = nI 6 from rfl, if_pos (nI_le (a := j) (b := 6) (by omega) (by omega)), if_neg e]
      refine ⟨_, rfl, h.put (by omega), m_put _ _ _ _ _, ?_, fun _ => ?_, m_fr.rf.put (sR_in (by omega))⟩
      · rw [m_put_ne (by simp)]; exact h4
      · rw [m_put_ne (by simp), pkw_eq T (by omega)]; exact h5 (by omega)
  induction m with
  | zero =>
    intro j k g x1 h hj hk hL h4 hx h5
    obtain ⟨k, rfl⟩ : ∃ k', k = k' + 1 := ⟨k - 1, by omega⟩
    have hn := h.2.2.2.1
    rw [eR_readWord_5, h.2.1, h.2.2.1, if_pos (nI_le (by omega) (by omega)), sc]
    have := fin j g h h4 h5
    rw [h.2.2.1] at this
    exact this
  | succ m ih =>
    intro j k g x1 h hj hk hL h4 hx h5
    obtain ⟨k, rfl⟩ : ∃ k', k = k' + 1 := ⟨k - 1, by omega⟩
    have hn := h.2.2.2.1
    rw [eR_readWord_5, h.2.1, h.2.2.1, if_neg (nI_ge (by omega) (by omega)), R_isLetterAt d h (a + j) (by omega), bi_some, decide_eq_true (show a + j < n by omega), Bool.true_and, sc]
    by_cases e : kL T (a + j) = true
    · rw [if_neg (by rw [b01_0, e]; simp), if_pos e]
      obtain ⟨c, c1, c2, c3⟩ := kL_of e
      have hL' : ∀ x, a ≤ x → x < a + (j + 1) → kL T x = true := fun x h1 h2 => by
        by_cases q : x = a + j
        · rw [q]; exact e
        · exact hL x h1 (by omega)
      have hx' : (x1 + (-5)).toInt = 25 - 5 * ((j + 1 : Nat) : Int) := by
        rw [fb_addI (by rw [hx, show (-5 : Int32).toInt = -5 by decide]; omega) (by rw [hx, show (-5 : Int32).toInt = -5 by decide]; omega), hx, show (-5 : Int32).toInt = -5 by decide]
        omega
      by_cases e6 : x1 < 0
      · have hj6 : 6 ≤ j := by rw [q_lt, hx, Int32.toInt_zero] at e6; omega
        rw [if_pos e6, h.2.2.1, nI_1]
        obtain ⟨g', k1, k2, k3, k4, k5, k6⟩ := ih (j + 1) k (am_put g 112 0 (nI (a + j + 1))) (x1 + (-5)) (h.next (by omega)) (by omega) (by omega) hL' (by rw [m_put_ne (by simp)]; exact h4) hx' (fun q => by omega)
        exact ⟨g', k1, k2, k3, k4, k5, (m_fr.rf.put (sR_in (by omega))).tr k6⟩
      · have hj6 : j < 6 := by rw [q_lt, hx, Int32.toInt_zero] at e6; omega
        have ex : x1 = nI (25 - 5 * j) := by
          rw [q_eq, hx, nI_toInt (by omega)]
          omega
        rw [if_neg e6, if_neg (by rw [h.1]; exact q_110), h.2.2.1, q_s700 (show a + j < n by omega) hn, cond_true, nI_clamp (by omega), h.2.2.2.2.2 (a + j) (by omega), c3, m_put_ne (by simp), h.2.2.1, nI_1, h5 (by omega), show (96 : Int32) = nI 96 from rfl, pk_sub (by omega)]
        have hd : dl T (a + j) = c - 96 := by unfold dl; rw [c3, nI_clamp (by omega)]
        have ep : nI (pkv T a j * 32 ^ (6 - j)) ||| (nI (c - 96) <<< (x1 &&& 31)) = nI (pkv T a (j + 1) * 32 ^ (6 - (j + 1))) := by
          have e1 : pkv T a (j + 1) = pkv T a j * 32 + (c - 96) := by
            unfold pkv
            rw [fo_last, hd]
          have e2 : (32 : Nat) ^ (6 - j) = 2 ^ (25 - 5 * j + 5) := by rw [show (32 : Nat) = 2 ^ 5 from rfl, ← Nat.pow_mul, show 5 * (6 - j) = 25 - 5 * j + 5 by omega]
          have e3 : (32 : Nat) ^ (6 - (j + 1)) = 2 ^ (25 - 5 * j) := by rw [show (32 : Nat) = 2 ^ 5 from rfl, ← Nat.pow_mul, show 5 * (6 - (j + 1)) = 25 - 5 * j by omega]
          rw [ex, e1, e2, e3, nx_put (by omega) (by omega)]
        rw [ep]
        obtain ⟨g', k1, k2, k3, k4, k5, k6⟩ := ih (j + 1) k (am_put (am_put g 115 0 (nI (pkv T a (j + 1) * 32 ^ (6 - (j + 1))))) 112 0 (nI (a + j + 1))) (x1 + (-5)) ((h.put (by omega)).next (by omega)) (by omega) (by omega) hL' (by rw [m_put_ne (by simp), m_put_ne (by simp)]; exact h4) hx' (fun q => by rw [m_put_ne (by simp), m_put])
        exact ⟨g', k1, k2, k3, k4, k5, ((m_fr.rf.put (sR_in (by omega))).put (sR_in (by omega))).tr k6⟩
    · rw [if_pos (by rw [b01_0]; simpa using e), if_neg e]
      have := fin j g h h4 h5
      exact this
theorem R_readWord (d : Nat) {a : Nat} (h : rR0 g T n a) (h4 : g 114 0 0 = nI a) : ∃ g', am_call (d + 2) 49 [.inr (.inr (11, 0))] g = some (none, g') ∧ rR0 g' T n (sc (kL T) (n - a) a) ∧ g' 113 0 0 = nI (if 6 < sc (kL T) (n - a) a - a then 5 else 1) ∧ g' 114 0 0 = nI a ∧ (¬ 6 < sc (kL T) (n - a) a - a → g' 115 0 0 = nI (pkw T a (sc (kL T) (n - a) a))) ∧ m_fr sR g g' := by
  have hn := h.2.2.2.1
  have hp := h.2.2.2.2.1
  rw [cR_readWord, eR_readWord_0]
  obtain ⟨g', k1, k2, k3, k4, k5, k6⟩ := R_word_loop (T := T) (n := n) (a := a) d (n - a) 0 99999 (am_put g 115 0 (0 : Int32)) 25 (h.put (by omega)) (by omega) (by omega) (fun x h1 h2 => by omega) (by rw [m_put_ne (by simp)]; exact h4) (by decide) (fun _ => by rw [m_put]; unfold pkv; rw [fo, Nat.zero_mul]; rfl)
  exact ⟨g', k1, k2, k3, k4, k5, (m_fr.rf.put (sR_in (by omega))).tr k6⟩
theorem R_digit_loop (d : Nat) : ∀ (m p k v : Nat) (g : am_G), rR0 g T n p → p + m = n → m < k → v ≤ 1000000 → g 116 0 0 = nI v →
    ∃ g', am_run (am_call (d + 1)) 50 k 3 [some (.inr (.inr (11, 0)))] [] g = some (none, g') ∧ rR0 g' T n (sc (kD T) m p) ∧ g' 116 0 0 = nI (fo (nust T) v p (sc (kD T) m p - p)) ∧ m_fr (fun c j => j = 0 ∧ (c = 112 ∨ c = 116)) g g'
  | 0, p, k, v, g, h, hp, hk, hv, h6 => by
    obtain ⟨k, rfl⟩ : ∃ k', k = k' + 1 := ⟨k - 1, by omega⟩
    have hn := h.2.2.2.1
    rw [eR_readDigits_3, h.2.1, h.2.2.1, if_pos (nI_le (by omega) (by omega)), sc, Nat.sub_self]
    exact ⟨g, rfl, h, h6, m_fr.rf⟩
  | m + 1, p, k, v, g, h, hp, hk, hv, h6 => by
    obtain ⟨k, rfl⟩ : ∃ k', k = k' + 1 := ⟨k - 1, by omega⟩
    have hn := h.2.2.2.1
    rw [eR_readDigits_3, h.2.1, h.2.2.1, if_neg (nI_ge (by omega) (by omega)), R_isDigitAt d h p (by omega), bi_some, decide_eq_true (show p < n by omega), Bool.true_and, sc]
    by_cases e : kD T p = true
    · rw [if_neg (by rw [b01_0, e]; simp), if_pos e, h6]
      obtain ⟨c, c1, c2, c3⟩ := kD_of e
      have hsg := sc_ge (kD T) m (p + 1)
      have hfo : fo (nust T) v p (sc (kD T) m (p + 1) - p) = fo (nust T) (nust T v p) (p + 1) (sc (kD T) m (p + 1) - (p + 1)) := by
        rw [show sc (kD T) m (p + 1) - p = (sc (kD T) m (p + 1) - (p + 1)) + 1 by omega, fo]
      by_cases e9 : 99999 < v
      · have en : nust T v p = v := if_neg (by omega)
        rw [show (99999 : Int32) = nI 99999 from rfl, if_pos (nI_lt (a := 99999) e9 (by omega)), h.2.2.1, nI_1, hfo, en]
        obtain ⟨g', k1, k2, k3, k4⟩ := R_digit_loop d m (p + 1) k v (am_put g 112 0 (nI (p + 1))) (h.next (by omega)) (by omega) (by omega) hv (by rw [m_put_ne (by simp)]; exact h6)
        exact ⟨g', k1, k2, k3, (m_fr.rf.put ⟨rfl, Or.inl rfl⟩).tr k4⟩
      · have en : nust T v p = v * 10 + (c - 48) := by unfold nust; rw [if_pos (by omega), c3, nI_clamp (by omega)]
        rw [show (99999 : Int32) = nI 99999 from rfl, if_neg (nI_nlt (a := 99999) (b := v) (by omega) (by omega)), if_neg (by rw [h.1]; exact q_110), h.2.2.1, q_s700 (show p < n by omega) hn, cond_true, nI_clamp (by omega), h.2.2.2.2.2 p (by omega), c3, m_put_ne (by simp), h.2.2.1, nI_1, show (10 : Int32) = nI 10 from rfl, pk_mul, nI_add, show (48 : Int32) = nI 48 from rfl, pk_sub (by omega), show v * 10 + c - 48 = v * 10 + (c - 48) by omega, hfo, en]
        obtain ⟨g', k1, k2, k3, k4⟩ := R_digit_loop d m (p + 1) k (v * 10 + (c - 48)) (am_put (am_put g 116 0 (nI (v * 10 + (c - 48)))) 112 0 (nI (p + 1))) ((h.put (by omega)).next (by omega)) (by omega) (by omega) (by omega) (by rw [m_put_ne (by simp), m_put])
        exact ⟨g', k1, k2, k3, ((m_fr.rf.put ⟨rfl, Or.inr rfl⟩).put ⟨rfl, Or.inl rfl⟩).tr k4⟩
    · rw [if_pos (by rw [b01_0]; simpa using e), if_neg e, Nat.sub_self]
      exact ⟨g, rfl, h, h6, m_fr.rf⟩
theorem R_readDigits (d : Nat) (h : rR0 g T n p) : ∃ g', am_call (d + 2) 50 [.inr (.inr (11, 0))] g = some (none, g') ∧ rR0 g' T n (sc (kD T) (n - p) p) ∧ g' 116 0 0 = nI (nu T p (sc (kD T) (n - p) p)) ∧ m_fr (fun c j => j = 0 ∧ (c = 112 ∨ c = 116)) g g' := by
  have hn := h.2.2.2.1
  have hp := h.2.2.2.2.1
  rw [cR_readDigits, eR_readDigits_0]
  obtain ⟨g', k1, k2, k3, k4⟩ := R_digit_loop (T := T) (n := n) d (n - p) p 99999 0 (am_put g 116 0 (0 : Int32)) (h.put (by omega)) (by omega) (by omega) (by omega) (m_put _ _ _ _ _)
  exact ⟨g', k1, k2, k3, (m_fr.rf.put ⟨rfl, Or.inr rfl⟩).tr k4⟩
end RD
