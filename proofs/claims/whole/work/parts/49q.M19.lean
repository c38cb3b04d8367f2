/-! ===== the model: token ===== -/
def sK : Nat → Nat → Prop := fun c j => j = 0 ∧ 135 ≤ c ∧ c ≤ 138
def rK0 (g : am_G) (T : Nat → Int32) (n p : Nat) : Prop := g 134 0 0 = nI n ∧ g 135 0 0 = nI p ∧ n ≤ 700 ∧ p ≤ n ∧ (∀ k, k < n → g 30 0 k = T k) ∧ ∀ k, k < 33 → g 31 0 k = kw k
def kM (t : tk) : Int32 := if t.1 = 0 then 0 else if t.1 = 1 then (if isKw t.2.2.2 = true then 1 else 2) else if t.1 = 2 then 3 else if t.1 = 3 then 6 else if t.1 = 4 then 4 else 5
def rKt (g : am_G) (T : Nat → Int32) (n : Nat) (t : tk) : Prop := rK0 g T n t.2.2.1 ∧ g 136 0 0 = kM t ∧ g 138 0 0 = nI t.2.1 ∧ (t.1 = 1 → isKw t.2.2.2 = false → g 137 0 0 = t.2.2.2) ∧ (t.1 = 1 → isKw t.2.2.2 = true → g 137 0 0 = kwI t.2.2.2) ∧ (t.1 = 2 ∨ t.1 = 3 → g 137 0 0 = t.2.2.2)
section MM
variable {g : am_G} {T : Nat → Int32} {n p : Nat}
theorem rK0.fr {g' : am_G} {p' : Nat} (h : rK0 g T n p) (hf : m_fr sK g g') (hp : p' ≤ n) (h' : g' 135 0 0 = nI p') : rK0 g' T n p' := by
  obtain ⟨a1, a2, a3, a4, a5, a6⟩ := h
  have z : ∀ c, c < 135 → g' c 0 = g c 0 := fun c hc => hf c 0 (fun q => by have := q.2.1; omega)
  exact ⟨by rw [z _ (by omega)]; exact a1, h', a3, hp, fun k hk => by rw [z _ (by omega)]; exact a5 k hk, fun k hk => by rw [z _ (by omega)]; exact a6 k hk⟩
theorem m_pK {c : Nat} (hc : 135 ≤ c ∧ c ≤ 138) (x : Int32) : m_fr sK g (am_put g c 0 x) := m_fr.put m_fr.rf ⟨rfl, hc⟩
theorem kwI_s (v : Int32) : (isKw v = true ∧ ¬ kwI v < 0) ∨ (isKw v = false ∧ kwI v < 0) := by
  unfold isKw kwI
  by_cases h1 : v = 412560384
  · left; rw [h1]; decide
  · by_cases h2 : v = 620220416
    · left; rw [h2]; decide
    · by_cases h3 : v = 642945024
      · left; rw [h3]; decide
      · by_cases h4 : v = 643453317
        · left; rw [h4]; decide
        · by_cases h5 : v = 687508736
          · left; rw [h5]; decide
          · by_cases h6 : v = 687585280
            · left; rw [h6]; decide
            · right
              rw [decide_eq_false h1, decide_eq_false h2, decide_eq_false h3, decide_eq_false h4, decide_eq_false h5, decide_eq_false h6, if_neg h6, if_neg h1, if_neg h2, if_neg h5, if_neg h4, if_neg h3]
              decide
theorem tok_143 (d : Nat) : ∀ (m p v fuel : Nat) (g : am_G), p + m = n → m < fuel → rK0 g T n p → g 137 0 0 = nI v → v ≤ 1000000 →
    ∃ g', am_run (am_call (d + 1)) 139 fuel 143 [some (.inr (.inr (29, 0)))] [] g = some (none, g') ∧ rK0 g' T n (sc (kD T) m p) ∧ g' 137 0 0 = (if g 136 0 0 = 6 then - nI (fo (nust T) v p (sc (kD T) m p - p)) else nI (fo (nust T) v p (sc (kD T) m p - p))) ∧ m_fr sK g g' ∧ g' 136 0 0 = g 136 0 0 ∧ g' 138 0 0 = g 138 0 0
  | 0, p, v, fuel, g, hp, hf, h, hv, hv1 => by
    obtain ⟨fuel, rfl⟩ : ∃ k', fuel = k' + 1 := ⟨fuel - 1, by omega⟩
    rw [eM_token_143, h.2.1, M_isDigit d h.1 h.2.2.1 h.2.2.2.2.1 h.2.2.2.1, decide_eq_false (by omega), Bool.false_and, bi_some, if_pos b01_f, hv, sc, Nat.sub_self, fo]
    by_cases e : g 136 0 0 = 6
    · rw [if_pos e, if_pos e]
      exact ⟨_, rfl, h.fr (m_pK (by omega) _) h.2.2.2.1 (by rw [m_put_ne (by simp)]; exact h.2.1), m_put _ _ _ _ _, m_pK (by omega) _, by rw [m_put_ne (by simp)], by rw [m_put_ne (by simp)]⟩
    · rw [if_neg e, if_neg e]
      exact ⟨_, rfl, h, hv, m_fr.rf, rfl, rfl⟩
  | m + 1, p, v, fuel, g, hp, hf, h, hv, hv1 => by
    obtain ⟨fuel, rfl⟩ : ∃ k', fuel = k' + 1 := ⟨fuel - 1, by omega⟩
    have hn := h.2.2.1
    rw [eM_token_143, h.2.1, M_isDigit d h.1 h.2.2.1 h.2.2.2.2.1 h.2.2.2.1, decide_eq_true (show p < n by omega), Bool.true_and, bi_some, hv, h.2.1]
    by_cases e : kD T p = true
    · obtain ⟨c, c1, c2, c3⟩ := kD_of e
      have e1 := sc_ge (kD T) m (p + 1)
      have key : ∀ w, w ≤ 1000000 → nust T v p = w → ∃ g', am_run (am_call (d + 1)) 139 fuel 143 [some (.inr (.inr (29, 0)))] [] (am_put (am_put g 137 0 (nI w)) 135 0 (nI (p + 1))) = some (none, g') ∧ rK0 g' T n (sc (kD T) (m + 1) p) ∧ g' 137 0 0 = (if g 136 0 0 = 6 then - nI (fo (nust T) v p (sc (kD T) (m + 1) p - p)) else nI (fo (nust T) v p (sc (kD T) (m + 1) p - p))) ∧ m_fr sK g g' ∧ g' 136 0 0 = g 136 0 0 ∧ g' 138 0 0 = g 138 0 0 := fun w hw hx => by
        have hfr : m_fr sK g (am_put (am_put g 137 0 (nI w)) 135 0 (nI (p + 1))) := (m_pK (by omega) _).tr (m_pK (by omega) _)
        obtain ⟨g', k1, k2, k3, k4, k5, k6⟩ := tok_143 d m (p + 1) w fuel (am_put (am_put g 137 0 (nI w)) 135 0 (nI (p + 1))) (by omega) (by omega) (h.fr hfr (by omega) (m_put _ _ _ _ _)) (by rw [m_put_ne (by simp), m_put]) hw
        rw [sc, if_pos e, show sc (kD T) m (p + 1) - p = (sc (kD T) m (p + 1) - (p + 1)) + 1 by omega, fo, hx]
        rw [m_put_ne (by simp), m_put_ne (by simp)] at k3 k5 k6
        exact ⟨g', k1, k2, k3, hfr.tr k4, k5, k6⟩
      rw [if_neg (by rw [e]; exact b01_t), show (99999 : Int32) = nI 99999 from rfl]
      by_cases ev : v ≤ 99999
      · have ex : (10 : Int32) * nI v + T p - 48 = nI (v * 10 + ((T p).toNatClampNeg - 48)) := by
          rw [c3, nI_clamp (by omega), show (10 : Int32) = nI 10 from rfl, show (48 : Int32) = nI 48 from rfl, pk_mul, nI_add, pk_sub (by omega)]
          congr 1
          omega
        have hw : v * 10 + ((T p).toNatClampNeg - 48) ≤ 1000000 := by rw [c3, nI_clamp (by omega)]; omega
        rw [if_pos (nI_le ev (by omega)), q_in (by omega) (by omega), cond_true, nI_clamp (by omega), h.2.2.2.2.1 p (by omega), ex, m_put_ne (by simp), h.2.1, nI_1]
        exact key _ hw (by unfold nust; rw [if_pos ev])
      · rw [if_neg (nI_ge (by omega) (by omega)), m_put_ne (by simp), h.2.1, nI_1]
        exact key v hv1 (by unfold nust; rw [if_neg ev])
    · rw [if_pos (show b01 (kD T p) = 0 by rw [b01_0]; simpa using e), sc, if_neg e, Nat.sub_self, fo]
      by_cases e6 : g 136 0 0 = 6
      · rw [if_pos e6, if_pos e6]
        exact ⟨_, rfl, h.fr (m_pK (by omega) _) h.2.2.2.1 (by rw [m_put_ne (by simp)]; exact h.2.1), m_put _ _ _ _ _, m_pK (by omega) _, by rw [m_put_ne (by simp)], by rw [m_put_ne (by simp)]⟩
      · rw [if_neg e6, if_neg e6]
        exact ⟨_, rfl, h, hv, m_fr.rf, rfl, rfl⟩
theorem tok_44e (d : Nat) {a : Nat} (fuel : Nat) (h : rK0 g T n p) (h8 : g 138 0 0 = nI a) (hap : a < p) (hl : ∀ x, a ≤ x → x < p → kL T x = true) (hend : (decide (p < n) && kL T p) = false) :
    ∃ g', am_run (am_call (d + 1)) 139 (fuel + 1) 44 [some (.inr (.inr (29, 0)))] [] g = some (none, g') ∧ rKt g' T n (if 6 < p - a then 5 else 1, a, p, nI (pkw T a p)) ∧ m_fr sK g g' := by
  have hn := h.2.2.1
  have hp := h.2.2.2.1
  rw [eM_token_44, h.2.1, M_isSmall d h.1 h.2.2.1 h.2.2.2.2.1 h.2.2.2.1, hend, bi_some, if_pos b01_f, h.2.1, h8, M_wordAt d hn h.2.2.2.2.1 h.2.2.2.2.2 (by omega) hp hl, bi_some, m_put]
  generalize hW : (if p ≤ a + 6 then kwI (nI (pkw T a p)) else (-1 : Int32)) = W
  have f1 : am_put g 137 0 W 135 0 0 = nI p := by rw [m_put_ne (by simp)]; exact h.2.1
  have f2 : am_put g 137 0 W 138 0 0 = nI a := by rw [m_put_ne (by simp)]; exact h8
  have fr : ∀ k : Int32, m_fr sK g (am_put (am_put g 137 0 W) 136 0 k) := fun k => (m_pK (by omega) _).tr (m_pK (by omega) _)
  have f3 : ∀ k : Int32, am_put (am_put g 137 0 W) 136 0 k 135 0 0 = nI p := fun k => by rw [m_put_ne (by simp)]; exact f1
  have f4 : ∀ k : Int32, am_put (am_put g 137 0 W) 136 0 k 138 0 0 = nI a := fun k => by rw [m_put_ne (by simp)]; exact f2
  have f5 : ∀ k : Int32, am_put (am_put g 137 0 W) 136 0 k 137 0 0 = W := fun k => by rw [m_put_ne (by simp), m_put]
  have f6 : ∀ k : Int32, am_put (am_put g 137 0 W) 136 0 k 136 0 0 = k := fun k => m_put _ _ _ _ _
  rw [f1, f2, pk_sub (by omega), f6, f6, f6, f3, f4, show (6 : Int32) = nI 6 from rfl]
  by_cases e : p ≤ a + 6
  · rw [if_pos e] at hW
    rw [if_neg (show ¬ 6 < p - a by omega)]
    rcases kwI_s (nI (pkw T a p)) with ⟨s1, s2⟩ | ⟨s1, s2⟩
    · rw [if_neg (by rw [← hW]; exact s2), if_neg (show ¬ (1 : Int32) = 2 by decide)]
      refine ⟨_, rfl, ⟨h.fr (fr _) hp (f3 _), ?_, f4 _, fun _ q => ?_, fun _ _ => by rw [f5, ← hW], fun q => ?_⟩, fr _⟩
      · rw [f6]; show (1 : Int32) = kM (1, a, p, nI (pkw T a p)); unfold kM; rw [if_neg (show ¬ 1 = 0 by decide), if_pos rfl, if_pos s1]
      · rw [s1] at q; cases q
      · rcases q with q | q <;> cases q
    · have hp5 := M_packed (g := am_put (am_put g 137 0 W) 136 0 (2 : Int32)) (T := T) (n := n) d hn (fun k hk => by rw [m_put_ne (by simp), m_put_ne (by simp)]; exact h.2.2.2.2.1 k hk) hp (show a ≤ p by omega) hl
      rw [if_pos (by rw [← hW]; exact s2), if_pos (nI_le (show p - a ≤ 6 by omega) (by omega)), if_pos rfl, hp5, bi_some]
      have fr2 : m_fr sK g (am_put (am_put (am_put g 137 0 W) 136 0 (2 : Int32)) 137 0 (nI (pkw T a p))) := (fr _).tr (m_pK (by omega) _)
      refine ⟨_, rfl, ⟨h.fr fr2 hp (by rw [m_put_ne (by simp)]; exact f3 _), ?_, by rw [m_put_ne (by simp)]; exact f4 _, fun _ _ => m_put _ _ _ _ _, fun _ q => ?_, fun q => ?_⟩, fr2⟩
      · rw [m_put_ne (by simp), f6]; show (2 : Int32) = kM (1, a, p, nI (pkw T a p)); unfold kM; rw [if_neg (show ¬ 1 = 0 by decide), if_pos rfl, if_neg (by rw [s1]; decide)]
      · rw [s1] at q; cases q
      · rcases q with q | q <;> cases q
  · rw [if_neg e] at hW
    rw [if_pos (show 6 < p - a by omega), if_pos (by rw [← hW]; decide), if_neg (nI_ge (show 6 < p - a by omega) (by omega)), if_neg (show ¬ (5 : Int32) = 2 by decide)]
    refine ⟨_, rfl, ⟨h.fr (fr _) hp (f3 _), by rw [f6]; rfl, f4 _, fun q => ?_, fun q => ?_, fun q => ?_⟩, fr _⟩
    · cases q
    · cases q
    · rcases q with q | q <;> cases q
theorem tok_44 (d : Nat) {a : Nat} : ∀ (m p fuel : Nat) (g : am_G), p + m = n → m < fuel → rK0 g T n p → g 138 0 0 = nI a → a < p ∨ (a = p ∧ p < n ∧ kL T p = true) → (∀ x, a ≤ x → x < p → kL T x = true) →
    ∃ g', am_run (am_call (d + 1)) 139 fuel 44 [some (.inr (.inr (29, 0)))] [] g = some (none, g') ∧ rKt g' T n (if 6 < sc (kL T) m p - a then 5 else 1, a, sc (kL T) m p, nI (pkw T a (sc (kL T) m p))) ∧ m_fr sK g g'
  | 0, p, fuel, g, hp, hf, h, h8, ha, hl => by
    obtain ⟨fuel, rfl⟩ : ∃ k', fuel = k' + 1 := ⟨fuel - 1, by omega⟩
    rw [sc]
    exact tok_44e d fuel h h8 (by omega) hl (by rw [decide_eq_false (by omega), Bool.false_and])
  | m + 1, p, fuel, g, hp, hf, h, h8, ha, hl => by
    obtain ⟨fuel, rfl⟩ : ∃ k', fuel = k' + 1 := ⟨fuel - 1, by omega⟩
    by_cases e : kL T p = true
    · have hfr : m_fr sK g (am_put g 135 0 (nI (p + 1))) := m_pK (by omega) _
      obtain ⟨g', k1, k2, k3⟩ := tok_44 d m (p + 1) fuel (am_put g 135 0 (nI (p + 1))) (by omega) (by omega) (h.fr hfr (by omega) (m_put _ _ _ _ _)) (by rw [m_put_ne (by simp)]; exact h8) (Or.inl (by omega)) (fun x h1 h2 => by
        by_cases ex : x = p
        · rw [ex]; exact e
        · exact hl x h1 (by omega))
      rw [eM_token_44, h.2.1, M_isSmall d h.1 h.2.2.1 h.2.2.2.2.1 h.2.2.2.1, decide_eq_true (show p < n by omega), Bool.true_and, bi_some, e, if_neg b01_t, h.2.1, nI_1, sc, if_pos e]
      exact ⟨g', k1, k2, hfr.tr k3⟩
    · have e' : kL T p = false := by simpa using e
      rw [sc, if_neg e]
      exact tok_44e d fuel h h8 (by rcases ha with q | q; exact q; exact absurd q.2.2 e) hl (by rw [e', Bool.and_false])
end MM
