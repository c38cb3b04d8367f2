/-! ===== the model: letters, words ===== -/
section MM
variable {g : am_G} {T : Nat → Int32} {n : Nat}
theorem q_and2 {x lo hi : Int32} : decide (lo ≤ x ∧ x ≤ hi) = false ↔ x < lo ∨ hi < x := by
  rw [decide_eq_false_iff_not, q_le, q_le, q_lt, q_lt]
  omega
theorem M_isSmall (d : Nat) (h1 : g 134 0 0 = nI n) (hn : n ≤ 700) (hT : ∀ k, k < n → g 30 0 k = T k) {p : Nat} (hp : p ≤ n) : am_call (d + 1) 137 [.inr (.inr (29, 0)), .inl (nI p)] g = some (some (.inl (b01 (decide (p < n) && kL T p))), g) := by
  rw [cM_isSmall, eM_isSmall_0, h1]
  by_cases e : p < n
  · rw [if_neg (nI_ge e (by omega)), q_in (by omega) (by omega), cond_true, cond_true, nI_clamp (by omega), hT p e, decide_eq_true e, Bool.true_and]
    unfold kL
    by_cases e1 : T p < 97
    · rw [if_pos e1, q_and2.mpr (Or.inl e1)]; rfl
    · rw [if_neg e1]
      by_cases e2 : 122 < T p
      · rw [if_pos e2, q_and2.mpr (Or.inr e2)]; rfl
      · rw [if_neg e2, decide_eq_true (show 97 ≤ T p ∧ T p ≤ 122 by rw [q_lt] at e1 e2; rw [q_le, q_le]; omega)]; rfl
  · rw [if_pos (nI_le (by omega) (by omega)), decide_eq_false e, Bool.false_and]; rfl
theorem M_isDigit (d : Nat) (h1 : g 134 0 0 = nI n) (hn : n ≤ 700) (hT : ∀ k, k < n → g 30 0 k = T k) {p : Nat} (hp : p ≤ n) : am_call (d + 1) 138 [.inr (.inr (29, 0)), .inl (nI p)] g = some (some (.inl (b01 (decide (p < n) && kD T p))), g) := by
  rw [cM_isDigit, eM_isDigit_0, h1]
  by_cases e : p < n
  · rw [if_neg (nI_ge e (by omega)), q_in (by omega) (by omega), cond_true, cond_true, nI_clamp (by omega), hT p e, decide_eq_true e, Bool.true_and]
    unfold kD
    by_cases e1 : T p < 48
    · rw [if_pos e1, q_and2.mpr (Or.inl e1)]; rfl
    · rw [if_neg e1]
      by_cases e2 : 57 < T p
      · rw [if_pos e2, q_and2.mpr (Or.inr e2)]; rfl
      · rw [if_neg e2, decide_eq_true (show 48 ≤ T p ∧ T p ≤ 57 by rw [q_lt] at e1 e2; rw [q_le, q_le]; omega)]; rfl
  · rw [if_pos (nI_le (by omega) (by omega)), decide_eq_false e, Bool.false_and]; rfl
theorem dg_lt {b : Nat} {a : Nat} (hl : ∀ x, a ≤ x → x < b → kL T x = true) {k : Nat} (hk : a ≤ k) : dg T b k < 32 ∧ (k < b → 1 ≤ dg T b k) := by
  unfold dg
  split
  · rename_i h
    obtain ⟨c, h1, h2, h3⟩ := kL_of (hl k hk h)
    unfold dl
    rw [h3, nI_clamp (by omega)]
    omega
  · omega
theorem nx_5 {v e : Nat} (he : e < 32) (hv : v < 2 ^ 25) : (nI v <<< ((5 : Int32) &&& 31)) ||| nI e = nI (v * 32 + e) := by
  have h := nx_put (v := v) (d := e) (k := 0) he (by omega)
  rw [pk_shlN ((5 : Int32) &&& 31) 5 (s_sh 5 (by omega)) (by omega), nx_or, ← Nat.shiftLeft_eq v, ← Nat.shiftLeft_add_eq_or_of_lt (show e < 2 ^ 5 by omega), Nat.shiftLeft_eq]
theorem M_packed (d : Nat) (hn : n ≤ 700) (hT : ∀ k, k < n → g 30 0 k = T k) {a b : Nat} (hb : b ≤ n) (hab : a ≤ b) (hl : ∀ x, a ≤ x → x < b → kL T x = true) : am_call (d + 1) 140 [.inr (.inr (29, 0)), .inl (nI a), .inl (nI b)] g = some (some (.inl (nI (pkw T a b))), g) := by
  rw [cM_packed, eM_packed_0]
  have key : ∀ (m k v fuel : Nat), k + m = a + 6 → a ≤ k → v < 32 ^ (k - a) → m < fuel → am_run (am_call d) 140 fuel 4 [some (.inr (.inr (29, 0))), some (.inl (nI a)), some (.inl (nI b)), some (.inl (nI v)), some (.inl (nI k))] [] g = some (some (.inl (nI (fo (fun v k => v * 32 + dg T b k) v k m))), g) := by
    intro m
    induction m with
    | zero =>
      intro k v fuel h1 h2 hv hf
      obtain ⟨fuel, rfl⟩ : ∃ k', fuel = k' + 1 := ⟨fuel - 1, by omega⟩
      rw [eM_packed_4, show (6 : Int32) = nI 6 from rfl, nI_add, if_pos (nI_le (by omega) (by omega))]; rfl
    | succ m ih =>
      intro k v fuel h1 h2 hv hf
      obtain ⟨fuel, rfl⟩ : ∃ k', fuel = k' + 1 := ⟨fuel - 1, by omega⟩
      have hv2 : v < 2 ^ 25 := Nat.lt_of_lt_of_le hv (by
        have : (32 : Nat) ^ (k - a) ≤ 32 ^ 5 := Nat.pow_le_pow_right (by omega) (by omega)
        exact this)
      have hd := dg_lt hl h2
      have hv3 : v * 32 + dg T b k < 32 ^ (k + 1 - a) := by
        rw [show k + 1 - a = k - a + 1 by omega, Nat.pow_succ]
        omega
      rw [eM_packed_4, show (6 : Int32) = nI 6 from rfl, nI_add, if_neg (nI_ge (show k < a + 6 by omega) (by omega)), nI_1, fo, ← ih (k + 1) _ fuel (by omega) (by omega) hv3 (by omega)]
      by_cases e : b ≤ k
      · have e0 : dg T b k = 0 := by unfold dg; rw [if_neg (by omega)]
        have := nx_5 (v := v) (e := 0) (by omega) hv2
        rw [if_pos (nI_le e (by omega)), show (0 : Int32) = nI 0 from rfl, this, e0]
      · have e0 : dg T b k = dl T k := by unfold dg; rw [if_pos (by omega)]
        obtain ⟨c, c1, c2, c3⟩ := kL_of (hl k h2 (by omega))
        have e1 : (T k) - (96 : Int32) = nI (dl T k) := by
          unfold dl
          rw [c3, nI_clamp (by omega), show (96 : Int32) = nI 96 from rfl, pk_sub (by omega)]
        have := nx_5 (v := v) (e := dl T k) (by omega) hv2
        rw [if_neg (nI_ge (by omega) (by omega)), q_in (by omega) (by omega), cond_true, nI_clamp (by omega), hT k (by omega), e1, this, e0]
  exact key 6 a 0 99999 rfl (Nat.le_refl _) (by rw [Nat.sub_self]; omega) (by omega)
/-- the words that are no names -/
def kw (k : Nat) : Int32 := kwl.getD k 0
def wq (T : Nat → Int32) (a b o L : Nat) : Prop := b = a + L ∧ ∀ j, j < L → T (a + j) = kw (o + j)
theorem fo6 (f h : Nat → Nat) (a c : Nat) (hf : ∀ j, j < 6 → f (a + j) < 32) (hh : ∀ j, j < 6 → h (c + j) < 32) : fo (fun v k => v * 32 + f k) 0 a 6 = fo (fun v k => v * 32 + h k) 0 c 6 ↔ ∀ j, j < 6 → f (a + j) = h (c + j) := by
  have e : ∀ (f : Nat → Nat) (a : Nat), fo (fun v k => v * 32 + f k) 0 a 6 = (((((0 * 32 + f (a + 0)) * 32 + f (a + 1)) * 32 + f (a + 2)) * 32 + f (a + 3)) * 32 + f (a + 4)) * 32 + f (a + 5) := fun f a => rfl
  rw [e, e]
  have f0 := hf 0 (by omega)
  have f1 := hf 1 (by omega)
  have f2 := hf 2 (by omega)
  have f3 := hf 3 (by omega)
  have f4 := hf 4 (by omega)
  have f5 := hf 5 (by omega)
  have g0 := hh 0 (by omega)
  have g1 := hh 1 (by omega)
  have g2 := hh 2 (by omega)
  have g3 := hh 3 (by omega)
  have g4 := hh 4 (by omega)
  have g5 := hh 5 (by omega)
  constructor
  · intro q j hj
    have hj : j = 0 ∨ j = 1 ∨ j = 2 ∨ j = 3 ∨ j = 4 ∨ j = 5 := by omega
    rcases hj with rfl | rfl | rfl | rfl | rfl | rfl <;> omega
  · intro q
    have q0 := q 0 (by omega)
    have q1 := q 1 (by omega)
    have q2 := q 2 (by omega)
    have q3 := q 3 (by omega)
    have q4 := q 4 (by omega)
    have q5 := q 5 (by omega)
    omega
def kdg (o L k : Nat) : Nat := if k < o + L then (kw k).toNatClampNeg - 96 else 0
theorem wq_pk {a b o L K : Nat} (hab : a ≤ b) (h6 : b ≤ a + 6) (hl : ∀ x, a ≤ x → x < b → kL T x = true) (hL : L ≤ 6) (hk : ∀ j, j < L → kL kw (o + j) = true) (hK : fo (fun v k => v * 32 + kdg o L k) 0 o 6 = K) (hK2 : K < 2 ^ 31) : nI (pkw T a b) = nI K ↔ wq T a b o L := by
  have kk : ∀ j, kdg o L (o + j) < 32 ∧ (j < L → 1 ≤ kdg o L (o + j) ∧ kw (o + j) = nI (kdg o L (o + j) + 96)) := fun j => by
    unfold kdg
    by_cases e : j < L
    · obtain ⟨c, c1, c2, c3⟩ := kL_of (hk j e)
      rw [if_pos (by omega), c3, nI_clamp (by omega)]
      refine ⟨by omega, fun _ => ⟨by omega, by congr 1; omega⟩⟩
    · rw [if_neg (by omega)]
      exact ⟨by omega, fun q => absurd q e⟩
  have hb : pkw T a b < 2 ^ 31 := by
    have e : pkw T a b = (((((0 * 32 + dg T b (a + 0)) * 32 + dg T b (a + 1)) * 32 + dg T b (a + 2)) * 32 + dg T b (a + 3)) * 32 + dg T b (a + 4)) * 32 + dg T b (a + 5) := rfl
    have f0 := (dg_lt hl (show a ≤ a + 0 by omega)).1
    have f1 := (dg_lt hl (show a ≤ a + 1 by omega)).1
    have f2 := (dg_lt hl (show a ≤ a + 2 by omega)).1
    have f3 := (dg_lt hl (show a ≤ a + 3 by omega)).1
    have f4 := (dg_lt hl (show a ≤ a + 4 by omega)).1
    have f5 := (dg_lt hl (show a ≤ a + 5 by omega)).1
    omega
  rw [q_inj hb hK2, ← hK]
  unfold pkw
  rw [fo6 _ _ _ _ (fun j _ => (dg_lt hl (by omega)).1) (fun j _ => (kk j).1)]
  constructor
  · intro q
    have e1 : ∀ j, j < L → a + j < b := fun j hj => by
      by_cases e : a + j < b
      · exact e
      · have h1 := q j (by omega)
        have h2 := ((kk j).2 hj).1
        have h3 : dg T b (a + j) = 0 := by unfold dg; rw [if_neg e]
        omega
    have e2 : b ≤ a + L := by
      by_cases e : b ≤ a + L
      · exact e
      · have h1 := q L (by omega)
        have h2 := (dg_lt hl (show a ≤ a + L by omega)).2 (by omega)
        have h3 : kdg o L (o + L) = 0 := by unfold kdg; rw [if_neg (by omega)]
        omega
    have e3 : b = a + L := by
      rcases Nat.eq_zero_or_pos L with e | e
      · omega
      · have := e1 (L - 1) (by omega); omega
    refine ⟨e3, fun j hj => ?_⟩
    have h1 := q j (by omega)
    obtain ⟨c, c1, c2, c3⟩ := kL_of (hl (a + j) (by omega) (e1 j hj))
    have h2 : dg T b (a + j) = c - 96 := by
      unfold dg dl
      rw [if_pos (e1 j hj), c3, nI_clamp (by omega)]
    rw [((kk j).2 hj).2, ← h1, h2, c3]
    congr 1
    omega
  · rintro ⟨q1, q2⟩ j hj
    by_cases e : j < L
    · unfold dg dl kdg
      rw [if_pos (by omega), if_pos (by omega), q2 j e]
    · unfold dg kdg
      rw [if_neg (by omega), if_neg (by omega)]
def kwI (v : Int32) : Int32 := if v = 687585280 then 0 else if v = 412560384 then 1 else if v = 620220416 then 2 else if v = 687508736 then 3 else if v = 643453317 then 4 else if v = 642945024 then 5 else -1
end MM
