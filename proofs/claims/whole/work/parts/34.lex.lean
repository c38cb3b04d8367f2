/-! ===== tokens of a text ===== -/
def sc (q : Nat → Bool) : Nat → Nat → Nat
  | 0, p => p
  | m + 1, p => if q p then sc q m (p + 1) else p
theorem sc_ge (q : Nat → Bool) : ∀ (m p : Nat), p ≤ sc q m p
  | 0, _ => Nat.le_refl _
  | m + 1, p => by
    rw [sc]
    split
    · have := sc_ge q m (p + 1); omega
    · exact Nat.le_refl _
theorem sc_le (q : Nat → Bool) : ∀ (m p : Nat), sc q m p ≤ p + m
  | 0, _ => Nat.le_refl _
  | m + 1, p => by
    rw [sc]
    split
    · have := sc_le q m (p + 1); omega
    · omega
theorem sc_gt (q : Nat → Bool) {m p : Nat} (h : q p = true) : p < sc q (m + 1) p := by
  rw [sc, if_pos h]
  have := sc_ge q m (p + 1)
  omega
theorem sc_in (q : Nat → Bool) : ∀ (m p x : Nat), p ≤ x → x < sc q m p → q x = true
  | 0, p, x, h1, h2 => by rw [sc] at h2; omega
  | m + 1, p, x, h1, h2 => by
    rw [sc] at h2
    by_cases hq : q p = true
    · rw [if_pos hq] at h2
      by_cases e : x = p
      · rw [e]; exact hq
      · exact sc_in q m (p + 1) x (by omega) h2
    · rw [if_neg hq] at h2; omega
theorem sc_out (q : Nat → Bool) : ∀ (m p : Nat), sc q m p < p + m → q (sc q m p) = false
  | 0, p, h => by rw [sc] at h; omega
  | m + 1, p, h => by
    rw [sc] at h ⊢
    by_cases hq : q p = true
    · rw [if_pos hq] at h ⊢
      exact sc_out q m (p + 1) (by omega)
    · rw [if_neg hq]; simpa using hq
def kB (T : Nat → Int32) (p : Nat) : Bool := decide (T p = 10 ∨ T p = 32)
def kL (T : Nat → Int32) (p : Nat) : Bool := decide (97 ≤ T p ∧ T p ≤ 122)
def kD (T : Nat → Int32) (p : Nat) : Bool := decide (48 ≤ T p ∧ T p ≤ 57)
theorem q_btw {x : Int32} {a b : Nat} (hb : b < 2 ^ 31) (h : nI a ≤ x ∧ x ≤ nI b) (ha : a < 2 ^ 31) : ∃ c, a ≤ c ∧ c ≤ b ∧ x = nI c := by
  have h1 := (q_le _ _).mp h.1
  have h2 := (q_le _ _).mp h.2
  rw [nI_toInt ha] at h1
  rw [nI_toInt hb] at h2
  obtain ⟨c, hc1, hc2⟩ := nI_of (x := x) (by rw [q_lt]; show ¬ x.toInt < (0 : Int32).toInt; rw [Int32.toInt_zero]; omega)
  refine ⟨c, ?_, ?_, hc2⟩
  · rw [hc2, nI_toInt hc1] at h1; omega
  · rw [hc2, nI_toInt hc1] at h2; omega
theorem kL_of {T : Nat → Int32} {p : Nat} (h : kL T p = true) : ∃ c, 97 ≤ c ∧ c ≤ 122 ∧ T p = nI c := q_btw (a := 97) (b := 122) (by omega) (of_decide_eq_true h) (by omega)
theorem kD_of {T : Nat → Int32} {p : Nat} (h : kD T p = true) : ∃ c, 48 ≤ c ∧ c ≤ 57 ∧ T p = nI c := q_btw (a := 48) (b := 57) (by omega) (of_decide_eq_true h) (by omega)
def dl (T : Nat → Int32) (k : Nat) : Nat := (T k).toNatClampNeg - 96
def dg (T : Nat → Int32) (b k : Nat) : Nat := if k < b then dl T k else 0
def pkv (T : Nat → Int32) (a j : Nat) : Nat := fo (fun v k => v * 32 + dl T k) 0 a j
def pkw (T : Nat → Int32) (a b : Nat) : Nat := fo (fun v k => v * 32 + dg T b k) 0 a 6
def nust (T : Nat → Int32) : Nat → Nat → Nat := fun v k => if v ≤ 99999 then v * 10 + ((T k).toNatClampNeg - 48) else v
def nu (T : Nat → Int32) (a b : Nat) : Nat := fo (nust T) 0 a (b - a)
/-- a token: kind (0 the end, 1 a word, 2 a number, 3 one with '-', 4 ';', 5 none), start, next, value -/
abbrev tk : Type := Nat × Nat × Nat × Int32
def lx1 (T : Nat → Int32) (n a : Nat) : tk :=
  if n ≤ a then (0, a, a, 0)
  else if kL T a then (if 6 < sc (kL T) (n - a) a - a then 5 else 1, a, sc (kL T) (n - a) a, nI (pkw T a (sc (kL T) (n - a) a)))
  else if kD T a then (2, a, sc (kD T) (n - a) a, nI (nu T a (sc (kD T) (n - a) a)))
  else if T a = 45 ∧ a + 1 < n ∧ kD T (a + 1) = true then (3, a, sc (kD T) (n - (a + 1)) (a + 1), - nI (nu T (a + 1) (sc (kD T) (n - (a + 1)) (a + 1))))
  else (if T a = 59 then 4 else 5, a, a + 1, 0)
def lx (T : Nat → Int32) (n p : Nat) : tk := lx1 T n (sc (kB T) (n - p) p)
theorem fo_add {β : Type} {f : β → Nat → β} : ∀ (m m' : Nat) (b : β) (t : Nat), fo f b t (m + m') = fo f (fo f b t m) (t + m) m'
  | 0, m', b, t => by rw [Nat.zero_add, fo]; rfl
  | m + 1, m', b, t => by
    rw [show m + 1 + m' = (m + m') + 1 by omega, fo, fo, fo_add m m' (f b t) (t + 1), show t + 1 + m = t + (m + 1) by omega]
theorem fo_last {β : Type} {f : β → Nat → β} (m : Nat) (b : β) (t : Nat) : fo f b t (m + 1) = f (fo f b t m) (t + m) := by
  rw [fo_add m 1 b t]; rfl
theorem fo_32 : ∀ (m v t : Nat), fo (fun (v _ : Nat) => v * 32 + 0) v t m = v * 32 ^ m
  | 0, v, t => by rw [fo, Nat.pow_zero, Nat.mul_one]
  | m + 1, v, t => by
    rw [fo, fo_32 m (v * 32 + 0) (t + 1), Nat.add_zero, Nat.pow_succ, Nat.mul_assoc, Nat.mul_comm 32]
theorem pkw_eq (T : Nat → Int32) {a j : Nat} (hj : j ≤ 6) : pkw T a (a + j) = pkv T a j * 32 ^ (6 - j) := by
  have e1 : fo (fun v k => v * 32 + dg T (a + j) k) 0 a j = pkv T a j := fo_cg fun b k h1 h2 => by unfold dg; rw [if_pos (by omega)]
  have e2 : fo (fun v k => v * 32 + dg T (a + j) k) (pkv T a j) (a + j) (6 - j) = pkv T a j * 32 ^ (6 - j) := by
    rw [← fo_32 (6 - j) (pkv T a j) (a + j)]
    exact fo_cg fun b k h1 h2 => by unfold dg; rw [if_neg (by omega)]
  have e3 : pkw T a (a + j) = fo (fun v k => v * 32 + dg T (a + j) k) 0 a (j + (6 - j)) := by rw [show j + (6 - j) = 6 by omega]; rfl
  rw [e3, fo_add, e1, e2]
theorem nx_or (a b : Nat) : nI a ||| nI b = nI (a ||| b) := by
  apply Int32.toBitVec_inj.1
  show BitVec.ofNat 32 a ||| BitVec.ofNat 32 b = BitVec.ofNat 32 (a ||| b)
  exact BitVec.ofNat_or.symm
theorem s_sh : ∀ n, n < 32 → ((nI n &&& 31).toBitVec.smod 32).toNat = n := by decide +kernel
theorem nx_put {v d k : Nat} (hd : d < 32) (hk : k ≤ 25) : nI (v * 2 ^ (k + 5)) ||| (nI d <<< (nI k &&& 31)) = nI ((v * 32 + d) * 2 ^ k) := by
  have e1 : d * 2 ^ k < 2 ^ (k + 5) := by
    rw [Nat.pow_add, Nat.mul_comm (2 ^ k)]
    exact Nat.mul_lt_mul_of_pos_right hd (Nat.pow_pos (by omega))
  have e2 : 2 ^ (k + 5) ≤ 2 ^ 30 := Nat.pow_le_pow_right (by omega) (by omega)
  rw [pk_shlN _ k (s_sh k (by omega)) (by omega), nx_or, ← Nat.shiftLeft_eq v, ← Nat.shiftLeft_add_eq_or_of_lt e1, Nat.shiftLeft_eq]
  congr 1
  rw [Nat.pow_add, Nat.add_mul, Nat.mul_assoc v 32, Nat.mul_comm 32 (2 ^ k)]
theorem pkv_lt {T : Nat → Int32} {a : Nat} : ∀ (j : Nat), (∀ x, a ≤ x → x < a + j → kL T x = true) → pkv T a j < 32 ^ j
  | 0, _ => by unfold pkv; rw [fo]; omega
  | j + 1, h => by
    have ih := pkv_lt j (fun x h1 h2 => h x h1 (by omega))
    obtain ⟨c, h1, h2, h3⟩ := kL_of (h (a + j) (by omega) (by omega))
    unfold pkv at ih ⊢
    rw [fo_last]
    have : dl T (a + j) < 32 := by unfold dl; rw [h3, nI_clamp (by omega)]; omega
    rw [Nat.pow_succ]
    omega
theorem nu_lt (T : Nat → Int32) : ∀ (m a v : Nat), v ≤ 1000000 → (∀ x, a ≤ x → x < a + m → kD T x = true) → fo (nust T) v a m ≤ 1000000
  | 0, a, v, hv, _ => hv
  | m + 1, a, v, hv, h => by
    obtain ⟨c, h1, h2, h3⟩ := kD_of (h a (by omega) (by omega))
    rw [fo]
    refine nu_lt T m (a + 1) _ ?_ (fun x h1 h2 => h x (by omega) (by omega))
    unfold nust
    rw [h3, nI_clamp (by omega)]
    split <;> omega
/-- where a token lies -/
theorem lx1_pos (T : Nat → Int32) {n a : Nat} (h : a ≤ n) : (lx1 T n a).2.1 = a ∧ a ≤ (lx1 T n a).2.2.1 ∧ (lx1 T n a).2.2.1 ≤ n ∧ ((lx1 T n a).1 = 0 ↔ a = n) ∧ (a < n → a < (lx1 T n a).2.2.1) := by
  unfold lx1
  by_cases e : n ≤ a
  · rw [if_pos e]
    exact ⟨rfl, Nat.le_refl _, h, ⟨fun _ => by omega, fun _ => rfl⟩, fun q => by omega⟩
  · rw [if_neg e]
    obtain ⟨m, hm⟩ : ∃ m, n - a = m + 1 := ⟨n - a - 1, by omega⟩
    by_cases e1 : kL T a = true
    · rw [if_pos e1]
      have h1 := sc_gt (kL T) (m := m) e1
      have h2 := sc_le (kL T) (n - a) a
      rw [← hm] at h1
      refine ⟨rfl, by dsimp only; omega, by dsimp only; omega, ⟨fun q => ?_, fun q => by omega⟩, fun _ => h1⟩
      dsimp only at q
      split at q <;> omega
    · rw [if_neg e1]
      by_cases e2 : kD T a = true
      · rw [if_pos e2]
        have h1 := sc_gt (kD T) (m := m) e2
        have h2 := sc_le (kD T) (n - a) a
        rw [← hm] at h1
        exact ⟨rfl, by dsimp only; omega, by dsimp only; omega, ⟨fun q => by dsimp only at q; omega, fun q => by omega⟩, fun _ => h1⟩
      · rw [if_neg e2]
        by_cases e3 : T a = 45 ∧ a + 1 < n ∧ kD T (a + 1) = true
        · rw [if_pos e3]
          have h1 := sc_ge (kD T) (n - (a + 1)) (a + 1)
          have h2 := sc_le (kD T) (n - (a + 1)) (a + 1)
          exact ⟨rfl, by dsimp only; omega, by dsimp only; omega, ⟨fun q => by dsimp only at q; omega, fun q => by omega⟩, fun _ => by dsimp only; omega⟩
        · rw [if_neg e3]
          refine ⟨rfl, by dsimp only; omega, by dsimp only; omega, ⟨fun q => ?_, fun q => by omega⟩, fun _ => by dsimp only; omega⟩
          dsimp only at q
          split at q <;> omega
theorem lx_pos (T : Nat → Int32) {n p : Nat} (h : p ≤ n) : p ≤ (lx T n p).2.1 ∧ (lx T n p).2.1 ≤ (lx T n p).2.2.1 ∧ (lx T n p).2.2.1 ≤ n ∧ ((lx T n p).1 = 0 ↔ (lx T n p).2.1 = n) ∧ ((lx T n p).1 ≠ 0 → (lx T n p).2.1 < (lx T n p).2.2.1) := by
  have h1 := sc_ge (kB T) (n - p) p
  have h2 := sc_le (kB T) (n - p) p
  obtain ⟨k1, k2, k3, k4, k5⟩ := lx1_pos T (n := n) (a := sc (kB T) (n - p) p) (by omega)
  unfold lx
  rw [k1]
  exact ⟨h1, k2, k3, k4, fun q => k5 (by
    have := fun e => q (k4.mpr e)
    omega)⟩
