/-! ===== the model: wordAt ===== -/
section MM
variable {g : am_G} {T : Nat → Int32} {n : Nat}
theorem wd_11 (ct : am_T) (hW : ∀ k, k < 33 → g 31 0 k = kw k) {a b o L : Nat} (hab : a ≤ b) (hb : b ≤ 700) (ho : o + L < 33) (h32 : kw (o + L) = 32) (hk : ∀ j, j < L → kw (o + j) ≠ 32) (x3 : Int32) : ∀ (m j fuel : Nat) (o6 o7 : Option am_V), j + m = L → am_run ct 136 (fuel + m + 1) 11 [some (.inr (.inr (29, 0))), some (.inl (nI a)), some (.inl (nI b)), some (.inl x3), some (.inl (nI o)), some (.inl (nI j)), o6, o7] [] g = am_run ct 136 fuel 32 [some (.inr (.inr (29, 0))), some (.inl (nI a)), some (.inl (nI b)), some (.inl x3), some (.inl (nI o)), some (.inl (nI L)), some (.inl (b01 (decide (b = a + L)))), some (.inl (nI 0))] [] g
  | 0, j, fuel, o6, o7, hj => by
    have e : j = L := by omega
    subst e
    rw [Nat.add_zero, eM_wordAt_11, nI_add, q_in (by omega) (by omega), cond_true, nI_clamp (by omega), hW _ (by omega), h32, if_pos rfl, pk_sub hab]
    by_cases e : b = a + j
    · rw [if_pos (show nI j = nI (b - a) by congr 1; omega), decide_eq_true e]; rfl
    · rw [if_neg (show ¬ nI j = nI (b - a) by rw [q_inj (by omega) (by omega)]; omega), decide_eq_false e]; rfl
  | m + 1, j, fuel, o6, o7, hj => by
    rw [eM_wordAt_11, nI_add, q_in (by omega) (by omega), cond_true, nI_clamp (by omega), hW _ (by omega), if_neg (hk j (by omega)), nI_1]
    exact wd_11 ct hW hab hb ho h32 hk x3 m (j + 1) fuel o6 o7 (by omega)
theorem wd_32 (ct : am_T) (hn : n ≤ 700) (hT : ∀ k, k < n → g 30 0 k = T k) (hW : ∀ k, k < 33 → g 31 0 k = kw k) {a b o L : Nat} (ho : o + L < 33) (x3 : Int32) : ∀ (m j fuel : Nat) (r : Bool), j + m = L → (r = true → a + L ≤ n) →
    (r = true ∧ (∀ i, j ≤ i → i < L → T (a + i) = kw (o + i)) → am_run ct 136 (fuel + m + 1) 32 [some (.inr (.inr (29, 0))), some (.inl (nI a)), some (.inl (nI b)), some (.inl x3), some (.inl (nI o)), some (.inl (nI L)), some (.inl (b01 r)), some (.inl (nI j))] [] g = some (some (.inl x3), g)) ∧ (¬ (r = true ∧ (∀ i, j ≤ i → i < L → T (a + i) = kw (o + i))) → ∃ fuel' o5 o6 o7, fuel ≤ fuel' ∧ am_run ct 136 (fuel + m + 1) 32 [some (.inr (.inr (29, 0))), some (.inl (nI a)), some (.inl (nI b)), some (.inl x3), some (.inl (nI o)), some (.inl (nI L)), some (.inl (b01 r)), some (.inl (nI j))] [] g = am_run ct 136 fuel' 4 [some (.inr (.inr (29, 0))), some (.inl (nI a)), some (.inl (nI b)), some (.inl (x3 + 1)), some (.inl (nI (o + (L + 1)))), o5, o6, o7] [] g)
  | 0, j, fuel, r, hj, hr => by
    have e : j = L := by omega
    subst e
    rw [Nat.add_zero, eM_wordAt_32, if_pos (nI_le (Nat.le_refl _) (by omega)), show (1 : Int32) = nI 1 from rfl, nI_add, nI_add]
    cases r with
    | true =>
      refine ⟨fun _ => by rw [if_neg b01_t], fun q => absurd ⟨rfl, fun i h1 h2 => by omega⟩ q⟩
    | false =>
      refine ⟨fun q => (by cases q.1), fun _ => ⟨fuel, _, _, _, Nat.le_refl _, by rw [if_pos b01_f]⟩⟩
  | m + 1, j, fuel, r, hj, hr => by
    rw [eM_wordAt_32, if_neg (nI_ge (show j < L by omega) (by omega)), nI_1 (a := L), nI_add (a := o)]
    cases r with
    | false =>
      refine ⟨fun q => (by cases q.1), fun _ => ⟨fuel + (m + 1), _, _, _, by omega, by rw [if_pos b01_f, if_pos b01_f]⟩⟩
    | true =>
      have hr := hr rfl
      rw [if_neg b01_t, nI_add, nI_add, q_in (by omega) (by omega), cond_true, q_in (by omega) (by omega), cond_true, nI_clamp (by omega), nI_clamp (by omega), hW _ (by omega), hT _ (by omega), nI_1 (a := j)]
      by_cases e : T (a + j) = kw (o + j)
      · rw [if_pos e.symm]
        obtain ⟨k1, k2⟩ := wd_32 ct hn hT hW ho x3 m (j + 1) fuel true (by omega) (fun _ => hr) (a := a) (b := b)
        refine ⟨fun q => k1 ⟨rfl, fun i h1 h2 => q.2 i (by omega) h2⟩, fun q => k2 fun q' => q ⟨rfl, fun i h1 h2 => ?_⟩⟩
        by_cases ei : i = j
        · rw [ei]; exact e
        · exact q'.2 i (by omega) h2
      · rw [if_neg (fun q => e q.symm)]
        obtain ⟨k1, k2⟩ := wd_32 ct hn hT hW ho x3 m (j + 1) fuel false (by omega) (fun q => (by cases q)) (a := a) (b := b)
        refine ⟨fun q => absurd (q.2 j (Nat.le_refl _) (by omega)) e, fun _ => k2 fun q' => (by cases q'.1)⟩
theorem wd_4 (ct : am_T) (hn : n ≤ 700) (hT : ∀ k, k < n → g 30 0 k = T k) (hW : ∀ k, k < 33 → g 31 0 k = kw k) {a b o L : Nat} (hab : a ≤ b) (hb : b ≤ n) (ho : o + L < 33) (hL : L ≤ 6) (h32 : kw (o + L) = 32) (hk : ∀ j, j < L → kw (o + j) ≠ 32) (x3 : Int32) (fuel : Nat) (o5 o6 o7 : Option am_V) :
    (wq T a b o L → am_run ct 136 (fuel + 20) 4 [some (.inr (.inr (29, 0))), some (.inl (nI a)), some (.inl (nI b)), some (.inl x3), some (.inl (nI o)), o5, o6, o7] [] g = some (some (.inl x3), g)) ∧ (¬ wq T a b o L → ∃ fuel' o5' o6' o7', fuel ≤ fuel' ∧ am_run ct 136 (fuel + 20) 4 [some (.inr (.inr (29, 0))), some (.inl (nI a)), some (.inl (nI b)), some (.inl x3), some (.inl (nI o)), o5, o6, o7] [] g = am_run ct 136 fuel' 4 [some (.inr (.inr (29, 0))), some (.inl (nI a)), some (.inl (nI b)), some (.inl (x3 + 1)), some (.inl (nI (o + (L + 1)))), o5', o6', o7'] [] g) := by
  obtain ⟨f2, hf2⟩ : ∃ f2, f2 = fuel + 17 - 2 * L := ⟨_, rfl⟩
  have e1 : fuel + 20 = (f2 + L + 1) + L + 1 + 1 := by omega
  have h11 := wd_11 ct hW hab (by omega) ho h32 hk x3 L 0 (f2 + L + 1) o6 o7 (by omega)
  rw [e1, eM_wordAt_4, if_neg (nI_ge (show o < 33 by omega) (by omega)), show (0 : Int32) = nI 0 from rfl, h11]
  obtain ⟨k1, k2⟩ := wd_32 ct hn hT hW (a := a) (b := b) ho x3 L 0 f2 (decide (b = a + L)) (by omega) (fun q => by have := of_decide_eq_true q; omega)
  refine ⟨fun q => k1 ⟨decide_eq_true q.1, fun i _ h => q.2 i h⟩, fun q => ?_⟩
  obtain ⟨f', p5, p6, p7, r1, r2⟩ := k2 fun q' => q ⟨of_decide_eq_true q'.1, fun j hj => q'.2 j (by omega) hj⟩
  exact ⟨f', p5, p6, p7, by omega, r2⟩
theorem kw_town : kw (0 + 4) = 32 ∧ (∀ j, j < 4 → kw (0 + j) ≠ 32) ∧ (∀ j, j < 4 → kL kw (0 + j) = true) ∧ fo (fun v k => v * 32 + kdg 0 4 k) 0 0 6 = 687585280 := by decide
theorem kw_link : kw (5 + 4) = 32 ∧ (∀ j, j < 4 → kw (5 + j) ≠ 32) ∧ (∀ j, j < 4 → kL kw (5 + j) = true) ∧ fo (fun v k => v * 32 + kdg 5 4 k) 0 5 6 = 412560384 := by decide
theorem kw_root : kw (10 + 4) = 32 ∧ (∀ j, j < 4 → kw (10 + j) ≠ 32) ∧ (∀ j, j < 4 → kL kw (10 + j) = true) ∧ fo (fun v k => v * 32 + kdg 10 4 k) 0 10 6 = 620220416 := by decide
theorem kw_touch : kw (15 + 5) = 32 ∧ (∀ j, j < 5 → kw (15 + j) ≠ 32) ∧ (∀ j, j < 5 → kL kw (15 + j) = true) ∧ fo (fun v k => v * 32 + kdg 15 5 k) 0 15 6 = 687508736 := by decide
theorem kw_settle : kw (21 + 6) = 32 ∧ (∀ j, j < 6 → kw (21 + j) ≠ 32) ∧ (∀ j, j < 6 → kL kw (21 + j) = true) ∧ fo (fun v k => v * 32 + kdg 21 6 k) 0 21 6 = 643453317 := by decide
theorem kw_seed : kw (28 + 4) = 32 ∧ (∀ j, j < 4 → kw (28 + j) ≠ 32) ∧ (∀ j, j < 4 → kL kw (28 + j) = true) ∧ fo (fun v k => v * 32 + kdg 28 4 k) 0 28 6 = 642945024 := by decide
theorem M_wordAt (d : Nat) (hn : n ≤ 700) (hT : ∀ k, k < n → g 30 0 k = T k) (hW : ∀ k, k < 33 → g 31 0 k = kw k) {a b : Nat} (hab : a ≤ b) (hb : b ≤ n) (hl : ∀ x, a ≤ x → x < b → kL T x = true) : am_call (d + 1) 136 [.inr (.inr (29, 0)), .inl (nI a), .inl (nI b)] g = some (some (.inl (if b ≤ a + 6 then kwI (nI (pkw T a b)) else -1)), g) := by
  have hw : ∀ (o L K : Nat) (K' : Int32), L ≤ 6 → (∀ j, j < L → kL kw (o + j) = true) → fo (fun v k => v * 32 + kdg o L k) 0 o 6 = K → K < 2 ^ 31 → K' = nI K → ((b ≤ a + 6 ∧ nI (pkw T a b) = K') ↔ wq T a b o L) := fun o L K K' h1 h2 h3 h4 h5 => by
    subst h5
    constructor
    · intro q
      exact (wq_pk hab q.1 hl h1 h2 h3 h4).mp q.2
    · intro q
      have h6 : b ≤ a + 6 := by have := q.1; omega
      exact ⟨h6, (wq_pk hab h6 hl h1 h2 h3 h4).mpr q⟩
  have w0 := hw 0 4 _ 687585280 (by omega) kw_town.2.2.1 kw_town.2.2.2 (by omega) rfl
  have w1 := hw 5 4 _ 412560384 (by omega) kw_link.2.2.1 kw_link.2.2.2 (by omega) rfl
  have w2 := hw 10 4 _ 620220416 (by omega) kw_root.2.2.1 kw_root.2.2.2 (by omega) rfl
  have w3 := hw 15 5 _ 687508736 (by omega) kw_touch.2.2.1 kw_touch.2.2.2 (by omega) rfl
  have w4 := hw 21 6 _ 643453317 (by omega) kw_settle.2.2.1 kw_settle.2.2.2 (by omega) rfl
  have w5 := hw 28 4 _ 642945024 (by omega) kw_seed.2.2.1 kw_seed.2.2.2 (by omega) rfl
  clear hw
  rw [cM_wordAt, eM_wordAt_0, show (0 : Int32) = nI 0 from rfl]
  obtain ⟨s1, t1⟩ := wd_4 (am_call d) hn hT hW hab hb (o := 0) (L := 4) (by omega) (by omega) kw_town.1 kw_town.2.1 (nI 0) 99979 none none none
  by_cases q0 : wq T a b 0 4
  · have := w0.mpr q0
    rw [s1 q0, if_pos this.1, kwI, if_pos this.2]; rfl
  · obtain ⟨f1, a1, b1, c1, l1, r1⟩ := t1 q0
    obtain ⟨f1, rfl⟩ : ∃ f, f1 = f + 20 := ⟨f1 - 20, by omega⟩
    rw [r1]
    obtain ⟨s2, t2⟩ := wd_4 (am_call d) hn hT hW hab hb (o := 5) (L := 4) (by omega) (by omega) kw_link.1 kw_link.2.1 (nI 0 + 1) f1 a1 b1 c1
    by_cases q1 : wq T a b 5 4
    · have h := w1.mpr q1
      rw [s2 q1, if_pos h.1, kwI, if_neg (fun q => q0 (w0.mp ⟨h.1, q⟩)), if_pos h.2]; rfl
    · obtain ⟨f2, a2, b2, c2, l2, r2⟩ := t2 q1
      obtain ⟨f2, rfl⟩ : ∃ f, f2 = f + 20 := ⟨f2 - 20, by omega⟩
      rw [r2]
      obtain ⟨s3, t3⟩ := wd_4 (am_call d) hn hT hW hab hb (o := 10) (L := 4) (by omega) (by omega) kw_root.1 kw_root.2.1 (nI 0 + 1 + 1) f2 a2 b2 c2
      by_cases q2 : wq T a b 10 4
      · have h := w2.mpr q2
        rw [s3 q2, if_pos h.1, kwI, if_neg (fun q => q0 (w0.mp ⟨h.1, q⟩)), if_neg (fun q => q1 (w1.mp ⟨h.1, q⟩)), if_pos h.2]; rfl
      · obtain ⟨f3, a3, b3, c3, l3, r3⟩ := t3 q2
        obtain ⟨f3, rfl⟩ : ∃ f, f3 = f + 20 := ⟨f3 - 20, by omega⟩
        rw [r3]
        obtain ⟨s4, t4⟩ := wd_4 (am_call d) hn hT hW hab hb (o := 15) (L := 5) (by omega) (by omega) kw_touch.1 kw_touch.2.1 (nI 0 + 1 + 1 + 1) f3 a3 b3 c3
        by_cases q3 : wq T a b 15 5
        · have h := w3.mpr q3
          rw [s4 q3, if_pos h.1, kwI, if_neg (fun q => q0 (w0.mp ⟨h.1, q⟩)), if_neg (fun q => q1 (w1.mp ⟨h.1, q⟩)), if_neg (fun q => q2 (w2.mp ⟨h.1, q⟩)), if_pos h.2]; rfl
        · obtain ⟨f4, a4, b4, c4, l4, r4⟩ := t4 q3
          obtain ⟨f4, rfl⟩ : ∃ f, f4 = f + 20 := ⟨f4 - 20, by omega⟩
          rw [r4]
          obtain ⟨s5, t5⟩ := wd_4 (am_call d) hn hT hW hab hb (o := 21) (L := 6) (by omega) (by omega) kw_settle.1 kw_settle.2.1 (nI 0 + 1 + 1 + 1 + 1) f4 a4 b4 c4
          by_cases q4 : wq T a b 21 6
          · have h := w4.mpr q4
            rw [s5 q4, if_pos h.1, kwI, if_neg (fun q => q0 (w0.mp ⟨h.1, q⟩)), if_neg (fun q => q1 (w1.mp ⟨h.1, q⟩)), if_neg (fun q => q2 (w2.mp ⟨h.1, q⟩)), if_neg (fun q => q3 (w3.mp ⟨h.1, q⟩)), if_pos h.2]; rfl
          · obtain ⟨f5, a5, b5, c5, l5, r5⟩ := t5 q4
            obtain ⟨f5, rfl⟩ : ∃ f, f5 = f + 20 := ⟨f5 - 20, by omega⟩
            rw [r5]
            obtain ⟨s6, t6⟩ := wd_4 (am_call d) hn hT hW hab hb (o := 28) (L := 4) (by omega) (by omega) kw_seed.1 kw_seed.2.1 (nI 0 + 1 + 1 + 1 + 1 + 1) f5 a5 b5 c5
            by_cases q5 : wq T a b 28 4
            · have h := w5.mpr q5
              rw [s6 q5, if_pos h.1, kwI, if_neg (fun q => q0 (w0.mp ⟨h.1, q⟩)), if_neg (fun q => q1 (w1.mp ⟨h.1, q⟩)), if_neg (fun q => q2 (w2.mp ⟨h.1, q⟩)), if_neg (fun q => q3 (w3.mp ⟨h.1, q⟩)), if_neg (fun q => q4 (w4.mp ⟨h.1, q⟩)), if_pos h.2]; rfl
            · obtain ⟨f6, a6, b6, c6, l6, r6⟩ := t6 q5
              obtain ⟨f6, rfl⟩ : ∃ f, f6 = f + 1 := ⟨f6 - 1, by omega⟩
              rw [r6, eM_wordAt_4, if_pos (nI_le (by omega) (by omega))]
              by_cases e : b ≤ a + 6
              · rw [if_pos e, kwI, if_neg (fun q => q0 (w0.mp ⟨e, q⟩)), if_neg (fun q => q1 (w1.mp ⟨e, q⟩)), if_neg (fun q => q2 (w2.mp ⟨e, q⟩)), if_neg (fun q => q3 (w3.mp ⟨e, q⟩)), if_neg (fun q => q4 (w4.mp ⟨e, q⟩)), if_neg (fun q => q5 (w5.mp ⟨e, q⟩))]
              · rw [if_neg e]
end MM
