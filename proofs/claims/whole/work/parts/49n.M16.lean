/-! ===== the model: feed ===== -/
section MM
variable {g : am_G} {σ : aS}
theorem fd_sh : ∀ k, k < 20 → (24 : Int32) - 8 * (nI k - nI k / 4 * 4) = nI (24 - 8 * (k % 4)) := by decide
def fdL (a b c e f : Int32) : List Int32 := by4 a ++ (by4 b ++ (by4 c ++ (by4 e ++ by4 f)))
theorem fd_len (a b c e f : Int32) : (fdL a b c e f).length = 20 := rfl
theorem fd_at (a b c e f : Int32) {k : Nat} (hk : k < 20) : (((if 16 ≤ k then f else if 12 ≤ k then e else if 8 ≤ k then c else if 4 ≤ k then b else a) >>> (nI (24 - 8 * (k % 4)) &&& 31)) &&& 255) = (fdL a b c e f).getD k 0 := by
  have h : k = 0 ∨ k = 1 ∨ k = 2 ∨ k = 3 ∨ k = 4 ∨ k = 5 ∨ k = 6 ∨ k = 7 ∨ k = 8 ∨ k = 9 ∨ k = 10 ∨ k = 11 ∨ k = 12 ∨ k = 13 ∨ k = 14 ∨ k = 15 ∨ k = 16 ∨ k = 17 ∨ k = 18 ∨ k = 19 := by omega
  rcases h with rfl | rfl | rfl | rfl | rfl | rfl | rfl | rfl | rfl | rfl | rfl | rfl | rfl | rfl | rfl | rfl | rfl | rfl | rfl | rfl <;> rfl
theorem fd_step (ct : am_T) (n : Nat) (a b c e f : Int32) {k B : Nat} (o : Option am_V) (hk : k < 20) (hg : g 130 0 0 = nI B) (hB : B + 20 ≤ 700) : ∃ o', am_run ct 133 (n + 1) 13 [some (.inr (.inr (29, 0))), some (.inl a), some (.inl b), some (.inl c), some (.inl e), some (.inl f), some (.inl (nI k)), o] [] g = am_run ct 133 n 13 [some (.inr (.inr (29, 0))), some (.inl a), some (.inl b), some (.inl c), some (.inl e), some (.inl f), some (.inl (nI (k + 1))), o'] [] (am_sto g 30 0 (B + k) ((fdL a b c e f).getD k 0)) := by
  rw [eM_feed_13, hg, nI_add, q_in (by omega) (by omega), cond_true, cond_true, cond_true, cond_true, cond_true, nI_clamp (by omega), nI_1, fd_sh k hk, show (20 : Int32) = nI 20 from rfl, if_neg (nI_ge hk (by omega)), ← fd_at a b c e f hk, if_neg (show ¬ (4 : Int32) = 0 by decide), if_neg (show ¬ (4 : Int32) = 0 by decide), if_neg (show ¬ (4 : Int32) = 0 by decide), if_neg (show ¬ (4 : Int32) = 0 by decide), if_neg (show ¬ (4 : Int32) = 0 by decide)]
  have q4 : (4 : Int32) = nI 4 := rfl
  have q8 : (8 : Int32) = nI 8 := rfl
  have q12 : (12 : Int32) = nI 12 := rfl
  have q16 : (16 : Int32) = nI 16 := rfl
  by_cases h16 : 16 ≤ k
  · rw [q4, q8, q12, q16, if_pos (nI_le (show 4 ≤ k by omega) (by omega)), if_pos (nI_le (show 8 ≤ k by omega) (by omega)), if_pos (nI_le (show 12 ≤ k by omega) (by omega)), if_pos (nI_le h16 (by omega)), if_pos h16]
    exact ⟨_, rfl⟩
  · by_cases h12 : 12 ≤ k
    · rw [q4, q8, q12, q16, if_pos (nI_le (show 4 ≤ k by omega) (by omega)), if_pos (nI_le (show 8 ≤ k by omega) (by omega)), if_pos (nI_le (show 12 ≤ k by omega) (by omega)), if_neg (nI_ge (show k < 16 by omega) (by omega)), if_neg h16, if_pos h12]
      exact ⟨_, rfl⟩
    · by_cases h8 : 8 ≤ k
      · rw [q4, q8, q12, if_pos (nI_le (show 4 ≤ k by omega) (by omega)), if_pos (nI_le (show 8 ≤ k by omega) (by omega)), if_neg (nI_ge (show k < 12 by omega) (by omega)), if_neg h16, if_neg h12, if_pos h8]
        exact ⟨_, rfl⟩
      · by_cases h4 : 4 ≤ k
        · rw [q4, q8, if_pos (nI_le (show 4 ≤ k by omega) (by omega)), if_neg (nI_ge (show k < 8 by omega) (by omega)), if_neg h16, if_neg h12, if_neg h8, if_pos h4]
          exact ⟨_, rfl⟩
        · rw [q4, if_neg (nI_ge (show k < 4 by omega) (by omega)), if_neg h16, if_neg h12, if_neg h8, if_neg h4]
          exact ⟨_, rfl⟩
theorem fd_loop (ct : am_T) (a b c e f : Int32) {B : Nat} (hB : B + 20 ≤ 700) : ∀ (m k fuel : Nat) (g : am_G) (o : Option am_V), k + m = 20 → m < fuel → g 130 0 0 = nI B →
    ∃ g', am_run ct 133 fuel 13 [some (.inr (.inr (29, 0))), some (.inl a), some (.inl b), some (.inl c), some (.inl e), some (.inl f), some (.inl (nI k)), o] [] g = some (some (.inl (nI (B + 20))), g') ∧ g' 130 0 0 = nI (B + 20) ∧ (∀ j, k ≤ j → j < 20 → g' 30 0 (B + j) = (fdL a b c e f).getD j 0) ∧ (∀ j, j < B + k → g' 30 0 j = g 30 0 j) ∧ ∀ c j, ¬ (c = 30 ∧ j = 0) → ¬ (c = 130 ∧ j = 0) → g' c j = g c j
  | 0, k, fuel, g, o, hk, hf, hg => by
    obtain ⟨fuel, rfl⟩ : ∃ k', fuel = k' + 1 := ⟨fuel - 1, by omega⟩
    have e : k = 20 := by omega
    subst e
    rw [eM_feed_13, hg, show (20 : Int32) = nI 20 from rfl, if_pos (nI_le (Nat.le_refl _) (by omega)), nI_add, m_put]
    exact ⟨_, rfl, m_put _ _ _ _ _, fun j h1 h2 => by omega, fun j hj => by rw [m_put_ne (by simp)], fun c j _ q => m_put_ne q⟩
  | m + 1, k, fuel, g, o, hk, hf, hg => by
    obtain ⟨fuel, rfl⟩ : ∃ k', fuel = k' + 1 := ⟨fuel - 1, by omega⟩
    obtain ⟨o', h1⟩ := fd_step ct fuel a b c e f o (k := k) (by omega) hg hB
    obtain ⟨g', k1, k2, k3, k4, k5⟩ := fd_loop ct a b c e f hB m (k + 1) fuel (am_sto g 30 0 (B + k) ((fdL a b c e f).getD k 0)) o' (by omega) (by omega) (by rw [m_sto_ne (by simp)]; exact hg)
    rw [h1]
    refine ⟨g', k1, k2, fun j j1 j2 => ?_, fun j hj => ?_, fun c j q q' => ?_⟩
    · by_cases ej : j = k
      · subst ej
        rw [k4 _ (by omega), m_sto, if_pos rfl]
      · exact k3 j (by omega) j2
    · rw [k4 j (by omega), m_sto, if_neg (by omega)]
    · rw [k5 c j q q', m_sto_ne q]
theorem P_feed (d : Nat) (h : rMo g σ) (ho : a_ok σ) (a b c e f : Int32) : SimM (am_call (d + 9) 133 [.inr (.inr (29, 0)), .inl a, .inl b, .inl c, .inl e, .inl f] g) g (o_feed σ a b c e f) := by
  have hl := ho.2.2.2.2.2.1
  have h0 := h.put131 0
  rw [cM_feed, eM_feed_0, h0.1.1, show (20 : Int32) = nI 20 from rfl, nI_add, show (700 : Int32) = nI 700 from rfl]
  unfold o_feed
  by_cases ef : 680 < (aB σ).length
  · rw [if_neg (nI_ge (by omega) (by omega)), if_pos ef]; exact ⟨_, rfl, h0, m131⟩
  · obtain ⟨g', k1, k2, k3, k4, k5⟩ := fd_loop (am_call (d + 8)) a b c e f (B := (aB σ).length) (by omega) 20 0 99999 (am_put g 131 0 (0 : Int32)) none (by omega) (by omega) h0.1.1
    have k1' : am_run (am_call (d + 8)) 133 99999 13 [some (.inr (.inr (29, 0))), some (.inl a), some (.inl b), some (.inl c), some (.inl e), some (.inl f), some (.inl (0 : Int32)), none] [] (am_put g 131 0 (0 : Int32)) = some (some (.inl (nI ((aB σ).length + 20))), g') := k1
    rw [if_pos (nI_le (by omega) (by omega)), if_neg ef, k1']
    refine ⟨g', rfl, ?_, m131.tr fun c j hn => k5 c j (fun q => hn (by unfold sMd; omega)) (fun q => hn (by unfold sMd; omega))⟩
    obtain ⟨⟨a1, a2⟩, ⟨⟨b1, b2⟩, b3, b4, b5⟩, ⟨c1, c2⟩, ⟨d1, d2⟩, ⟨e1, e2⟩, ⟨f1, f2⟩, ⟨i1, i2⟩, j1⟩ := h0
    have z : ∀ c, c ≠ 30 → c ≠ 130 → g' c 0 = am_put g 131 0 (0 : Int32) c 0 := fun c hc hc' => k5 c 0 (fun q => hc q.1) (fun q => hc' q.1)
    have hk : ∀ (b : Nat) (F : fF), rMk (am_put g 131 0 (0 : Int32)) b F → rMk g' b F := fun b F q => ⟨by rw [z 32 (by omega) (by omega)]; exact q.1, fun t ht => by rw [z 32 (by omega) (by omega)]; exact q.2 t ht⟩
    refine ⟨⟨?_, fun k x hx => ?_⟩, ⟨hk _ _ ⟨b1, b2⟩, by rw [z _ (by omega) (by omega)]; exact b3, b4, by rw [z _ (by omega) (by omega)]; exact b5⟩, ⟨fun k x hk => by rw [z _ (by omega) (by omega)]; exact c1 k x hk, by rw [z _ (by omega) (by omega)]; exact c2⟩, ⟨by rw [z _ (by omega) (by omega)]; exact d1, fun j G hj => hk _ _ (d2 j G hj)⟩, ⟨by rw [z _ (by omega) (by omega)]; exact e1, fun G hG => hk _ _ (e2 G hG)⟩, ⟨by rw [z _ (by omega) (by omega)]; exact f1, fun l' hl k x hx => by rw [z _ (by omega) (by omega)]; exact f2 l' hl k x hx⟩, ⟨by rw [z _ (by omega) (by omega)]; exact i1, by rw [z _ (by omega) (by omega)]; exact i2⟩, fun k x hk => by rw [z _ (by omega) (by omega)]; exact j1 k x hk⟩
    · show g' 130 0 0 = nI ((aB σ ++ fdL a b c e f).length)
      rw [k2, List.length_append, fd_len]
    · have hx : (aB σ ++ fdL a b c e f)[k]? = some x := hx
      by_cases e : k < (aB σ).length
      · rw [List.getElem?_append_left e] at hx
        rw [k4 k (by omega)]
        exact a2 k x hx
      · rw [List.getElem?_append_right (by omega)] at hx
        have h2 := (List.getElem?_eq_some_iff.mp hx).1
        rw [fd_len] at h2
        have h3 := k3 (k - (aB σ).length) (by omega) h2
        rw [show (aB σ).length + (k - (aB σ).length) = k by omega, List.getD_eq_getElem?_getD, hx] at h3
        exact h3
end MM
