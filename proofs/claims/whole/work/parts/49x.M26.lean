/-! ===== the model: text ===== -/
section MM
variable {g : am_G} {T : Nat → Int32} {σ : aS}
theorem tS0_ok : tS_ok tS0 := ⟨⟨by decide, ⟨fun t p ht => absurd ht (Nat.not_lt_zero _), fun _ => 0, fun t p ht => absurd ht (Nat.not_lt_zero _)⟩, fun t q ht => absurd ht (Nat.not_lt_zero _), fun t ht => absurd ht (Nat.not_lt_zero _)⟩, rfl⟩
theorem kw_of (h : ∀ (k : Nat) (x : Int32), kwl[k]? = some x → g 31 0 k = x) : ∀ k, k < 33 → g 31 0 k = kw k := fun k hk => by
  have hl : k < kwl.length := hk
  have e := List.getElem?_eq_getElem hl
  rw [h k _ e]
  unfold kw
  rw [List.getD_eq_getElem?_getD, e]
  rfl
theorem P_text (d : Nat) (h : rMo g σ) (ho : a_ok σ) (x : Int32) : SimM (am_call (d + 9) 163 [.inr (.inr (29, 0)), .inl x] g) g (o_text σ x) := by
  have hl := ho.2.2.2.2.2.1
  have h0 := h.put131 0
  have hn := ho.1.1
  rw [cM_text, eM_text_0, h0.1.1]
  unfold o_text
  by_cases e0 : x < 0
  · rw [if_pos e0, if_neg (fun q => by have := (q_lt _ _).mp e0; have := (q_le _ _).mp q.1; omega)]; exact ⟨_, rfl, h0, m131⟩
  · rw [if_neg e0]
    have e0' : 0 ≤ x := by rw [q_le]; rw [q_lt] at e0; omega
    by_cases e1 : x ≤ nI (aB σ).length
    · have hq := q_clamp (lo := 0) (hi := (aB σ).length) (x := x) (by omega) (by omega) ⟨e0', e1⟩
      rw [if_pos e1, if_pos ⟨e0', e1⟩]
      generalize hm : x.toNatClampNeg = m at *
      rw [cM_plain, eM_plain_0, bv_some]
      generalize hG1 : am_put (am_put (am_put (am_put (am_put (am_put (am_put (am_put (am_put g 131 0 (0 : Int32)) 134 0 x) 130 0 (0 : Int32)) 132 0 (0 : Int32)) 133 0 (-1 : Int32)) 135 0 (0 : Int32)) 144 0 (0 : Int32)) 145 0 (0 : Int32)) 146 0 (0 : Int32) = G1
      have z1 : ∀ c j, c ≠ 130 → c ≠ 131 → c ≠ 132 → c ≠ 133 → c ≠ 134 → c ≠ 135 → c ≠ 144 → c ≠ 145 → c ≠ 146 → G1 c j = g c j := fun c j h1 h2 h3 h4 h5 h6 h7 h8 h9 => by
        rw [← hG1, m_put_ne (by omega), m_put_ne (by omega), m_put_ne (by omega), m_put_ne (by omega), m_put_ne (by omega), m_put_ne (by omega), m_put_ne (by omega), m_put_ne (by omega), m_put_ne (by omega)]
      have p146 : G1 146 0 0 = 0 := by rw [← hG1, m_put]
      have p145 : G1 145 0 0 = 0 := by rw [← hG1, m_put_ne (by simp), m_put]
      have p144 : G1 144 0 0 = 0 := by rw [← hG1, m_put_ne (by simp), m_put_ne (by simp), m_put]
      have p135 : G1 135 0 0 = 0 := by rw [← hG1, m_put_ne (by simp), m_put_ne (by simp), m_put_ne (by simp), m_put]
      have p133 : G1 133 0 0 = -1 := by rw [← hG1, m_put_ne (by simp), m_put_ne (by simp), m_put_ne (by simp), m_put_ne (by simp), m_put]
      have p132 : G1 132 0 0 = 0 := by rw [← hG1, m_put_ne (by simp), m_put_ne (by simp), m_put_ne (by simp), m_put_ne (by simp), m_put_ne (by simp), m_put]
      have p130 : G1 130 0 0 = 0 := by rw [← hG1, m_put_ne (by simp), m_put_ne (by simp), m_put_ne (by simp), m_put_ne (by simp), m_put_ne (by simp), m_put_ne (by simp), m_put]
      have p134 : G1 134 0 0 = x := by rw [← hG1, m_put_ne (by simp), m_put_ne (by simp), m_put_ne (by simp), m_put_ne (by simp), m_put_ne (by simp), m_put_ne (by simp), m_put_ne (by simp), m_put]
      clear hG1
      have hK : rK0 G1 (fun k => (aB σ).getD k 0) m 0 := by
        refine ⟨by rw [p134]; exact hq.1, p135, by omega, by omega, fun k hk => ?_, kw_of fun k x hk => ?_⟩
        · rw [z1 _ _ (by omega) (by omega) (by omega) (by omega) (by omega) (by omega) (by omega) (by omega) (by omega)]
          have hk2 : k < (aB σ).length := by omega
          have hg := List.getElem?_eq_getElem hk2
          rw [h.1.2 k _ hg]
          show (aB σ)[k] = (aB σ).getD k 0
          rw [List.getD_eq_getElem?_getD, hg]
          rfl
        · rw [z1 _ _ (by omega) (by omega) (by omega) (by omega) (by omega) (by omega) (by omega) (by omega) (by omega)]
          exact h.2.2.2.2.2.2.2 k x hk
      obtain ⟨G2, a1, a2, a3⟩ := M_token (d + 5) hK
      have z2 : ∀ c j, ¬ (135 ≤ c ∧ c ≤ 138) → G2 c j = G1 c j := fun c j hc => a3 c j (fun q => hc q.2)
      rw [a1, bv_some, m_put_ne (g := G2) (show ¬ (142 = 139 ∧ 0 = 0) by simp), z2 142 0 (by omega), z1 _ _ (by omega) (by omega) (by omega) (by omega) (by omega) (by omega) (by omega) (by omega) (by omega), h.2.1.2.2.2]
      generalize hG3 : am_put (am_put G2 139 0 (3 : Int32)) 142 0 (0 : Int32) = G3
      have z3 : ∀ c j, ¬ (c = 139 ∧ j = 0) → ¬ (c = 142 ∧ j = 0) → G3 c j = G2 c j := fun c j q q' => by rw [← hG3, m_put_ne q', m_put_ne q]
      have q139 : G3 139 0 0 = nI 3 := by rw [← hG3, m_put_ne (by simp), m_put]; rfl
      have q142 : G3 142 0 0 = nI 0 := by rw [← hG3, m_put]; rfl
      clear hG3
      have hb3 : rMb G3 tS0 := by
        refine ⟨⟨G3 32 0 (121 * 3 + 120), ?_, fun t ht => absurd ht (Nat.not_lt_zero _)⟩, q139, ?_, fun k x hk => ?_, ?_, ?_, ?_, ?_⟩
        · show G3 32 0 (121 * 3 + 120) = 0 + G3 32 0 (121 * 3 + 120)
          rw [Int32.zero_add]
        · rw [z3 _ _ (by simp) (by simp), z2 _ _ (by omega)]; exact p144
        · have hk : ([] : List Int32)[k]? = some x := hk
          simp at hk
        · rw [z3 _ _ (by simp) (by simp), z2 _ _ (by omega)]; exact p145
        · rw [z3 _ _ (by simp) (by simp), z2 _ _ (by omega)]; exact p146
        · rw [z3 _ _ (by simp) (by simp), z2 _ _ (by omega)]; exact p132
        · rw [z3 _ _ (by simp) (by simp), z2 _ _ (by omega)]; exact p133
      have hp := lx_pos (fun k => (aB σ).getD k 0) (Nat.zero_le m)
      have hr : rKt G3 (fun k => (aB σ).getD k 0) m (lx (fun k => (aB σ).getD k 0) m 0) := a2.cg fun c hc => z3 c 0 (by omega) (by omega)
      obtain ⟨G4, b1, b2⟩ := tx_loop (T := fun k => (aB σ).getD k 0) (n := m) d x (nI (fN (aF σ))) 701 0 99999 G3 tS0 (lx (fun k => (aB σ).getD k 0) m 0) hb3 hr tS0_ok q142 hp.2.2.2.1 hp.2.1 hp.2.2.1 (by omega) (by omega)
      have z4 : ∀ c, c ≠ 32 → c ≠ 34 → ¬ (130 ≤ c ∧ c ≤ 139) → c ≠ 142 → ¬ (144 ≤ c ∧ c ≤ 147) → G4 c 0 = g c 0 := fun c h1 h2 h3 h4 h5 => by
        rw [b1.1 c 0 (fun q => by have := q.2; omega) (by omega), z3 c 0 (by omega) (by omega), z2 c 0 (by omega), z1 c 0 (by omega) (by omega) (by omega) (by omega) (by omega) (by omega) (by omega) (by omega) (by omega)]
      have z4k : ∀ k, ¬ (363 ≤ k ∧ k < 484) → G4 32 0 k = g 32 0 k := fun k hk => by
        rw [b1.2 k hk, z3 32 0 (by omega) (by omega), z2 32 0 (by omega), z1 32 0 (by omega) (by omega) (by omega) (by omega) (by omega) (by omega) (by omega) (by omega) (by omega)]
      have z130 : G4 130 0 0 = 0 := by rw [b1.1 130 0 (fun q => by have := q.2; omega) (by omega), z3 130 0 (by omega) (by omega), z2 130 0 (by omega)]; exact p130
      have fr : m_fr sMd g (am_put (am_put G4 142 0 (nI (fN (aF σ)))) 139 0 (0 : Int32)) := fun c j hc => by
        have hc' : ¬ ((29 ≤ c ∧ c ≤ 35) ∨ (130 ≤ c ∧ c ≤ 149)) := hc
        rw [m_put_ne (by omega), m_put_ne (by omega), b1.1 c j (fun q => by have := q.2; omega) (by omega), z3 c j (by omega) (by omega), z2 c j (by omega), z1 c j (by omega) (by omega) (by omega) (by omega) (by omega) (by omega) (by omega) (by omega) (by omega)]
      have y139 : ∀ c, c ≠ 139 → c ≠ 142 → am_put (am_put G4 142 0 (nI (fN (aF σ)))) 139 0 (0 : Int32) c 0 = G4 c 0 := fun c h1 h2 => by rw [m_put_ne (by omega), m_put_ne (by omega)]
      have e0 : t_text (fun k => (aB σ).getD k 0) m = t_all (fun k => (aB σ).getD k 0) m 701 tS0 (lx (fun k => (aB σ).getD k 0) m 0) 0 := rfl
      rw [e0]
      generalize t_all (fun k => (aB σ).getD k 0) m 701 tS0 (lx (fun k => (aB σ).getD k 0) m 0) 0 = r at b2 ⊢
      cases r with
      | inl e =>
        obtain ⟨b3, b4, b5⟩ := b2
        refine ⟨_, b3, ?_, fr⟩
        obtain ⟨⟨a1, a2⟩, hbk, ⟨c1, c2⟩, ⟨d1, d2⟩, ⟨f1, f2⟩, ⟨i1, i2⟩, ⟨j1, j2⟩, l1⟩ := h
        have zk : ∀ (b : Nat) (F : fF), b ≠ 3 → fN F ≤ 24 → rMk g b F → rMk (am_put (am_put G4 142 0 (nI (fN (aF σ)))) 139 0 (0 : Int32)) b F := fun b F hb1 hn q => q.cg hn fun k y1 y2 => by rw [y139 _ (by omega) (by omega)]; exact z4k k (by omega)
        have z5 : ∀ c, c ≠ 32 → c ≠ 34 → ¬ (130 ≤ c ∧ c ≤ 139) → c ≠ 142 → ¬ (144 ≤ c ∧ c ≤ 147) → am_put (am_put G4 142 0 (nI (fN (aF σ)))) 139 0 (0 : Int32) c 0 = g c 0 := fun c h1 h2 h3 h4 h5 => by rw [y139 c (by omega) (by omega), z4 c h1 h2 h3 h4 h5]
        refine ⟨⟨?_, fun k x hk => ?_⟩, ⟨zk 0 _ (by omega) hn hbk.1, m_put _ _ _ _ _, by omega, ?_⟩, ⟨fun k x hk => ?_, ?_⟩, ⟨?_, fun j G hj => zk _ _ (by omega) (ho.uok j G hj) (d2 j G hj)⟩, ⟨?_, fun G hG => zk _ _ (by omega) (ho.2.2.2.1 G hG).1.1 (f2 G hG)⟩, ⟨?_, fun l hl k x hx => ?_⟩, ⟨?_, ?_⟩, fun k x hk => ?_⟩
        · rw [y139 _ (by omega) (by omega)]; exact z130
        · have hk : ([] : List Int32)[k]? = some x := hk
          simp at hk
        · rw [m_put_ne (by simp), m_put]
        · rw [z5 _ (by omega) (by omega) (by omega) (by omega) (by omega)]; exact c1 k x hk
        · rw [z5 _ (by omega) (by omega) (by omega) (by omega) (by omega)]; exact c2
        · rw [z5 _ (by omega) (by omega) (by omega) (by omega) (by omega)]; exact d1
        · rw [z5 _ (by omega) (by omega) (by omega) (by omega) (by omega)]; exact f1
        · rw [z5 _ (by omega) (by omega) (by omega) (by omega) (by omega)]; exact i1
        · rw [z5 _ (by omega) (by omega) (by omega) (by omega) (by omega)]; exact i2 l hl k x hx
        · rw [y139 _ (by omega) (by omega)]; exact b4
        · rw [y139 _ (by omega) (by omega)]; exact b5
        · rw [z5 _ (by omega) (by omega) (by omega) (by omega) (by omega)]; exact l1 k x hk
      | inr q =>
        obtain ⟨b3, b4, b5⟩ := b2
        obtain ⟨⟨S, r1⟩, r2, r3, r4, r5, r6, r7, r8⟩ := b4
        obtain ⟨G5, k1, k2, k3⟩ := M_keepText (g := am_put (am_put G4 142 0 (nI (fN (aF σ)))) 139 0 (0 : Int32)) d b3 (r1.cg b3.1.1 fun k _ _ => by rw [y139 _ (by omega) (by omega)]) (m_put _ _ _ _ _) (by rw [y139 _ (by omega) (by omega)]; exact r3) (fun k x hk => by rw [y139 _ (by omega) (by omega)]; exact r4 k x hk) (by rw [y139 _ (by omega) (by omega)]; exact r5) (by rw [y139 _ (by omega) (by omega)]; exact z130) (by rw [y139 _ (by omega) (by omega)]; exact r7) (by rw [y139 _ (by omega) (by omega)]; exact r8) (fun k x hk => by rw [y139 _ (by omega) (by omega), z4 _ (by omega) (by omega) (by omega) (by omega) (by omega)]; exact h.2.2.2.2.2.2.2 k x hk)
        rw [k1, bv_some] at b5
        exact ⟨G5, b5, k2, fr.tr k3⟩
    · rw [if_neg e1, if_neg (fun q => e1 q.2)]; exact ⟨_, rfl, h0, m131⟩
end MM
