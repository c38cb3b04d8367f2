/-! ===== the model: a forest in a bank ===== -/
def rMk (g : am_G) (b : Nat) (F : fF) : Prop := g 32 0 (121 * b + 120) = fS F ∧ ∀ t, t < fN F → g 32 0 (121 * b + t) = eM (fP F t) ∧ g 32 0 (121 * b + (24 + t)) = eM (fQ F t) ∧ g 32 0 (121 * b + (48 + t)) = eM ((fP F t).map fun _ => fL F t) ∧ g 32 0 (121 * b + (72 + t)) = eM ((fP F t).map fun _ => fC F t) ∧ g 32 0 (121 * b + (96 + t)) = fV F t
/-- the bank in use -/
def rMa (g : am_G) (b : Nat) (F : fF) : Prop := rMk g b F ∧ g 139 0 0 = nI b ∧ b < 24 ∧ g 142 0 0 = nI (fN F)
/-- only bank b may have changed -/
def mB (b : Nat) (g g' : am_G) : Prop := (∀ c j, ¬ (c = 32 ∧ j = 0) → g' c j = g c j) ∧ ∀ k, ¬ (121 * b ≤ k ∧ k < 121 * b + 121) → g' 32 0 k = g 32 0 k
theorem mB.rf {b : Nat} {g : am_G} : mB b g g := ⟨fun _ _ _ => rfl, fun _ _ => rfl⟩
theorem mB.tr {b : Nat} {g g1 g2 : am_G} (h1 : mB b g g1) (h2 : mB b g1 g2) : mB b g g2 := ⟨fun c j h => (h2.1 c j h).trans (h1.1 c j h), fun k h => (h2.2 k h).trans (h1.2 k h)⟩
def mst (g : am_G) (b k : Nat) (x : Int32) : am_G := am_sto g 32 0 (121 * b + k) x
theorem mst_at (g : am_G) (b k : Nat) (x : Int32) (j : Nat) : mst g b k x 32 0 (121 * b + j) = if j = k then x else g 32 0 (121 * b + j) := by
  unfold mst
  rw [m_sto]
  by_cases e : j = k
  · rw [if_pos e, if_pos (by rw [e])]
  · rw [if_neg e, if_neg (by omega)]
theorem mst_o (g : am_G) (b k : Nat) (x : Int32) {c j : Nat} (h : ¬ (c = 32 ∧ j = 0)) : mst g b k x c j = g c j := m_sto_ne h
theorem mst_B (g : am_G) {b k : Nat} (hk : k < 121) (x : Int32) : mB b g (mst g b k x) := ⟨fun c j h => mst_o g b k x h, fun j h => by
  unfold mst
  rw [m_sto, if_neg (by omega)]⟩
theorem k_0 (t : Nat) : (0 : Int32) + nI t = nI t := by rw [q_n0, nI_add, Nat.zero_add]
theorem k_24 (t : Nat) : (24 : Int32) + nI t = nI (24 + t) := nI_add ..
theorem k_48 (t : Nat) : (48 : Int32) + nI t = nI (48 + t) := nI_add ..
theorem k_72 (t : Nat) : (72 : Int32) + nI t = nI (72 + t) := nI_add ..
theorem k_96 (t : Nat) : (96 : Int32) + nI t = nI (96 + t) := nI_add ..
theorem k_120 : (120 : Int32) = nI 120 := rfl
section MM
variable {g : am_G} {b : Nat} {F : fF}
theorem rMa.b139 (h : rMa g b F) : g 139 0 0 = nI b := h.2.1
theorem M_at {k : Nat} (h1 : g 139 0 0 = nI b) (h2 : b < 24) (hk : k < 121) : (121 : Int32) * (g 139 0 0) + nI k = nI (121 * b + k) ∧ am_in (nI (121 * b + k)) 2904 = true ∧ (nI (121 * b + k)).toNatClampNeg = 121 * b + k := by
  rw [h1, show (121 : Int32) = nI 121 from rfl, pk_mul, nI_add]
  exact ⟨rfl, q_in (by omega) (by omega), nI_clamp (by omega)⟩
theorem M_of (d : Nat) (h1 : g 139 0 0 = nI b) (h2 : b < 24) {k : Nat} (hk : k < 121) : am_call (d + 1) 141 [.inr (.inr (29, 0)), .inl (nI k)] g = some (some (.inl (g 32 0 (121 * b + k))), g) := by
  obtain ⟨e1, e2, e3⟩ := M_at h1 h2 hk
  rw [cM_of, eM_of_0, e1, e2, cond_true, e3]
theorem M_lay (d : Nat) (h1 : g 139 0 0 = nI b) (h2 : b < 24) {k : Nat} (hk : k < 121) (x : Int32) : am_call (d + 1) 142 [.inr (.inr (29, 0)), .inl (nI k), .inl x] g = some (none, mst g b k x) := by
  obtain ⟨e1, e2, e3⟩ := M_at h1 h2 hk
  rw [cM_lay, eM_lay_0, e1, e2, cond_true, e3]
  rfl
theorem rMa.p (h : rMa g b F) {t : Nat} (ht : t < fN F) : g 32 0 (121 * b + t) = eM (fP F t) := (h.1.2 t ht).1
theorem rMa.q (h : rMa g b F) {t : Nat} (ht : t < fN F) : g 32 0 (121 * b + (24 + t)) = eM (fQ F t) := (h.1.2 t ht).2.1
theorem rMa.l (h : rMa g b F) {t : Nat} (ht : t < fN F) : g 32 0 (121 * b + (48 + t)) = eM ((fP F t).map fun _ => fL F t) := (h.1.2 t ht).2.2.1
theorem rMa.c (h : rMa g b F) {t : Nat} (ht : t < fN F) : g 32 0 (121 * b + (72 + t)) = eM ((fP F t).map fun _ => fC F t) := (h.1.2 t ht).2.2.2.1
theorem rMa.v (h : rMa g b F) {t : Nat} (ht : t < fN F) : g 32 0 (121 * b + (96 + t)) = fV F t := (h.1.2 t ht).2.2.2.2
theorem M_parent (d : Nat) (h : rMa g b F) (hn : fN F ≤ 24) {t : Nat} (ht : t < fN F) : am_call (d + 2) 150 [.inr (.inr (29, 0)), .inl (nI t)] g = some (some (.inl (eM (fP F t))), g) := by
  rw [cM_parent, eM_parent_0, k_0, M_of d h.2.1 h.2.2.1 (by omega), bi_some, h.p ht]
theorem M_prefers (d : Nat) (h : rMa g b F) (hn : fN F ≤ 24) {t : Nat} (ht : t < fN F) : am_call (d + 2) 151 [.inr (.inr (29, 0)), .inl (nI t)] g = some (some (.inl (eM (fQ F t))), g) := by
  rw [cM_prefers, eM_prefers_0, k_24, M_of d h.2.1 h.2.2.1 (by omega), bi_some, h.q ht]
theorem M_ofL (d : Nat) (h : rMa g b F) (hn : fN F ≤ 24) {t : Nat} (ht : t < fN F) : am_call (d + 1) 141 [.inr (.inr (29, 0)), .inl ((48 : Int32) + nI t)] g = some (some (.inl (eM ((fP F t).map fun _ => fL F t))), g) := by
  rw [k_48, M_of d h.2.1 h.2.2.1 (by omega), h.l ht]
theorem M_ofC (d : Nat) (h : rMa g b F) (hn : fN F ≤ 24) {t : Nat} (ht : t < fN F) : am_call (d + 1) 141 [.inr (.inr (29, 0)), .inl ((72 : Int32) + nI t)] g = some (some (.inl (eM ((fP F t).map fun _ => fC F t))), g) := by
  rw [k_72, M_of d h.2.1 h.2.2.1 (by omega), h.c ht]
theorem M_ofV (d : Nat) (h : rMa g b F) (hn : fN F ≤ 24) {t : Nat} (ht : t < fN F) : am_call (d + 1) 141 [.inr (.inr (29, 0)), .inl ((96 : Int32) + nI t)] g = some (some (.inl (fV F t)), g) := by
  rw [k_96, M_of d h.2.1 h.2.2.1 (by omega), h.v ht]
theorem M_rootOf_loop (d : Nat) (h : rMa g b F) (hw : f_wf F) (x1 : Int32) : ∀ (k t : Nat), t < fN F → (f_a (fP F) t).length ≤ k →
    am_run (am_call (d + 2)) 166 k 2 [some (.inr (.inr (29, 0))), some (.inl x1), some (.inl (nI t))] [] g = some (some (.inl (nI (f_r (fP F) t))), g)
  | 0, t, ht, hk => by have := f_a_pos (fP F) t; omega
  | k + 1, t, ht, hk => by
    rw [eM_rootOf_2, M_parent d h hw.1 ht, bi_some]
    cases hp : fP F t with
    | none => rw [eM_none, if_pos (by decide), f_r_none hw.2.1 hw.1 ht hp]
    | some p =>
      have hpn := hw.p ht hp
      rw [hw.as ht hp, List.length_cons] at hk
      rw [eM_some, if_neg (q_nn (q24 hw.1 hpn)), M_parent d h hw.1 ht, bi_some, hp, eM_some, f_r_some hw.2.1 hw.1 ht hp]
      exact M_rootOf_loop d h hw x1 k p hpn (by omega)
theorem M_rootOf (d : Nat) (h : rMa g b F) (hw : f_wf F) {t : Nat} (ht : t < fN F) : am_call (d + 3) 166 [.inr (.inr (29, 0)), .inl (nI t)] g = some (some (.inl (nI (f_r (fP F) t))), g) := by
  have := hw.al ht
  rw [cM_rootOf, eM_rootOf_0]
  exact M_rootOf_loop d h hw _ 99999 t ht (by omega)
theorem M_areTogether (d : Nat) (h : rMa g b F) (hw : f_wf F) {s t : Nat} (hs : s < fN F) (ht : t < fN F) : am_call (d + 4) 167 [.inr (.inr (29, 0)), .inl (nI s), .inl (nI t)] g = some (some (.inl (if f_r (fP F) s = f_r (fP F) t then 1 else 0)), g) := by
  have h1 := q24 hw.1 (f_r_lt hw.2.1 hw.1 s hs).1
  have h2 := q24 hw.1 (f_r_lt hw.2.1 hw.1 t ht).1
  rw [cM_areTogether, eM_areTogether_0, M_rootOf d h hw hs, bi_some, M_rootOf d h hw ht, bi_some]
  by_cases e : f_r (fP F) s = f_r (fP F) t
  · rw [if_pos (by rw [e]), if_pos e]
  · rw [if_neg (by rw [nI_eq h1 h2]; exact e), if_neg e]
theorem M_would_loop (d : Nat) (h : rMa g b F) (hw : f_wf F) (x1 : Int32) : ∀ (k t c : Nat), t < fN F → (f_a (fP F) t).length ≤ k →
    am_run (am_call (d + 2)) 168 k 4 [some (.inr (.inr (29, 0))), some (.inl x1), some (.inl (nI c)), some (.inl (nI t))] [] g = some (some (.inl (nI (c + p_cnt (fQ F) (f_a (fP F) t)))), g)
  | 0, t, c, ht, hk => by have := f_a_pos (fP F) t; omega
  | k + 1, t, c, ht, hk => by
    rw [eM_would1_4, M_parent d h hw.1 ht, bi_some]
    cases hp : fP F t with
    | none => rw [eM_none, if_pos (by decide), hw.an ht hp]; rfl
    | some p =>
      have hpn := hw.p ht hp
      rw [hw.as ht hp] at hk ⊢
      rw [List.length_cons] at hk
      rw [eM_some, if_neg (q_nn (q24 hw.1 hpn)), M_parent d h hw.1 ht, bi_some, hp, eM_some, M_prefers d h hw.1 hpn, bi_some, M_parent d h hw.1 ht, bi_some, bi_some, hp, eM_some, p_cnt_as]
      by_cases e : fQ F p = some t
      · rw [if_pos ((eM_inj (hw.q31 hpn) (q24 hw.1 ht)).mpr e), if_pos e, Int32.add_zero, Nat.zero_add]
        exact M_would_loop d h hw x1 k p c hpn (by omega)
      · rw [if_neg (fun q => e ((eM_inj (hw.q31 hpn) (q24 hw.1 ht)).mp q)), if_neg e, nI_1, ← Nat.add_assoc]
        exact M_would_loop d h hw x1 k p (c + 1) hpn (by omega)
theorem M_would1 (d : Nat) (h : rMa g b F) (hw : f_wf F) {t : Nat} (ht : t < fN F) : am_call (d + 3) 168 [.inr (.inr (29, 0)), .inl (nI t)] g = some (some (.inl (nI (p_cnt (fQ F) (f_a (fP F) t)))), g) := by
  have := hw.al ht
  rw [cM_would1, eM_would1_0]
  have := M_would_loop d h hw (nI t) 99999 t 0 ht (by omega)
  rw [Nat.zero_add] at this
  exact this
theorem rMa.setQ (h : rMa g b F) (hn : fN F ≤ 24) {y : Nat} (hy : y < 24) (o : Option Nat) : rMa (mst g b (24 + y) (eM o)) b (f_wQ F (uo (fQ F) y o)) := by
  refine ⟨⟨?_, fun t ht => ?_⟩, by rw [mst_o _ _ _ _ (by simp)]; exact h.2.1, h.2.2.1, by rw [mst_o _ _ _ _ (by simp)]; exact h.2.2.2⟩
  · rw [mst_at, if_neg (by omega)]; exact h.1.1
  · have ht : t < fN F := ht
    obtain ⟨a1, a2, a3, a4, a5⟩ := h.1.2 t ht
    rw [mst_at, mst_at, mst_at, mst_at, mst_at, if_neg (by omega), if_neg (by omega : ¬ 48 + t = 24 + y), if_neg (by omega : ¬ 72 + t = 24 + y), if_neg (by omega : ¬ 96 + t = 24 + y)]
    refine ⟨a1, ?_, a3, a4, a5⟩
    show _ = eM (uo (fQ F) y o t)
    unfold uo
    by_cases e : t = y
    · rw [if_pos (by omega), if_pos e]
    · rw [if_neg (by omega), if_neg e]; exact a2
theorem rMa.setS (h : rMa g b F) (hn : fN F ≤ 24) (s : Int32) : rMa (mst g b 120 s) b (f_sS F s) := by
  refine ⟨⟨?_, fun t ht => ?_⟩, by rw [mst_o _ _ _ _ (by simp)]; exact h.2.1, h.2.2.1, by rw [mst_o _ _ _ _ (by simp)]; exact h.2.2.2⟩
  · rw [mst_at, if_pos rfl]; rfl
  · have ht : t < fN F := ht
    rw [mst_at, mst_at, mst_at, mst_at, mst_at, if_neg (by omega), if_neg (by omega : ¬ 24 + t = 120), if_neg (by omega : ¬ 48 + t = 120), if_neg (by omega : ¬ 72 + t = 120), if_neg (by omega : ¬ 96 + t = 120)]
    exact h.1.2 t ht
theorem M_touch_loop (d : Nat) (x1 x2 : Int32) : ∀ (k x : Nat) (F : fF) (g : am_G), rMa g b F → fN F ≤ 24 → f_ok (fN F) (fP F) → x < fN F → (f_a (fP F) x).length ≤ k →
    ∃ g', am_run (am_call (d + 3)) 169 k 12 [some (.inr (.inr (29, 0))), some (.inl x1), some (.inl x2), some (.inl (nI x))] [] g = some (some (.inl x2), g') ∧ rMa g' b (fN F, fP F, p_set (fQ F) (f_a (fP F) x), fL F, fC F, fV F, fS F + x2) ∧ mB b g g'
  | 0, x, F, g, h, hn, ho, hx, hk => by have := f_a_pos (fP F) x; omega
  | k + 1, x, F, g, h, hn, ho, hx, hk => by
    rw [eM_touches_12, M_parent (d + 1) h hn hx, bi_some]
    cases hp : fP F x with
    | none =>
      rw [eM_none, if_pos (by decide), k_120, M_of (d + 2) h.2.1 h.2.2.1 (by omega), bi_some, M_lay (d + 2) h.2.1 h.2.2.1 (by omega), bv_some, h.1.1, f_a_none ho hn hx hp]
      exact ⟨_, rfl, h.setS hn (fS F + x2), mst_B _ (by omega) _⟩
    | some y =>
      have hy := ho.1 x y hx hp
      rw [f_a_some ho hn hx hp] at hk ⊢
      rw [List.length_cons] at hk
      have h' := h.setQ hn (y := y) (by omega) (some x)
      have hpar : am_call (d + 3) 150 [.inr (.inr (29, 0)), .inl (nI x)] (mst g b (24 + y) (nI x)) = some (some (.inl (eM (fP F x))), mst g b (24 + y) (nI x)) := M_parent (d + 1) h' hn hx
      rw [eM_some, if_neg (q_nn (q24 hn hy)), M_parent (d + 1) h hn hx, bi_some, hp, eM_some, k_24, M_lay (d + 2) h.2.1 h.2.2.1 (by omega), bv_some, hpar, bi_some, hp, eM_some, p_set_as]
      obtain ⟨g', k1, k2, k3⟩ := M_touch_loop d x1 x2 k y (f_wQ F (uo (fQ F) y (some x))) (mst g b (24 + y) (nI x)) h' hn ho hy (by show (f_a (fP F) y).length ≤ k; omega)
      exact ⟨g', k1, k2, (mst_B _ (by omega) _).tr k3⟩
theorem M_touches (d : Nat) (h : rMa g b F) (hw : f_wf F) {t : Nat} (ht : t < fN F) : ∃ g', am_call (d + 4) 169 [.inr (.inr (29, 0)), .inl (nI t)] g = some (some (.inl (nI (p_cnt (fQ F) (f_a (fP F) t)))), g') ∧ rMa g' b (f_touch F t) ∧ mB b g g' := by
  have := hw.al ht
  have hn := hw.1
  rw [cM_touches, eM_touches_0, M_would1 d h hw ht, bi_some, k_24, M_lay (d + 2) h.2.1 h.2.2.1 (by omega), bv_some]
  obtain ⟨g', k1, k2, k3⟩ := M_touch_loop (b := b) d (nI t) (nI (p_cnt (fQ F) (f_a (fP F) t))) 99999 t (f_wQ F (uo (fQ F) t none)) (mst g b (24 + t) (-2)) (h.setQ hw.1 (by omega) none) hw.1 hw.2.1 ht (by show (f_a (fP F) t).length ≤ 99999; omega)
  exact ⟨g', k1, k2, (mst_B _ (by omega) _).tr k3⟩
theorem rMa.one (h : rMa g b F) (hn : fN F ≤ 24) {x : Nat} (hx : x < 24) (lo : Option Nat) (ml mc : Nat) :
    rMa (mst (mst (mst (mst g b x (eM lo)) b (48 + x) (eM (lo.map fun _ => ml))) b (72 + x) (eM (lo.map fun _ => mc))) b (24 + x) (eM (fP F x))) b (r_one F x lo ml mc) := by
  refine ⟨⟨?_, fun t ht => ?_⟩, ?_, h.2.2.1, ?_⟩
  · rw [mst_at, if_neg (by omega), mst_at, if_neg (by omega), mst_at, if_neg (by omega), mst_at, if_neg (by omega)]; exact h.1.1
  · have ht : t < fN F := ht
    obtain ⟨a1, a2, a3, a4, a5⟩ := h.1.2 t ht
    simp only [mst_at]
    by_cases e : t = x
    · subst e
      rw [if_neg (by omega), if_neg (by omega), if_neg (by omega), if_pos rfl, if_pos rfl, if_neg (by omega : ¬ 48 + t = 24 + t), if_neg (by omega : ¬ 48 + t = 72 + t), if_pos rfl, if_neg (by omega : ¬ 72 + t = 24 + t), if_pos rfl, if_neg (by omega : ¬ 96 + t = 24 + t), if_neg (by omega : ¬ 96 + t = 72 + t), if_neg (by omega : ¬ 96 + t = 48 + t), if_neg (by omega : ¬ 96 + t = t)]
      show _ = eM (uo (fP F) t lo t) ∧ _ = eM (uo (fQ F) t (fP F t) t) ∧ _ = eM ((uo (fP F) t lo t).map fun _ => uo (fL F) t ml t) ∧ _ = eM ((uo (fP F) t lo t).map fun _ => uo (fC F) t mc t) ∧ _
      simp only [uo_eq]
      exact ⟨trivial, trivial, trivial, trivial, a5⟩
    · rw [if_neg (by omega), if_neg (by omega), if_neg (by omega), if_neg (by omega), if_neg (by omega : ¬ 24 + t = 24 + x), if_neg (by omega : ¬ 24 + t = 72 + x), if_neg (by omega : ¬ 24 + t = 48 + x), if_neg (by omega : ¬ 24 + t = x), if_neg (by omega : ¬ 48 + t = 24 + x), if_neg (by omega : ¬ 48 + t = 72 + x), if_neg (by omega : ¬ 48 + t = 48 + x), if_neg (by omega : ¬ 48 + t = x), if_neg (by omega : ¬ 72 + t = 24 + x), if_neg (by omega : ¬ 72 + t = 72 + x), if_neg (by omega : ¬ 72 + t = 48 + x), if_neg (by omega : ¬ 72 + t = x), if_neg (by omega : ¬ 96 + t = 24 + x), if_neg (by omega : ¬ 96 + t = 72 + x), if_neg (by omega : ¬ 96 + t = 48 + x), if_neg (by omega : ¬ 96 + t = x)]
      show _ = eM (uo (fP F) x lo t) ∧ _ = eM (uo (fQ F) x (fP F x) t) ∧ _ = eM ((uo (fP F) x lo t).map fun _ => uo (fL F) x ml t) ∧ _ = eM ((uo (fP F) x lo t).map fun _ => uo (fC F) x mc t) ∧ _
      simp only [uo_ne e]
      exact ⟨a1, a2, a3, a4, a5⟩
  · rw [mst_o _ _ _ _ (by simp), mst_o _ _ _ _ (by simp), mst_o _ _ _ _ (by simp), mst_o _ _ _ _ (by simp)]; exact h.2.1
  · rw [mst_o _ _ _ _ (by simp), mst_o _ _ _ _ (by simp), mst_o _ _ _ _ (by simp), mst_o _ _ _ _ (by simp)]; exact h.2.2.2
theorem M_rev_loop (d : Nat) (x1 x2 : Int32) : ∀ (k : Nat) (R : List Nat) (F : fF) (g : am_G) (lo : Option Nat) (ml mc : Nat) (x5 x6 : Int32) (o7 o8 o9 : Option am_V), rMa g b F → fN F ≤ 24 → R.Nodup → (∀ x ∈ R, x < fN F) → p_ch (fP F) R → (R ≠ [] → x5 = eM (lo.map fun _ => ml) ∧ x6 = eM (lo.map fun _ => mc)) → R.length < k →
    ∃ g', am_run (am_call (d + 2)) 170 k 12 [some (.inr (.inr (29, 0))), some (.inl x1), some (.inl x2), some (.inl (eM R.head?)), some (.inl (eM lo)), some (.inl x5), some (.inl x6), o7, o8, o9] [] g = some (some (.inl x2), g') ∧ rMa g' b (r_rev F lo ml mc R) ∧ mB b g g'
  | 0, R, F, g, lo, ml, mc, x5, x6, o7, o8, o9, h, hn, hd, hr, hc, hlo, hk => by omega
  | k + 1, [], F, g, lo, ml, mc, x5, x6, o7, o8, o9, h, hn, hd, hr, hc, hlo, hk => by
    rw [eM_reroots_12, List.head?_nil, eM_none, if_pos (by decide)]
    exact ⟨g, rfl, h, mB.rf⟩
  | k + 1, x :: r, F, g, lo, ml, mc, x5, x6, o7, o8, o9, h, hn, hd, hr, hc, hlo, hk => by
    have hx := hr x List.mem_cons_self
    have hb := h.2.2.1
    obtain ⟨hd1, hd2⟩ := List.nodup_cons.mp hd
    have e0 : (x :: r).head? = some x := rfl
    obtain ⟨rfl, rfl⟩ := hlo (by simp)
    have o1 : ∀ (g : am_G) (k : Nat) (y : Int32), mst g b k y 139 0 0 = g 139 0 0 := fun g k y => by rw [mst_o _ _ _ _ (by simp)]
    rw [List.length_cons] at hk
    rw [eM_reroots_12, e0, eM_some, if_neg (q_nn (q24 hn hx)), M_parent d h hn hx, bi_some, M_ofL (d + 1) h hn hx, bi_some, M_ofC (d + 1) h hn hx, bi_some, k_0, M_lay (d + 1) h.2.1 hb (by omega), bv_some, k_48, M_lay (d + 1) (by rw [o1]; exact h.2.1) hb (by omega), bv_some, k_72, M_lay (d + 1) (by rw [o1, o1]; exact h.2.1) hb (by omega), bv_some, k_24, M_lay (d + 1) (by rw [o1, o1, o1]; exact h.2.1) hb (by omega), bv_some, M_lay (d + 1) (by rw [o1, o1, o1]; exact h.2.1) hb (by omega), bv_some]
    have h' := h.one hn (x := x) (by omega) lo ml mc
    have hB : mB b g (mst (mst (mst (mst g b x (eM lo)) b (48 + x) (eM (lo.map fun _ => ml))) b (72 + x) (eM (lo.map fun _ => mc))) b (24 + x) (eM (fP F x))) := (((mst_B _ (by omega) _).tr (mst_B _ (by omega) _)).tr (mst_B _ (by omega) _)).tr (mst_B _ (by omega) _)
    have hif : ∀ (A : Int32 → Option am_R), (if 0 ≤ eM (fP F x) then A (eM (fP F x)) else A (-2)) = A (eM (fP F x)) := fun A => by
      cases hq : fP F x with
      | none => rw [eM_none, if_neg (by decide)]
      | some p => rw [if_pos]; rw [eM_some]; exact q_0le (q24 hn (by
          have := hc.1
          rw [hq] at this
          cases r with
          | nil => cases this
          | cons y r => cases this; exact hr p (by simp)))
    rw [hif (fun v => am_run (am_call (d + 2)) 170 k 12 [some (.inr (.inr (29, 0))), some (.inl x1), some (.inl x2), some (.inl (eM (fP F x))), some (.inl (nI x)), some (.inl (eM ((fP F x).map fun _ => fL F x))), some (.inl (eM ((fP F x).map fun _ => fC F x))), some (.inl (eM (fP F x))), some (.inl (eM ((fP F x).map fun _ => fL F x))), some (.inl (eM ((fP F x).map fun _ => fC F x)))] [] (mst (mst (mst (mst g b x (eM lo)) b (48 + x) (eM (lo.map fun _ => ml))) b (72 + x) (eM (lo.map fun _ => mc))) b (24 + x) v))]
    obtain ⟨g', k1, k2, k3⟩ := M_rev_loop d x1 x2 k r (r_one F x lo ml mc) _ (some x) (fL F x) (fC F x) (eM ((fP F x).map fun _ => fL F x)) (eM ((fP F x).map fun _ => fC F x)) (some (.inl (eM (fP F x)))) (some (.inl (eM ((fP F x).map fun _ => fL F x)))) (some (.inl (eM ((fP F x).map fun _ => fC F x)))) h' hn hd2 (fun y hy => hr y (List.mem_cons_of_mem _ hy)) (p_ch_uo hd1 hc.2) (fun hne => by
      have : ∃ p, fP F x = some p := by
        rw [hc.1]
        cases r with
        | nil => exact absurd rfl hne
        | cons y r => exact ⟨y, rfl⟩
      obtain ⟨p, hp⟩ := this
      rw [hp]
      exact ⟨rfl, rfl⟩) (by omega)
    rw [← hc.1] at k1
    exact ⟨g', k1, k2, hB.tr k3⟩
theorem M_reroots (d : Nat) (h : rMa g b F) (hw : f_wf F) {t : Nat} (ht : t < fN F) : ∃ g', am_call (d + 5) 170 [.inr (.inr (29, 0)), .inl (nI t)] g = some (some (.inl (nI (p_cnt (fQ F) (f_a (fP F) t)))), g') ∧ rMa g' b (f_reroot F t) ∧ mB b g g' := by
  have hl := hw.al ht
  obtain ⟨g1, h1, h2, h3⟩ := M_touches d h hw ht
  rw [cM_reroots, eM_reroots_0, h1, bi_some]
  obtain ⟨g', h5, h6, h7⟩ := M_rev_loop (b := b) (d + 2) (nI t) (nI (p_cnt (fQ F) (f_a (fP F) t))) 99999 (f_a (fP F) t) (f_touch F t) g1 none 0 0 (-2) (-2) none none none h2 hw.1 (f_a_nd hw.2.1 ht) (fun x hx => f_a_lt hw.2.1 ht hx) (f_a_ch hw.2.1 hw.1 t ht) (fun _ => ⟨rfl, rfl⟩) (by omega)
  exact ⟨g', h5, h6, h3.tr h7⟩
end MM
