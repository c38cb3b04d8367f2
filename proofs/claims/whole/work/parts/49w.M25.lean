/-! ===== the model: the text ===== -/
def mT (g g' : am_G) : Prop := (∀ c j, ¬ sLc c j → ¬ (c = 142 ∧ j = 0) → g' c j = g c j) ∧ ∀ k, ¬ (363 ≤ k ∧ k < 484) → g' 32 0 k = g 32 0 k
section MM
variable {g : am_G} {T : Nat → Int32} {n p : Nat} {s : tS} {t u : tk} {σ : aS}
theorem mT.rf : mT g g := ⟨fun _ _ _ _ => rfl, fun _ _ => rfl⟩
theorem mT.tr {g1 g2 : am_G} (h1 : mT g g1) (h2 : mT g1 g2) : mT g g2 := ⟨fun c j h h' => (h2.1 c j h h').trans (h1.1 c j h h'), fun k h => (h2.2 k h).trans (h1.2 k h)⟩
theorem mL.toT {g' : am_G} (h : mL g g') : mT g g' := ⟨fun c j q _ => h.1 c j q, h.2⟩
theorem mT.put (x : Int32) : mT g (am_put g 142 0 x) := ⟨fun c j _ q => m_put_ne q, fun k _ => by rw [m_put_ne (by simp)]⟩
theorem mT.M {g' : am_G} (h : mT g g') : m_fr sMd g g' := fun c j hn => h.1 c j (fun q => hn (by have := q.2; unfold sMd; omega)) (fun q => hn (by have := q.1; unfold sMd; omega))
theorem kt_loop (ct : am_T) : ∀ (m k fuel : Nat) (g : am_G), k + m = 24 → m < fuel → ∃ g1, am_run ct 154 fuel 6 [some (.inr (.inr (29, 0))), some (.inl (nI k))] [] g = (am_bv (ct 142 [.inr (.inr (29, 0)), .inl (120 : Int32), .inl (0 : Int32)] (am_put (am_put (am_put (am_put (am_put g1 142 0 (g1 144 0 0)) 143 0 ((am_put g1 142 0 (g1 144 0 0)) 145 0 0)) 140 0 (0 : Int32)) 141 0 (0 : Int32)) 148 0 (0 : Int32))) (fun g1 => some (none, g1))) ∧ (∀ j, k ≤ j → j < 24 → g1 33 0 j = g 34 0 j) ∧ (∀ j, j < k → g1 33 0 j = g 33 0 j) ∧ ∀ c j, ¬ (c = 33 ∧ j = 0) → g1 c j = g c j
  | 0, k, fuel, g, hk, hf => by
    obtain ⟨fuel, rfl⟩ : ∃ k', fuel = k' + 1 := ⟨fuel - 1, by omega⟩
    rw [eM_keepText_6, show (24 : Int32) = nI 24 from rfl, if_pos (nI_le (by omega) (by omega))]
    exact ⟨g, rfl, fun j h1 h2 => by omega, fun _ _ => rfl, fun _ _ _ => rfl⟩
  | m + 1, k, fuel, g, hk, hf => by
    obtain ⟨fuel, rfl⟩ : ∃ k', fuel = k' + 1 := ⟨fuel - 1, by omega⟩
    rw [eM_keepText_6, show (24 : Int32) = nI 24 from rfl, if_neg (nI_ge (show k < 24 by omega) (by omega)), q_in (by omega) (by omega), cond_true, cond_true, nI_clamp (by omega), nI_1]
    obtain ⟨g1, k1, k2, k3, k4⟩ := kt_loop ct m (k + 1) fuel (am_sto g 33 0 k (g 34 0 k)) (by omega) (by omega)
    refine ⟨g1, k1, fun j h1 h2 => ?_, fun j hj => ?_, fun c j q => ?_⟩
    · by_cases e : j = k
      · subst e
        rw [k3 j (by omega), m_sto, if_pos rfl]
      · rw [k2 j (by omega) h2, m_sto_ne (by simp)]
    · rw [k3 j (by omega), m_sto, if_neg (by omega)]
    · rw [k4 c j q, m_sto_ne q]
theorem M_keepText (d : Nat) {S : Int32} (hs : tS_ok s) (hk : rMk g 3 (f_sh s.1 S)) (h139 : g 139 0 0 = nI 0) (h144 : g 144 0 0 = nI s.2.1.length) (h34 : ∀ (k : Nat) (x : Int32), s.2.1[k]? = some x → g 34 0 k = x) (h145 : g 145 0 0 = s.2.2.1) (h130 : g 130 0 0 = 0) (h132 : g 132 0 0 = 0) (h133 : g 133 0 0 = -1) (h31 : ∀ (k : Nat) (x : Int32), kwl[k]? = some x → g 31 0 k = x) :
    ∃ g', am_call (d + 8) 154 [.inr (.inr (29, 0))] g = some (none, g') ∧ rMo g' ([], f_sS s.1 0, (s.2.1, s.2.2.1), [], none, none, (0, -1)) ∧ m_fr sMd g g' := by
  have hN := hs.2
  have hn := hs.1.1
  obtain ⟨g1, a1, a2, a3⟩ := M_copyBank (d + 6) (f := 3) (t := 0) (by omega) (by omega) (by omega) g
  have a1' : am_call (d + 7) 143 [.inr (.inr (29, 0)), .inl (3 : Int32), .inl (0 : Int32)] g = some (none, g1) := a1
  have hk1 : rMk g1 0 (f_sh s.1 S) := hk.copy hn a2
  obtain ⟨g2, b1, b2, b3, b4⟩ := kt_loop (am_call (d + 7)) 24 0 99999 g1 (by omega) (by omega)
  have b1' : am_run (am_call (d + 7)) 154 99999 6 [some (.inr (.inr (29, 0))), some (.inl (0 : Int32))] [] g1 = _ := b1
  have z2 : ∀ c, c ≠ 32 → c ≠ 33 → g2 c 0 = g c 0 := fun c h1 h2 => by rw [b4 c 0 (fun q => h2 q.1), a3.1 c 0 (fun q => h1 q.1)]
  have e144 : g2 144 0 0 = nI s.2.1.length := by rw [z2 _ (by omega) (by omega)]; exact h144
  have e145 : g2 145 0 0 = s.2.2.1 := by rw [z2 _ (by omega) (by omega)]; exact h145
  rw [cM_keepText, eM_keepText_0, a1', bv_some, b1', e144, m_put_ne (g := g2) (show ¬ (145 = 142 ∧ 0 = 0) by simp), e145]
  generalize hG : am_put (am_put (am_put (am_put (am_put g2 142 0 (nI s.2.1.length)) 143 0 s.2.2.1) 140 0 (0 : Int32)) 141 0 (0 : Int32)) 148 0 (0 : Int32) = G
  have zG : ∀ c, c ≠ 140 → c ≠ 141 → c ≠ 142 → c ≠ 143 → c ≠ 148 → G c 0 = g2 c 0 := fun c h1 h2 h3 h4 h5 => by rw [← hG, m_put_ne (by omega), m_put_ne (by omega), m_put_ne (by omega), m_put_ne (by omega), m_put_ne (by omega)]
  have L := M_lay (g := G) (d + 6) (b := 0) (by rw [zG _ (by omega) (by omega) (by omega) (by omega) (by omega), z2 _ (by omega) (by omega)]; exact h139) (by omega) (k := 120) (by omega) (0 : Int32)
  have L' : am_call (d + 7) 142 [.inr (.inr (29, 0)), .inl (120 : Int32), .inl (0 : Int32)] G = some (none, mst G 0 120 0) := L
  rw [L', bv_some]
  have zz : ∀ c, c ≠ 32 → mst G 0 120 0 c 0 = G c 0 := fun c hc => mst_o _ _ _ _ (fun q => hc q.1)
  have z : ∀ c, c ≠ 32 → c ≠ 33 → c ≠ 140 → c ≠ 141 → c ≠ 142 → c ≠ 143 → c ≠ 148 → mst G 0 120 0 c 0 = g c 0 := fun c h0 h6 h1 h2 h3 h4 h5 => by rw [zz c h0, zG c h1 h2 h3 h4 h5, z2 c h0 h6]
  have kG : ∀ k, G 32 0 k = g1 32 0 k := fun k => by rw [zG _ (by omega) (by omega) (by omega) (by omega) (by omega), b4 32 0 (by simp)]
  have p142 : G 142 0 0 = nI s.2.1.length := by rw [← hG, m_put_ne (by simp), m_put_ne (by simp), m_put_ne (by simp), m_put_ne (by simp), m_put]
  have p143 : G 143 0 0 = s.2.2.1 := by rw [← hG, m_put_ne (by simp), m_put_ne (by simp), m_put_ne (by simp), m_put]
  have p140 : G 140 0 0 = 0 := by rw [← hG, m_put_ne (by simp), m_put_ne (by simp), m_put]
  have p141 : G 141 0 0 = 0 := by rw [← hG, m_put_ne (by simp), m_put]
  have p148 : G 148 0 0 = 0 := by rw [← hG, m_put]
  refine ⟨_, rfl, ⟨⟨?_, fun k x hk => ?_⟩, ⟨⟨?_, fun t ht => ?_⟩, ?_, by omega, ?_⟩, ⟨fun k x hx => ?_, ?_⟩, ⟨?_, fun j G hj => ?_⟩, ⟨?_, fun G hG => ?_⟩, ⟨?_, fun l hl => ?_⟩, ⟨?_, ?_⟩, fun k x hx => ?_⟩, ?_⟩
  · rw [z _ (by omega) (by omega) (by omega) (by omega) (by omega) (by omega) (by omega)]; exact h130
  · have hk : ([] : List Int32)[k]? = some x := hk
    simp at hk
  · rw [mst_at, if_pos rfl]; rfl
  · have ht : t < fN s.1 := ht
    obtain ⟨r1, r2, r3, r4, r5⟩ := hk1.2 t ht
    refine ⟨?_, ?_, ?_, ?_, ?_⟩
    · rw [mst_at, if_neg (by omega), kG]; exact r1
    · rw [mst_at, if_neg (by omega), kG]; exact r2
    · rw [mst_at, if_neg (by omega), kG]; exact r3
    · rw [mst_at, if_neg (by omega), kG]; exact r4
    · rw [mst_at, if_neg (by omega), kG]; exact r5
  · rw [z _ (by omega) (by omega) (by omega) (by omega) (by omega) (by omega) (by omega)]; exact h139
  · rw [zz _ (by omega), p142, ← hN]; rfl
  · have hx : s.2.1[k]? = some x := hx
    have := (List.getElem?_eq_some_iff.mp hx).1
    rw [zz _ (by omega), zG _ (by omega) (by omega) (by omega) (by omega) (by omega), b2 k (by omega) (by omega), a3.1 34 0 (by simp)]
    exact h34 k x hx
  · rw [zz _ (by omega), p143]
  · rw [zz _ (by omega), p140]; rfl
  · have hj : ([] : List fF)[j]? = some G := hj
    simp at hj
  · rw [zz _ (by omega), p141]; rfl
  · cases hG
  · rw [zz _ (by omega), p148]; rfl
  · cases hl
  · rw [z _ (by omega) (by omega) (by omega) (by omega) (by omega) (by omega) (by omega)]; exact h132
  · rw [z _ (by omega) (by omega) (by omega) (by omega) (by omega) (by omega) (by omega)]; exact h133
  · rw [z _ (by omega) (by omega) (by omega) (by omega) (by omega) (by omega) (by omega)]; exact h31 k x hx
  · intro c j hn
    have hn' : ¬ ((29 ≤ c ∧ c ≤ 35) ∨ (130 ≤ c ∧ c ≤ 149)) := hn
    rw [mst_o _ _ _ _ (by omega), ← hG, m_put_ne (by omega), m_put_ne (by omega), m_put_ne (by omega), m_put_ne (by omega), m_put_ne (by omega), b4 c j (by omega), a3.1 c j (by omega)]
theorem tx_loop (d : Nat) (x1 x2 : Int32) : ∀ (m c k : Nat) (g : am_G) (s : tS) (t : tk), rMb g s → rKt g T n t → tS_ok s → g 142 0 0 = nI (fN s.1) → (t.1 = 0 ↔ t.2.1 = n) → t.2.1 ≤ t.2.2.1 → t.2.2.1 ≤ n → n < t.2.1 + m → n - t.2.1 + 1 < k →
    ∃ g', mT g g' ∧ (match t_all T n m s t c with
      | .inl e => am_run (am_call (d + 8)) 163 k 43 [some (.inr (.inr (29, 0))), some (.inl x1), some (.inl x2), some (.inl (nI c)), some (.inl (1 : Int32))] [] g = some (some (.inl (-1 : Int32)), am_put (am_put g' 142 0 x2) 139 0 (0 : Int32)) ∧ g' 132 0 0 = nI e.1 ∧ g' 133 0 0 = nI e.2
      | .inr q => tS_ok q.1 ∧ rMb g' q.1 ∧ am_run (am_call (d + 8)) 163 k 43 [some (.inr (.inr (29, 0))), some (.inl x1), some (.inl x2), some (.inl (nI c)), some (.inl (1 : Int32))] [] g = am_bv (am_call (d + 8) 154 [.inr (.inr (29, 0))] (am_put (am_put g' 142 0 x2) 139 0 (0 : Int32))) (fun g1 => some (some (.inl (nI q.2)), g1)))
  | 0, c, k, g, s, t, hb, h, hs, h142, h0, h1, h2, hm, hk => by omega
  | m + 1, c, k, g, s, t, hb, h, hs, h142, h0, h1, h2, hm, hk => by
    obtain ⟨k, rfl⟩ : ∃ k', k = k' + 1 := ⟨k - 1, by omega⟩
    rw [eM_text_43, if_neg q_110, if_neg q_110, h.2.1, t_all]
    by_cases e : t.1 = 0
    · rw [if_pos ((kM_n t).2.2.2.1.mpr e), if_pos e]
      exact ⟨g, mT.rf, hs, hb, rfl⟩
    · rw [if_neg (fun q => e ((kM_n t).2.2.2.1.mp q)), if_neg e]
      obtain ⟨x, g1, k1, k2, k3⟩ := M_lineRead d h hb hs h142
      rw [k1, bi_some, nI_1]
      cases hr : t_line T n s t with
      | inl er =>
        rw [hr] at k3
        obtain ⟨rfl, e8, e9⟩ := k3
        obtain ⟨k, rfl⟩ : ∃ k', k = k' + 1 := ⟨k - 1, by omega⟩
        refine ⟨am_put g1 142 0 (g1 144 0 0), (mL.toT k2).tr (mT.put _), ?_, ?_, ?_⟩
        · rw [eM_text_43, if_pos rfl, if_pos rfl]
        · rw [m_put_ne (by simp)]; exact e8
        · rw [m_put_ne (by simp)]; exact e9
      | inr q =>
        obtain ⟨s', t'⟩ := q
        rw [hr] at k3
        obtain ⟨rfl, hb', h'⟩ := k3
        obtain ⟨a1, a2, a3, a4, a5⟩ := t_line_ok hs h2 h1 hr
        have hb'' : rMb (am_put g1 142 0 (g1 144 0 0)) s' := hb'.cg fun c hc => m_put_ne (fun q => by have := q.1; omega)
        have h'' : rKt (am_put g1 142 0 (g1 144 0 0)) T n t' := h'.cg fun c hc => m_put_ne (fun q => by have := q.1; omega)
        have h3 : am_put g1 142 0 (g1 144 0 0) 142 0 0 = nI (fN s'.1) := by rw [m_put, hb'.2.2.1, a1.2]
        obtain ⟨g2, l1, l2⟩ := tx_loop d x1 x2 m (c + 1) k (am_put g1 142 0 (g1 144 0 0)) s' t' hb'' h'' a1 h3 a4 a5 a3 (by omega) (by omega)
        exact ⟨g2, ((mL.toT k2).tr (mT.put _)).tr l1, l2⟩
end MM
