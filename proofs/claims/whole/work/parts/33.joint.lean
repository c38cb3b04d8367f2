/-! ===== Survey: findWidest, findJoint ===== -/
def f_wst (F : fF) (t x : Nat) : Nat × Nat × Nat → Nat → Nat × Nat × Nat := fun s y => if f_r (fP F) x = f_r (fP F) t ∧ f_r (fP F) y = f_r (fP F) t ∧ s.1 < f_D F x y then (f_D F x y, x, y) else s
def f_wi (F : fF) (t : Nat) : Nat × Nat × Nat := fo (fun s x => fo (f_wst F t x) s (x + 1) (fN F - (x + 1))) (0, t, t) 0 (fN F)
def rP (g : am_G) (s : Nat × Nat × Nat) : Prop := g 27 0 0 = nI s.1 ∧ g 27 0 1 = nI s.2.1 ∧ g 27 0 2 = nI s.2.2
def rB (F : fF) (g : am_G) (R : Nat) : Prop := ∀ a b, a < fN F → b < fN F → f_r (fP F) a = R → f_r (fP F) b = R → g 25 a b = nI (f_D F a b)
section JO
variable {i : Nat} {F : fF}
theorem rM.B (hw : f_wf F) {R : Nat} (hR : R < fN F) (hRn : fP F R = none) {g : am_G} (h : rM F g R) : rB F g R := fun a b ha hb ra rb => by
  obtain ⟨p, hp⟩ := List.mem_iff_getElem?.mp ((or_iff hw hR hRn a).mpr ⟨ha, ra⟩)
  obtain ⟨q, hq⟩ := List.mem_iff_getElem?.mp ((or_iff hw hR hRn b).mpr ⟨hb, rb⟩)
  exact h.2 p q a b (List.getElem?_eq_some_iff.mp hp).1 (List.getElem?_eq_some_iff.mp hq).1 hp hq
theorem rC.s27 {g g' : am_G} (h : rC g i F) (hf : m_fr s27 g g') : rC g' i F := h.fr hf (fun c hc => by have := hc.1; omega)
theorem rHm.fr {g g' : am_G} {S : Nat → Nat → Prop} (h : rHm F g) (hf : m_fr S g g') (hS : ¬ S 23 0) : rHm F g' := fun t ht => by rw [hf 23 0 hS]; exact h t ht
theorem rB.s27 {g g' : am_G} {R : Nat} (h : rB F g R) (hf : m_fr s27 g g') : rB F g' R := fun a b ha hb ra rb => by rw [hf 25 a (fun q => by have := q.1; omega)]; exact h a b ha hb ra rb
theorem rP.sp (g : am_G) (a b c : Nat) : rP (sp g (nI a) (nI b) (nI c)) (a, b, c) := ⟨sp_0 _ _ _ _, sp_1 _ _ _ _, sp_2 _ _ _ _⟩
theorem C_wid_in (d : Nat) (hw : f_wf F) {T x : Nat} (hT : T < fN F) (hx : x < fN F) (x2 : Int32) : ∀ (m y k : Nat) (g : am_G) (s : Nat × Nat × Nat), y + m = fN F → m < k → rC g i F → rHm F g → rB F g (f_r (fP F) T) → rP g s → s.1 ≤ 239976 →
    ∃ g', am_run (am_call (d + 1)) 60 k 26 [some (.inr (.inr (20, 0))), some (.inr (.inr (1, i))), some (.inl x2), some (.inl (nI (f_r (fP F) T))), some (.inl (nI x)), some (.inl (nI y))] [] g =
      am_run (am_call (d + 1)) 60 (k - m - 1) 18 [some (.inr (.inr (20, 0))), some (.inr (.inr (1, i))), some (.inl x2), some (.inl (nI (f_r (fP F) T))), some (.inl (nI (x + 1))), some (.inl (nI (fN F)))] [] g' ∧ rP g' (fo (f_wst F T x) s y m) ∧ (fo (f_wst F T x) s y m).1 ≤ 239976 ∧ m_fr s27 g g'
  | 0, y, k, g, s, hy, hk, hc, hH, hB, hP, hs => by
    obtain ⟨k, rfl⟩ : ∃ k', k = k' + 1 := ⟨k - 1, by omega⟩
    have hn := hw.1
    have e : y = fN F := by omega
    subst e
    rw [eV_findWidest_26, hc.1, if_pos (nI_le (Nat.le_refl _) (by omega)), nI_1]
    exact ⟨g, rfl, hP, hs, m_fr.rf⟩
  | m + 1, y, k, g, s, hy, hk, hc, hH, hB, hP, hs => by
    obtain ⟨k, rfl⟩ : ∃ k', k = k' + 1 := ⟨k - 1, by omega⟩
    have hn := hw.1
    have hyn : y < fN F := by omega
    have hrT := q24 hn (f_r_lt hw.2.1 hw.1 T hT).1
    have hrx := q24 hn (f_r_lt hw.2.1 hw.1 x hx).1
    have hry := q24 hn (f_r_lt hw.2.1 hw.1 y hyn).1
    have hD := f_D_le hw hx hyn
    rw [eV_findWidest_26, hc.1, if_neg (nI_ge hyn (by omega)), q_c24 hn hx, q_c24 hn hyn, nI_clamp (q24 hn hx), nI_clamp (q24 hn hyn), hH x hx, hH y hyn, show am_in (0 : Int32) 3 = true from rfl, z0, hP.1, Nat.zero_add, nI_1, fo]
    simp only [cond_true]
    have stay : ∀ (q : f_wst F T x s y = s), ∃ g', am_run (am_call (d + 1)) 60 k 26 [some (.inr (.inr (20, 0))), some (.inr (.inr (1, i))), some (.inl x2), some (.inl (nI (f_r (fP F) T))), some (.inl (nI x)), some (.inl (nI (y + 1)))] [] g =
      am_run (am_call (d + 1)) 60 (k + 1 - (m + 1) - 1) 18 [some (.inr (.inr (20, 0))), some (.inr (.inr (1, i))), some (.inl x2), some (.inl (nI (f_r (fP F) T))), some (.inl (nI (x + 1))), some (.inl (nI (fN F)))] [] g' ∧ rP g' (fo (f_wst F T x) (f_wst F T x s y) (y + 1) m) ∧ (fo (f_wst F T x) (f_wst F T x s y) (y + 1) m).1 ≤ 239976 ∧ m_fr s27 g g' := by
      intro q
      rw [q, show k + 1 - (m + 1) - 1 = k - m - 1 by omega]
      exact C_wid_in d hw hT hx x2 m (y + 1) k g s (by omega) (by omega) hc hH hB hP hs
    by_cases e1 : f_r (fP F) x = f_r (fP F) T
    · rw [if_pos (by rw [e1])]
      by_cases e2 : f_r (fP F) y = f_r (fP F) T
      · rw [if_pos (by rw [e2]), hB x y hx hyn e1 e2]
        by_cases e3 : s.1 < f_D F x y
        · rw [if_neg (nI_ge e3 (by omega)), C_setPair d, bv_some, show f_wst F T x s y = (f_D F x y, x, y) from if_pos ⟨e1, e2, e3⟩]
          have hf := sp_fr g (nI (f_D F x y)) (nI x) (nI y)
          obtain ⟨g', k1, k2, k3, k4⟩ := C_wid_in d hw hT hx x2 m (y + 1) k _ (f_D F x y, x, y) (by omega) (by omega) (hc.s27 hf) (hH.fr hf (fun q => by have := q.1; omega)) (hB.s27 hf) (rP.sp _ _ _ _) hD
          refine ⟨g', ?_, k2, k3, hf.tr k4⟩
          rw [k1, show k + 1 - (m + 1) - 1 = k - m - 1 by omega]
        · rw [if_pos (nI_le (by omega) (by omega))]
          exact stay (if_neg (fun q => e3 q.2.2))
      · rw [if_neg (by rw [nI_eq hry hrT]; exact e2)]
        exact stay (if_neg (fun q => e2 q.2.1))
    · rw [if_neg (by rw [nI_eq hrx hrT]; exact e1)]
      exact stay (if_neg (fun q => e1 q.1))
theorem C_wid_out (d : Nat) (hw : f_wf F) {T : Nat} (hT : T < fN F) (x2 : Int32) : ∀ (m x k : Nat) (g : am_G) (s : Nat × Nat × Nat) (o5 : Option am_V), x + m = fN F → 26 * m < k → rC g i F → rHm F g → rB F g (f_r (fP F) T) → rP g s → s.1 ≤ 239976 →
    ∃ g', am_run (am_call (d + 1)) 60 k 18 [some (.inr (.inr (20, 0))), some (.inr (.inr (1, i))), some (.inl x2), some (.inl (nI (f_r (fP F) T))), some (.inl (nI x)), o5] [] g = some (none, g') ∧ rP g' (fo (fun s x => fo (f_wst F T x) s (x + 1) (fN F - (x + 1))) s x m) ∧ m_fr s27 g g'
  | 0, x, k, g, s, o5, hx, hk, hc, hH, hB, hP, hs => by
    obtain ⟨k, rfl⟩ : ∃ k', k = k' + 1 := ⟨k - 1, by omega⟩
    have hn := hw.1
    have e : x = fN F := by omega
    subst e
    rw [eV_findWidest_18, hc.1, if_pos (nI_le (Nat.le_refl _) (by omega))]
    exact ⟨g, rfl, hP, m_fr.rf⟩
  | m + 1, x, k, g, s, o5, hx, hk, hc, hH, hB, hP, hs => by
    obtain ⟨k, rfl⟩ : ∃ k', k = k' + 1 := ⟨k - 1, by omega⟩
    have hn := hw.1
    have hxn : x < fN F := by omega
    rw [eV_findWidest_18, hc.1, if_neg (nI_ge hxn (by omega)), nI_1, fo]
    obtain ⟨g1, k1, k2, k3, k4⟩ := C_wid_in d hw hT hxn x2 (fN F - (x + 1)) (x + 1) k g s (by omega) (by omega) hc hH hB hP hs
    rw [k1]
    obtain ⟨g2, l1, l2, l3⟩ := C_wid_out d hw hT x2 m (x + 1) (k - (fN F - (x + 1)) - 1) g1 _ (some (.inl (nI (fN F)))) (by omega) (by omega) (hc.s27 k4) (hH.fr k4 (fun q => by have := q.1; omega)) (hB.s27 k4) k2 k3
    exact ⟨g2, l1, l2, k4.tr l3⟩
def sSu : Nat → Nat → Prop := fun c _ => (21 ≤ c ∧ c ≤ 27) ∨ c = 121
theorem C_findWidest {g : am_G} (d : Nat) (hc : rC g i F) (hw : f_wf F) {t : Nat} (ht : t < fN F) :
    ∃ g', am_call (d + 4) 60 [.inr (.inr (20, 0)), .inr (.inr (1, i)), .inl (nI t)] g = some (none, g') ∧ rP g' (f_wi F t) ∧ m_fr sSu g g' := by
  obtain ⟨hr1, hr2, -⟩ := f_r_lt hw.2.1 hw.1 t ht
  have hn := hw.1
  obtain ⟨g1, h1, h2, h3⟩ := C_findHomes (d + 1) hc hw
  have hc1 : rC g1 i F := hc.fr h3 (fun c hc => by have := hc.1; omega)
  obtain ⟨g2, h4, h5, -, -, h6⟩ := C_measure d hc1 hw hr1 hr2
  have hf := sp_fr g2 (nI 0) (nI t) (nI t)
  have hc2 := hc1.sSv h6
  have hH2 := h2.fr h6 (by show ¬ (23 = 21 ∨ 23 = 22 ∨ 23 = 25 ∨ 23 = 26 ∨ 23 = 121); omega)
  obtain ⟨g3, l1, l2, l3⟩ := C_wid_out (i := i) (d + 2) hw ht (nI t) (fN F) 0 99999 (sp g2 (nI 0) (nI t) (nI t)) (0, t, t) none (by omega) (by omega) (hc2.s27 hf) (hH2.fr hf (fun q => by have := q.1; omega)) ((h5.B hw hr1 hr2).s27 hf) (rP.sp _ _ _ _) (Nat.zero_le _)
  rw [cV_findWidest, eV_findWidest_0, C_rootOf (d + 2) hc hw ht, bi_some, h1, bv_some, h4, bv_some, C_setPair (d + 2), bv_some]
  refine ⟨g3, l1, l2, ?_⟩
  exact (((h3.mono fun c j q => Or.inl (by omega)).tr (h6.mono fun c j q => by
    have : c = 21 ∨ c = 22 ∨ c = 25 ∨ c = 26 ∨ c = 121 := q
    show (21 ≤ c ∧ c ≤ 27) ∨ c = 121
    omega)).tr (hf.mono fun c j q => Or.inl (by have := q.1; omega))).tr (l3.mono fun c j q => Or.inl (by have := q.1; omega))
/-- the joint: how far, the two towns -/
def f_jw (F : fF) (a b x y : Nat) : Nat := max (max (f_wd F a) (f_wd F b)) (f_fa F x + 1 + f_fa F y)
def f_jst (F : fF) (a b x : Nat) : Option (Nat × Nat × Nat) → Nat → Option (Nat × Nat × Nat) := fun s y => if f_r (fP F) x = f_r (fP F) a ∧ f_r (fP F) y = f_r (fP F) b ∧ (∀ p, s = some p → f_jw F a b x y < p.1) then some (f_jw F a b x y, x, y) else s
def f_jo (F : fF) (a b : Nat) : Option (Nat × Nat × Nat) := fo (fun s x => fo (f_jst F a b x) s 0 (fN F)) none 0 (fN F)
def rJ (g : am_G) (s : Option (Nat × Nat × Nat)) : Prop := match s with
  | none => g 27 0 0 = -1 ∧ g 27 0 1 = -1 ∧ g 27 0 2 = -1
  | some p => rP g p ∧ p.1 ≤ 999999
def rE (F : fF) (g : am_G) (a b : Nat) : Prop := ∀ x, x < fN F → f_r (fP F) x = f_r (fP F) a ∨ f_r (fP F) x = f_r (fP F) b → g 26 0 x = nI (f_fa F x)
theorem f_wd_root (hw : f_wf F) {a : Nat} (ha : a < fN F) : f_wd F (f_r (fP F) a) = f_wd F a := by
  unfold f_wd
  rw [f_r_up hw.2.1 hw.1 a ha _ (f_r_lt hw.2.1 hw.1 a ha).2.2]
theorem rE.s27 {g g' : am_G} {a b : Nat} (h : rE F g a b) (hf : m_fr s27 g g') : rE F g' a b := fun x hx hr => by rw [hf 26 0 (fun q => by have := q.1; omega)]; exact h x hx hr
theorem q_max {a b : Nat} (ha : a < 2 ^ 31) (hb : b < 2 ^ 31) : (if nI a < nI b then nI b else nI a) = nI (max a b) := by
  by_cases e : a < b
  · rw [if_pos (nI_lt e hb), Nat.max_eq_right (by omega)]
  · rw [if_neg (nI_nlt (by omega) ha), Nat.max_eq_left (by omega)]
theorem C_jo_in (d : Nat) (hw : f_wf F) {a b x : Nat} (ha : a < fN F) (hb : b < fN F) (hx : x < fN F) (x2 x3 : Int32) : ∀ (m y k : Nat) (g : am_G) (s : Option (Nat × Nat × Nat)) (o9 : Option am_V), y + m = fN F → m < k → rC g i F → rHm F g → rE F g a b → rJ g s →
    ∃ g' o9', am_run (am_call (d + 1)) 61 k 40 [some (.inr (.inr (20, 0))), some (.inr (.inr (1, i))), some (.inl x2), some (.inl x3), some (.inl (nI (f_r (fP F) a))), some (.inl (nI (f_r (fP F) b))), some (.inl (nI (max (f_wd F a) (f_wd F b)))), some (.inl (nI x)), some (.inl (nI y)), o9] [] g =
      am_run (am_call (d + 1)) 61 (k - m - 1) 34 [some (.inr (.inr (20, 0))), some (.inr (.inr (1, i))), some (.inl x2), some (.inl x3), some (.inl (nI (f_r (fP F) a))), some (.inl (nI (f_r (fP F) b))), some (.inl (nI (max (f_wd F a) (f_wd F b)))), some (.inl (nI (x + 1))), some (.inl (nI (fN F))), o9'] [] g' ∧ rJ g' (fo (f_jst F a b x) s y m) ∧ m_fr s27 g g'
  | 0, y, k, g, s, o9, hy, hk, hc, hH, hE, hP => by
    obtain ⟨k, rfl⟩ : ∃ k', k = k' + 1 := ⟨k - 1, by omega⟩
    have hn := hw.1
    have e : y = fN F := by omega
    subst e
    rw [eV_findJoint_40, hc.1, if_pos (nI_le (Nat.le_refl _) (by omega)), nI_1]
    exact ⟨g, o9, rfl, hP, m_fr.rf⟩
  | m + 1, y, k, g, s, o9, hy, hk, hc, hH, hE, hP => by
    obtain ⟨k, rfl⟩ : ∃ k', k = k' + 1 := ⟨k - 1, by omega⟩
    have hn := hw.1
    have hyn : y < fN F := by omega
    have hra := q24 hn (f_r_lt hw.2.1 hw.1 a ha).1
    have hrb := q24 hn (f_r_lt hw.2.1 hw.1 b hb).1
    have hrx := q24 hn (f_r_lt hw.2.1 hw.1 x hx).1
    have hry := q24 hn (f_r_lt hw.2.1 hw.1 y hyn).1
    have b1 := f_fa_le hw hx
    have b2 := f_fa_le hw hyn
    have b3 := f_wd_le hw (t := a)
    have b4 := f_wd_le hw (t := b)
    have b5 : f_jw F a b x y ≤ 999999 := by unfold f_jw; omega
    have hgo : ∀ (g1 : am_G) (s1 : Option (Nat × Nat × Nat)) (o : Option am_V), m_fr s27 g g1 → rJ g1 s1 → f_jst F a b x s y = s1 → ∃ g' o9', am_run (am_call (d + 1)) 61 k 40 [some (.inr (.inr (20, 0))), some (.inr (.inr (1, i))), some (.inl x2), some (.inl x3), some (.inl (nI (f_r (fP F) a))), some (.inl (nI (f_r (fP F) b))), some (.inl (nI (max (f_wd F a) (f_wd F b)))), some (.inl (nI x)), some (.inl (nI (y + 1))), o] [] g1 =
      am_run (am_call (d + 1)) 61 (k + 1 - (m + 1) - 1) 34 [some (.inr (.inr (20, 0))), some (.inr (.inr (1, i))), some (.inl x2), some (.inl x3), some (.inl (nI (f_r (fP F) a))), some (.inl (nI (f_r (fP F) b))), some (.inl (nI (max (f_wd F a) (f_wd F b)))), some (.inl (nI (x + 1))), some (.inl (nI (fN F))), o9'] [] g' ∧ rJ g' (fo (f_jst F a b x) (f_jst F a b x s y) (y + 1) m) ∧ m_fr s27 g g' := by
      intro g1 s1 o hf hJ q
      rw [q, show k + 1 - (m + 1) - 1 = k - m - 1 by omega]
      obtain ⟨g', o9', k1, k2, k3⟩ := C_jo_in d hw ha hb hx x2 x3 m (y + 1) k g1 s1 o (by omega) (by omega) (hc.s27 hf) (hH.fr hf (fun q => by have := q.1; omega)) (hE.s27 hf) hJ
      exact ⟨g', o9', k1, k2, hf.tr k3⟩
    rw [eV_findJoint_40, hc.1, if_neg (nI_ge hyn (by omega)), q_c24 hn hx, q_c24 hn hyn, nI_clamp (q24 hn hx), nI_clamp (q24 hn hyn), hH x hx, hH y hyn, show am_in (0 : Int32) 3 = true from rfl, z0, nI_1 (a := y), fo]
    simp only [cond_true]
    by_cases e1 : f_r (fP F) x = f_r (fP F) a
    · rw [if_pos (by rw [e1])]
      by_cases e2 : f_r (fP F) y = f_r (fP F) b
      · have em : (if nI (max (f_wd F a) (f_wd F b)) < nI (f_fa F x) + 1 + nI (f_fa F y) then nI (f_fa F x) + 1 + nI (f_fa F y) else nI (max (f_wd F a) (f_wd F b))) = nI (f_jw F a b x y) := by
          rw [nI_1, nI_add, q_max (by omega) (by omega)]
          rfl
        rw [if_pos (by rw [e2]), hE x hx (Or.inl e1), hE y hyn (Or.inr e2), em]
        cases s with
        | none =>
          rw [if_pos hP.1, C_setPair d, bv_some]
          exact hgo _ (some (f_jw F a b x y, x, y)) _ (sp_fr _ _ _ _) ⟨rP.sp _ _ _ _, b5⟩ (if_pos ⟨e1, e2, fun p hp => by cases hp⟩)
        | some p =>
          have hp1 : p.1 < 2 ^ 31 := Nat.lt_of_le_of_lt hP.2 (by omega)
          rw [hP.1.1, if_neg (q_ne1 hp1)]
          by_cases e3 : f_jw F a b x y < p.1
          · rw [if_neg (nI_ge e3 hp1), C_setPair d, bv_some]
            exact hgo _ (some (f_jw F a b x y, x, y)) _ (sp_fr _ _ _ _) ⟨rP.sp _ _ _ _, b5⟩ (if_pos ⟨e1, e2, fun p' hp' => by cases hp'; exact e3⟩)
          · rw [if_pos (nI_le (by omega) (by omega))]
            exact hgo _ _ _ m_fr.rf hP (if_neg (fun q => e3 (q.2.2 p rfl)))
      · rw [if_neg (by rw [nI_eq hry hrb]; exact e2)]
        exact hgo _ _ _ m_fr.rf hP (if_neg (fun q => e2 q.2.1))
    · rw [if_neg (by rw [nI_eq hrx hra]; exact e1)]
      exact hgo _ _ _ m_fr.rf hP (if_neg (fun q => e1 q.1))
theorem C_jo_out (d : Nat) (hw : f_wf F) {a b : Nat} (ha : a < fN F) (hb : b < fN F) (x2 x3 : Int32) : ∀ (m x k : Nat) (g : am_G) (s : Option (Nat × Nat × Nat)) (o8 o9 : Option am_V), x + m = fN F → 26 * m < k → rC g i F → rHm F g → rE F g a b → rJ g s →
    ∃ g', am_run (am_call (d + 1)) 61 k 34 [some (.inr (.inr (20, 0))), some (.inr (.inr (1, i))), some (.inl x2), some (.inl x3), some (.inl (nI (f_r (fP F) a))), some (.inl (nI (f_r (fP F) b))), some (.inl (nI (max (f_wd F a) (f_wd F b)))), some (.inl (nI x)), o8, o9] [] g = some (none, g') ∧ rJ g' (fo (fun s x => fo (f_jst F a b x) s 0 (fN F)) s x m) ∧ m_fr s27 g g'
  | 0, x, k, g, s, o8, o9, hx, hk, hc, hH, hE, hP => by
    obtain ⟨k, rfl⟩ : ∃ k', k = k' + 1 := ⟨k - 1, by omega⟩
    have hn := hw.1
    have e : x = fN F := by omega
    subst e
    rw [eV_findJoint_34, hc.1, if_pos (nI_le (Nat.le_refl _) (by omega))]
    exact ⟨g, rfl, hP, m_fr.rf⟩
  | m + 1, x, k, g, s, o8, o9, hx, hk, hc, hH, hE, hP => by
    obtain ⟨k, rfl⟩ : ∃ k', k = k' + 1 := ⟨k - 1, by omega⟩
    have hn := hw.1
    have hxn : x < fN F := by omega
    rw [eV_findJoint_34, hc.1, if_neg (nI_ge hxn (by omega)), fo]
    obtain ⟨g1, p9, k1, k2, k4⟩ := C_jo_in d hw ha hb hxn x2 x3 (fN F) 0 k g s o9 (by omega) (by omega) hc hH hE hP
    obtain ⟨g2, l1, l2, l3⟩ := C_jo_out d hw ha hb x2 x3 m (x + 1) (k - fN F - 1) g1 _ (some (.inl (nI (fN F)))) p9 (by omega) (by omega) (hc.s27 k4) (hH.fr k4 (fun q => by have := q.1; omega)) (hE.s27 k4) k2
    exact ⟨g2, Eq.trans k1 l1, l2, k4.tr l3⟩
theorem C_findJoint {g : am_G} (d : Nat) (hc : rC g i F) (hw : f_wf F) {a b : Nat} (ha : a < fN F) (hb : b < fN F) (hab : f_r (fP F) a ≠ f_r (fP F) b) :
    ∃ g', am_call (d + 4) 61 [.inr (.inr (20, 0)), .inr (.inr (1, i)), .inl (nI a), .inl (nI b)] g = some (none, g') ∧ rJ g' (f_jo F a b) ∧ m_fr sSu g g' := by
  obtain ⟨ha1, ha2, -⟩ := f_r_lt hw.2.1 hw.1 a ha
  obtain ⟨hb1, hb2, -⟩ := f_r_lt hw.2.1 hw.1 b hb
  have hn := hw.1
  have w1 := f_wd_le hw (t := a)
  have w2 := f_wd_le hw (t := b)
  obtain ⟨g1, h1, h2, h3⟩ := C_findHomes (d + 1) hc hw
  have hc1 : rC g1 i F := hc.fr h3 (fun c hc => by have := hc.1; omega)
  obtain ⟨g2, h4, h5, h6, -, h8⟩ := C_measure d hc1 hw ha1 ha2
  have hc2 := hc1.sSv h8
  have n23 : ¬ sSv 23 0 := by show ¬ (23 = 21 ∨ 23 = 22 ∨ 23 = 25 ∨ 23 = 26 ∨ 23 = 121); omega
  have hH2 := h2.fr h8 n23
  obtain ⟨g3, k4, k5, k6, k7, k8⟩ := C_measure d hc2 hw hb1 hb2
  have hc3 := hc2.sSv k8
  have hH3 := hH2.fr k8 n23
  have hE3 : rE F g3 a b := fun x hx hr => by
    rcases hr with hr | hr
    · rw [k7 x (fun q => hab (by rw [← hr, ((or_iff hw hb1 hb2 x).mp q).2]))]
      exact h6 x ((or_iff hw ha1 ha2 x).mpr ⟨hx, hr⟩)
    · exact k6 x ((or_iff hw hb1 hb2 x).mpr ⟨hx, hr⟩)
  have hf := sp_fr g3 (-1) (-1) (-1)
  have e1 := C_widestReach (d + 2) hw ha1 ha2 h5.1 h6
  have e2 := C_widestReach (d + 2) hw hb1 hb2 k5.1 k6
  rw [f_wd_root hw ha] at e1
  rw [f_wd_root hw hb] at e2
  obtain ⟨g4, l1, l2, l3⟩ := C_jo_out (i := i) (d + 2) hw ha hb (nI a) (nI b) (fN F) 0 99999 (sp g3 (-1) (-1) (-1)) none none none (by omega) (by omega) (hc3.s27 hf) (hH3.fr hf (fun q => by have := q.1; omega)) (hE3.s27 hf) ⟨sp_0 _ _ _ _, sp_1 _ _ _ _, sp_2 _ _ _ _⟩
  rw [cV_findJoint, eV_findJoint_0, C_rootOf (d + 2) hc hw ha, bi_some, C_rootOf (d + 2) hc hw hb, bi_some, h1, bv_some, h4, bv_some, e1, bi_some, k4, bv_some, e2, bi_some, C_setPair (d + 2), bv_some, q_max (by omega) (by omega)]
  refine ⟨g4, l1, l2, ?_⟩
  have hmono : ∀ c j : Nat, sSv c j → sSu c j := fun c j q => by
    have : c = 21 ∨ c = 22 ∨ c = 25 ∨ c = 26 ∨ c = 121 := q
    show (21 ≤ c ∧ c ≤ 27) ∨ c = 121
    omega
  exact ((((h3.mono fun c j q => Or.inl (by omega)).tr (h8.mono hmono)).tr (k8.mono hmono)).tr (hf.mono fun c j q => Or.inl (by have := q.1; omega))).tr (l3.mono fun c j q => Or.inl (by have := q.1; omega))
end JO
