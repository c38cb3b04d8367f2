/-! ===== Survey: farthest, widest, joint ===== -/
theorem fo_mx (p : Nat → Prop) [DecidablePred p] (f : Nat → Nat) : ∀ (m b t : Nat), b ≤ fo (fun b x => if p x then max b (f x) else b) b t m ∧ (∀ x, t ≤ x → x < t + m → p x → f x ≤ fo (fun b x => if p x then max b (f x) else b) b t m) ∧ (fo (fun b x => if p x then max b (f x) else b) b t m = b ∨ ∃ x, t ≤ x ∧ x < t + m ∧ p x ∧ f x = fo (fun b x => if p x then max b (f x) else b) b t m)
  | 0, b, t => ⟨Nat.le_refl _, fun x h1 h2 _ => by omega, Or.inl rfl⟩
  | m + 1, b, t => by
    obtain ⟨h1, h2, h3⟩ := fo_mx p f m (if p t then max b (f t) else b) (t + 1)
    rw [fo]
    refine ⟨?_, fun x hx1 hx2 hp => ?_, ?_⟩
    · refine Nat.le_trans ?_ h1
      split <;> omega
    · by_cases e : x = t
      · subst e
        refine Nat.le_trans ?_ h1
        rw [if_pos hp]
        omega
      · exact h2 x (by omega) (by omega) hp
    · rcases h3 with h3 | ⟨x, k1, k2, k3, k4⟩
      · rw [h3]
        by_cases hp : p t
        · rw [if_pos hp]
          by_cases hl : f t ≤ b
          · exact Or.inl (by omega)
          · exact Or.inr ⟨t, by omega, by omega, hp, by omega⟩
        · rw [if_neg hp]; exact Or.inl rfl
      · exact Or.inr ⟨x, by omega, by omega, k3, k4⟩
/-- two greatest ones over the same numbers -/
theorem mx_eq {r r' : Nat} {S S' : Nat → Prop} (h1 : ∀ v, S v → v ≤ r) (h2 : r = 0 ∨ S r) (h1' : ∀ v, S' v → v ≤ r') (h2' : r' = 0 ∨ S' r') (hS : ∀ v, S v ↔ S' v) : r = r' := by
  apply Nat.le_antisymm
  · rcases h2 with h | h
    · omega
    · exact h1' r ((hS r).mp h)
  · rcases h2' with h | h
    · omega
    · exact h1 r' ((hS r').mpr h)
/-- how far the farthest of its tree is; the widest of a tree -/
def f_fa (F : fF) (t : Nat) : Nat := fo (fun m x => if f_r (fP F) x = f_r (fP F) t then max m (f_D F x t) else m) 0 0 (fN F)
def f_wd (F : fF) (t : Nat) : Nat := fo (fun m x => if f_r (fP F) x = f_r (fP F) t then max m (f_fa F x) else m) 0 0 (fN F)
section WI
variable {i : Nat} {F : fF}
theorem or_iff (hw : f_wf F) {R : Nat} (hR : R < fN F) (hRn : fP F R = none) (x : Nat) : x ∈ f_or F R ↔ x < fN F ∧ f_r (fP F) x = R := by
  constructor
  · intro h
    obtain ⟨h1, h2⟩ := f_or_mem1 hw R hR x h
    exact ⟨h1, f_r_of hw.2.1 hw.1 h1 h2 hRn⟩
  · rintro ⟨h1, h2⟩
    exact f_or_mem2 hw hR x h1 (by rw [← h2]; exact (f_r_lt hw.2.1 hw.1 x h1).2.2)
theorem f_fa_le (hw : f_wf F) {t : Nat} (ht : t < fN F) : f_fa F t ≤ 239976 := by
  rcases (fo_mx (fun x => f_r (fP F) x = f_r (fP F) t) (fun x => f_D F x t) (fN F) 0 0).2.2 with h | ⟨x, h1, h2, h3, h4⟩
  · unfold f_fa; rw [h]; omega
  · unfold f_fa; rw [← h4]; exact f_D_le hw (by omega) ht
theorem f_wd_le (hw : f_wf F) {t : Nat} : f_wd F t ≤ 239976 := by
  rcases (fo_mx (fun x => f_r (fP F) x = f_r (fP F) t) (fun x => f_fa F x) (fN F) 0 0).2.2 with h | ⟨x, h1, h2, h3, h4⟩
  · unfold f_wd; rw [h]; omega
  · unfold f_wd; rw [← h4]; exact f_fa_le hw (by omega)
theorem fo_tt (f : Nat → Nat) (n : Nat) : fo (fun b x => max b (f x)) 0 0 n = fo (fun b x => if True then max b (f x) else b) 0 0 n := fo_cg fun b j _ _ => by rw [if_pos trivial]
theorem getD_of {L : List Nat} {k x : Nat} (h : L[k]? = some x) : L.getD k 0 = x := by rw [List.getD_eq_getElem?_getD, h]; rfl
/-- the greatest over a row of the tree is the greatest over the tree -/
theorem mx_or (hw : f_wf F) {R : Nat} (hR : R < fN F) (hRn : fP F R = none) (f : Nat → Nat) : fo (fun b s => max b (f ((f_or F R).getD s 0))) 0 0 (f_or F R).length = fo (fun m x => if f_r (fP F) x = R then max m (f x) else m) 0 0 (fN F) := by
  obtain ⟨-, h2, h3⟩ := fo_mx (fun _ => True) (fun s => f ((f_or F R).getD s 0)) (f_or F R).length 0 0
  obtain ⟨-, k2, k3⟩ := fo_mx (fun x => f_r (fP F) x = R) f (fN F) 0 0
  rw [fo_tt (fun s => f ((f_or F R).getD s 0))]
  refine mx_eq (S := fun v => ∃ s, s < (f_or F R).length ∧ f ((f_or F R).getD s 0) = v) (S' := fun v => ∃ x, x < fN F ∧ f_r (fP F) x = R ∧ f x = v) ?_ ?_ ?_ ?_ ?_
  · rintro v ⟨s, hs, rfl⟩
    exact h2 s (by omega) (by omega) trivial
  · rcases h3 with h | ⟨x, q1, q2, -, q4⟩
    · exact Or.inl h
    · exact Or.inr ⟨x, by omega, q4⟩
  · rintro v ⟨x, hx, hr, rfl⟩
    exact k2 x (by omega) (by omega) hr
  · rcases k3 with h | ⟨x, q1, q2, q3, q4⟩
    · exact Or.inl h
    · exact Or.inr ⟨x, by omega, q3, q4⟩
  · intro v
    constructor
    · rintro ⟨s, hs, e⟩
      have hm := List.getElem?_eq_getElem hs
      rw [getD_of hm] at e
      obtain ⟨a1, a2⟩ := (or_iff hw hR hRn _).mp (List.mem_of_getElem? hm)
      exact ⟨_, a1, a2, e⟩
    · rintro ⟨x, hx, hr, e⟩
      obtain ⟨s, hs⟩ := List.mem_iff_getElem?.mp ((or_iff hw hR hRn x).mpr ⟨hx, hr⟩)
      exact ⟨s, (List.getElem?_eq_some_iff.mp hs).1, by rw [getD_of hs]; exact e⟩
theorem C_farthestFrom {g : am_G} (d : Nat) (hw : f_wf F) {R : Nat} (hR : R < fN F) (hRn : fP F R = none) (hV : rV g (f_or F R)) (hX : rX F g (f_or F R) (f_or F R).length) {t : Nat} (ht : t ∈ f_or F R) :
    am_call (d + 1) 56 [.inr (.inr (20, 0)), .inl (nI t)] g = some (some (.inl (nI (f_fa F t))), g) := by
  have hn := hw.1
  have hl : (f_or F R).length ≤ 24 := Nat.le_trans (f_or_len hw hR) hw.1
  obtain ⟨htn, htr⟩ := (or_iff hw hR hRn t).mp ht
  obtain ⟨jt, hjt⟩ := List.mem_iff_getElem?.mp ht
  rw [cV_farthestFrom, eV_farthestFrom_0]
  have key := (for_inv (fun k m (_ : Option am_V) s => am_run (am_call d) 56 k 4 [some (.inr (.inr (20, 0))), some (.inl (nI t)), some (.inl (nI m)), some (.inl (nI s))] [] g) (f_or F R).length (fun m s => max m (f_D F t ((f_or F R).getD s 0))) (fun m => some (some (.inl (nI m)), g)) (fun m _ => m ≤ 239976) (fun k m o s hs hm => by
    have hx := List.getElem?_eq_getElem hs
    obtain ⟨hxn, hxr⟩ := (or_iff hw hR hRn _).mp (List.mem_of_getElem? hx)
    have hD := f_D_le hw htn hxn
    rw [getD_of hx]
    refine ⟨⟨none, ?_⟩, by omega⟩
    rw [eV_farthestFrom_4, hV.1, if_neg (nI_ge hs (by omega)), q_c24 hn htn, q_c24 hl hs, nI_clamp (n := s) (by omega), hV.2 s _ hx, q_c24 hn hxn, nI_clamp (q24 hn hxn), nI_clamp (q24 hn htn), Nat.zero_add, hX jt s t _ (List.getElem?_eq_some_iff.mp hjt).1 hs hjt hx, cond_true, cond_true, cond_true, nI_1]
    by_cases e : m < f_D F t (f_or F R)[s]
    · rw [if_pos (nI_lt e (by omega)), Nat.max_eq_right (by omega)]
    · rw [if_neg (nI_nlt (by omega) (by omega)), Nat.max_eq_left (by omega)]) (fun k m o _ => by
    rw [eV_farthestFrom_4, hV.1, if_pos (nI_le (Nat.le_refl _) (by omega))]) (m := (f_or F R).length) (t := 0) (b := 0) (o := none) (k := 99999) (by omega) (by omega) (by omega)).1
  refine key.trans ?_
  rw [mx_or hw hR hRn (fun x => f_D F t x)]
  have e : fo (fun m x => if f_r (fP F) x = R then max m (f_D F t x) else m) 0 0 (fN F) = f_fa F t := fo_cg fun b j _ hj => by
    by_cases q : f_r (fP F) j = R
    · rw [if_pos q, if_pos (by rw [q, htr]), f_D_sym hw htn (by omega) (by rw [q, htr])]
    · rw [if_neg q, if_neg (by rw [htr]; exact q)]
  rw [e]
theorem C_widestReach {g : am_G} (d : Nat) (hw : f_wf F) {R : Nat} (hR : R < fN F) (hRn : fP F R = none) (hV : rV g (f_or F R)) (hE : ∀ x ∈ f_or F R, g 26 0 x = nI (f_fa F x)) :
    am_call (d + 1) 57 [.inr (.inr (20, 0))] g = some (some (.inl (nI (f_wd F R))), g) := by
  have hn := hw.1
  have hl : (f_or F R).length ≤ 24 := Nat.le_trans (f_or_len hw hR) hw.1
  rw [cV_widestReach, eV_widestReach_0]
  have key := (for_inv (fun k m (_ : Option am_V) s => am_run (am_call d) 57 k 4 [some (.inr (.inr (20, 0))), some (.inl (nI m)), some (.inl (nI s))] [] g) (f_or F R).length (fun m s => max m (f_fa F ((f_or F R).getD s 0))) (fun m => some (some (.inl (nI m)), g)) (fun m _ => m ≤ 239976) (fun k m o s hs hm => by
    have hx := List.getElem?_eq_getElem hs
    have hxm := List.mem_of_getElem? hx
    obtain ⟨hxn, hxr⟩ := (or_iff hw hR hRn _).mp hxm
    have hD := f_fa_le hw hxn
    rw [getD_of hx]
    refine ⟨⟨none, ?_⟩, by omega⟩
    rw [eV_widestReach_4, hV.1, if_neg (nI_ge hs (by omega)), q_c24 hl hs, nI_clamp (n := s) (by omega), hV.2 s _ hx, q_c24 hn hxn, nI_clamp (q24 hn hxn), hE _ hxm, cond_true, cond_true, nI_1]
    by_cases e : m < f_fa F (f_or F R)[s]
    · rw [if_pos (nI_lt e (by omega)), Nat.max_eq_right (by omega)]
    · rw [if_neg (nI_nlt (by omega) (by omega)), Nat.max_eq_left (by omega)]) (fun k m o _ => by
    rw [eV_widestReach_4, hV.1, if_pos (nI_le (Nat.le_refl _) (by omega))]) (m := (f_or F R).length) (t := 0) (b := 0) (o := none) (k := 99999) (by omega) (by omega) (by omega)).1
  refine key.trans ?_
  rw [mx_or hw hR hRn (fun x => f_fa F x)]
  unfold f_wd
  rw [f_r_none hw.2.1 hw.1 hR hRn]
/-- what a measure of the tree of R knows -/
def rM (F : fF) (g : am_G) (R : Nat) : Prop := rV g (f_or F R) ∧ rX F g (f_or F R) (f_or F R).length
theorem C_reach_loop (d : Nat) (hw : f_wf F) {R : Nat} (hR : R < fN F) (hRn : fP F R = none) (x2 : Int32) (o4 o5 o6 o7 o8 : Option am_V) : ∀ (m j k : Nat) (g : am_G), j + m = (f_or F R).length → m < k → rM F g R → (∀ (q x : Nat), q < j → (f_or F R)[q]? = some x → g 26 0 x = nI (f_fa F x)) →
    ∃ g', am_run (am_call (d + 1)) 55 k 72 [some (.inr (.inr (20, 0))), some (.inr (.inr (1, i))), some (.inl x2), some (.inl (nI j)), o4, o5, o6, o7, o8] [] g = some (none, g') ∧ rM F g' R ∧ (∀ x ∈ f_or F R, g' 26 0 x = nI (f_fa F x)) ∧ (∀ x, x ∉ f_or F R → g' 26 0 x = g 26 0 x) ∧ m_fr (fun c j => c = 26 ∧ j = 0) g g'
  | 0, j, k, g, hj, hk, hM, hE => by
    obtain ⟨k, rfl⟩ : ∃ k', k = k' + 1 := ⟨k - 1, by omega⟩
    have hl : (f_or F R).length ≤ 24 := Nat.le_trans (f_or_len hw hR) hw.1
    have e : j = (f_or F R).length := by omega
    subst e
    rw [eV_measure_72, hM.1.1, if_pos (nI_le (Nat.le_refl _) (by omega))]
    refine ⟨g, rfl, hM, fun x hx => ?_, fun _ _ => rfl, m_fr.rf⟩
    obtain ⟨q, hq⟩ := List.mem_iff_getElem?.mp hx
    exact hE q x (List.getElem?_eq_some_iff.mp hq).1 hq
  | m + 1, j, k, g, hj, hk, hM, hE => by
    obtain ⟨k, rfl⟩ : ∃ k', k = k' + 1 := ⟨k - 1, by omega⟩
    have hn := hw.1
    have hl : (f_or F R).length ≤ 24 := Nat.le_trans (f_or_len hw hR) hw.1
    obtain ⟨t, ht⟩ : ∃ t, (f_or F R)[j]? = some t := ⟨_, List.getElem?_eq_getElem (by omega)⟩
    have htm := List.mem_of_getElem? ht
    obtain ⟨htn, -⟩ := (or_iff hw hR hRn t).mp htm
    rw [eV_measure_72, hM.1.1, if_neg (nI_ge (by omega) (by omega)), q_c24 hl (show j < (f_or F R).length by omega), cond_true, cond_true, nI_clamp (n := j) (by omega), hM.1.2 j t ht, C_farthestFrom d hw hR hRn hM.1 hM.2 htm, bi_some, q_c24 hn htn, cond_true, nI_clamp (q24 hn htn), nI_1]
    have hfr : m_fr (fun c j => c = 26 ∧ j = 0) g (am_sto g 26 0 t (nI (f_fa F t))) := m_fr.rf.sto ⟨rfl, rfl⟩
    obtain ⟨g', k1, k2, k3, k4, k5⟩ := C_reach_loop d hw hR hRn x2 o4 o5 o6 o7 o8 m (j + 1) k (am_sto g 26 0 t (nI (f_fa F t))) (by omega) (by omega) ⟨⟨by rw [m_sto_ne (by simp)]; exact hM.1.1, hM.1.2.fr hfr (by simp)⟩, fun a b x y ha hb hx hy => by rw [m_sto_ne (by simp)]; exact hM.2 a b x y ha hb hx hy⟩ (fun q x hq hx => by
      rw [m_sto]
      by_cases e : x = t
      · rw [if_pos e, e]
      · rw [if_neg e]
        refine hE q x ?_ hx
        by_cases e2 : q = j
        · subst e2; rw [ht] at hx; cases hx; exact absurd rfl e
        · omega)
    refine ⟨g', k1, k2, k3, fun x hx => ?_, hfr.tr k5⟩
    rw [k4 x hx, m_sto, if_neg (fun e => hx (by rw [e]; exact htm))]
theorem C_measure {g : am_G} (d : Nat) (hc : rC g i F) (hw : f_wf F) {R : Nat} (hR : R < fN F) (hRn : fP F R = none) :
    ∃ g', am_call (d + 3) 55 [.inr (.inr (20, 0)), .inr (.inr (1, i)), .inl (nI R)] g = some (none, g') ∧ rM F g' R ∧ (∀ x ∈ f_or F R, g' 26 0 x = nI (f_fa F x)) ∧ (∀ x, x ∉ f_or F R → g' 26 0 x = g 26 0 x) ∧ m_fr sSv g g' := by
  have hl : (f_or F R).length ≤ 24 := Nat.le_trans (f_or_len hw hR) hw.1
  obtain ⟨g1, h1, h2, h3⟩ := C_lineUp d hc hw hR
  have h3' : m_fr sSv g g1 := h3.mono fun c j q => by
    have := q.2
    show c = 21 ∨ c = 22 ∨ c = 25 ∨ c = 26 ∨ c = 121
    omega
  rw [cV_measure, eV_measure_0, h1, bv_some]
  obtain ⟨g2, o4, o5, o6, o7, o8, k', l1, l2, l3, l4, l5, l6⟩ := C_meas_out (am_call (d + 2)) hw hR hRn (nI R) (f_or F R).length 0 g1 none none none none none 99999 (by omega) (hc.sSv h3') h2 (fun a b x y ha => by omega) (by omega)
  have l1' := l1
  rw [← q_n0] at l1'
  rw [l1']
  obtain ⟨g3, k1, k2, k3, k4, k5⟩ := C_reach_loop (d + 1) hw hR hRn (nI R) o4 o5 o6 o7 o8 (f_or F R).length 0 k' g2 (by omega) (by omega) ⟨l4, l5⟩ (fun q x hq => by omega)
  refine ⟨g3, k1, k2, k3, fun x hx => ?_, (h3'.tr (l6.mono fun c j q => Or.inr (Or.inr (Or.inl q)))).tr (k5.mono fun c j q => Or.inr (Or.inr (Or.inr (Or.inl q.1))))⟩
  rw [k4 x hx, l6 26 0 (by show ¬ 26 = 25; omega), h3 26 0 (fun q => by have := q.2; omega)]
def rHm (F : fF) (g : am_G) : Prop := ∀ t, t < fN F → g 23 0 t = nI (f_r (fP F) t)
theorem C_homes_loop (d : Nat) (hw : f_wf F) : ∀ (m t k : Nat) (g : am_G), t + m = fN F → m < k → rC g i F → (∀ q, q < t → g 23 0 q = nI (f_r (fP F) q)) →
    ∃ g', am_run (am_call (d + 1)) 58 k 2 [some (.inr (.inr (20, 0))), some (.inr (.inr (1, i))), some (.inl (nI t))] [] g = some (none, g') ∧ rHm F g' ∧ m_fr (fun c j => c = 23 ∧ j = 0) g g'
  | 0, t, k, g, ht, hk, hc, hE => by
    obtain ⟨k, rfl⟩ : ∃ k', k = k' + 1 := ⟨k - 1, by omega⟩
    have e : t = fN F := by omega
    subst e
    have hn := hw.1
    rw [eV_findHomes_2, hc.1, if_pos (nI_le (Nat.le_refl _) (by omega))]
    exact ⟨g, rfl, hE, m_fr.rf⟩
  | m + 1, t, k, g, ht, hk, hc, hE => by
    obtain ⟨k, rfl⟩ : ∃ k', k = k' + 1 := ⟨k - 1, by omega⟩
    have hn := hw.1
    have htn : t < fN F := by omega
    rw [eV_findHomes_2, hc.1, if_neg (nI_ge htn (by omega)), C_rootOf d hc hw htn, bi_some, q_c24 hn htn, cond_true, nI_clamp (q24 hn htn), nI_1]
    obtain ⟨g', k1, k2, k3⟩ := C_homes_loop d hw m (t + 1) k (am_sto g 23 0 t (nI (f_r (fP F) t))) (by omega) (by omega) (hc.cg fun c hc => m_sto_ne (by omega)) (fun q hq => by
      rw [m_sto]
      by_cases e : q = t
      · rw [if_pos e, e]
      · rw [if_neg e]; exact hE q (by omega))
    exact ⟨g', k1, k2, (m_fr.rf.sto ⟨rfl, rfl⟩).tr k3⟩
theorem C_findHomes {g : am_G} (d : Nat) (hc : rC g i F) (hw : f_wf F) : ∃ g', am_call (d + 2) 58 [.inr (.inr (20, 0)), .inr (.inr (1, i))] g = some (none, g') ∧ rHm F g' ∧ m_fr (fun c j => c = 23 ∧ j = 0) g g' := by
  have hn := hw.1
  rw [cV_findHomes, eV_findHomes_0]
  exact C_homes_loop d hw (fN F) 0 99999 g (by omega) (by omega) hc (fun q hq => by omega)
end WI
def sp (g : am_G) (x y z : Int32) : am_G := am_sto (am_sto (am_sto g 27 0 0 x) 27 0 1 y) 27 0 2 z
theorem sp_0 (g : am_G) (x y z : Int32) : sp g x y z 27 0 0 = x := by
  unfold sp; rw [m_sto, if_neg (by omega), m_sto, if_neg (by omega), m_sto, if_pos rfl]
theorem sp_1 (g : am_G) (x y z : Int32) : sp g x y z 27 0 1 = y := by
  unfold sp; rw [m_sto, if_neg (by omega), m_sto, if_pos rfl]
theorem sp_2 (g : am_G) (x y z : Int32) : sp g x y z 27 0 2 = z := by
  unfold sp; rw [m_sto, if_pos rfl]
def s27 : Nat → Nat → Prop := fun c j => c = 27 ∧ j = 0
theorem sp_fr (g : am_G) (x y z : Int32) : m_fr s27 g (sp g x y z) := ((m_fr.rf.sto ⟨rfl, rfl⟩).sto ⟨rfl, rfl⟩).sto ⟨rfl, rfl⟩
theorem C_setPair (d : Nat) (g : am_G) (x y z : Int32) : am_call (d + 1) 59 [.inr (.inr (20, 0)), .inl x, .inl y, .inl z] g = some (none, sp g x y z) := by
  rw [cV_setPair, eV_setPair_0]
  rfl
