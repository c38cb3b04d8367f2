/-! ===== Survey: measures ===== -/
theorem for_any {σ R : Type} (run : Nat → σ → Nat → R) (n c : Nat) (Q : Nat → R → Prop) (I : σ → Nat → Prop)
    (hs : ∀ k s t, t < n → I s t → c < k → ∃ s' k', k ≤ k' + c ∧ run k s t = run k' s' (t + 1) ∧ I s' (t + 1)) (hx : ∀ k s, I s n → 0 < k → Q k (run k s n)) :
    ∀ (m t : Nat) (s : σ) (k : Nat), t + m = n → c * m < k → I s t → ∃ k', k ≤ k' + c * m ∧ 0 < k' ∧ Q k' (run k s t)
  | 0, t, s, k, h, hk, hi => by
    have e : t = n := by omega
    subst e
    exact ⟨k, by omega, by omega, hx k s hi (by omega)⟩
  | m + 1, t, s, k, h, hk, hi => by
    rw [Nat.mul_add, Nat.mul_one] at hk
    obtain ⟨s', k', h1, h2, h3⟩ := hs k s t (by omega) hi (by omega)
    obtain ⟨k2, h4, h5, h6⟩ := for_any run n c Q I hs hx m (t + 1) s' k' (by omega) (by omega) h3
    rw [h2]
    exact ⟨k2, by rw [Nat.mul_add, Nat.mul_one]; omega, h5, h6⟩
theorem m_sto2 (g : am_G) (c t k : Nat) (v : Int32) (a b : Nat) : (am_sto g c t k v) c a b = if a = t ∧ b = k then v else g c a b := by
  by_cases h : a = t
  · subst h
    rw [m_sto]
    by_cases h2 : b = k
    · rw [if_pos h2, if_pos ⟨rfl, h2⟩]
    · rw [if_neg h2, if_neg (fun q => h2 q.2)]
  · rw [m_sto_ne (fun q => h q.2), if_neg (fun q => h q.1)]
def sSv : Nat → Nat → Prop := fun c _ => c = 21 ∨ c = 22 ∨ c = 25 ∨ c = 26 ∨ c = 121
def s25 : Nat → Nat → Prop := fun c _ => c = 25
theorem rC.sSv {g g' : am_G} {i : Nat} {F : fF} (h : rC g i F) (hf : m_fr sSv g g') : rC g' i F := h.fr hf (fun c hc => by have : c = 21 ∨ c = 22 ∨ c = 25 ∨ c = 26 ∨ c = 121 := hc; omega)
/-- how far all of a row are from each other, up to k -/
def rX (F : fF) (g : am_G) (L : List Nat) (k : Nat) : Prop := ∀ (i j a b : Nat), i < k → j < k → L[i]? = some a → L[j]? = some b → g 25 a b = nI (f_D F a b)
section MS
variable {i : Nat} {F : fF}
/-- the inner loop -/
theorem C_meas_in (ct : am_T) (hw : f_wf F) {L : List Nat} (hl : L.length ≤ 24) (hLn : ∀ x ∈ L, x < fN F) (hnd : L.Nodup) {r : Nat} (hr : ∀ x ∈ L, f_r (fP F) x = r) {N t p kp : Nat} (hN : L[N]? = some t) (hp : fP F t = some p) (hkp : kp < N) (hpk : L[kp]? = some p) (hto : ∀ (j o : Nat), j < N → L[j]? = some o → t ∉ f_a (fP F) o) (x2 : Int32) :
    ∀ (m j : Nat) (g : am_G) (o7 o8 : Option am_V) (k : Nat), j + m = N → rC g i F → rV g L → rX F g L N → g 25 t t = nI 0 → (∀ (q o : Nat), q < j → L[q]? = some o → g 25 t o = nI (f_D F t o) ∧ g 25 o t = nI (f_D F t o)) → m < k →
    ∃ g' o7' o8', am_run ct 55 k 29 [some (.inr (.inr (20, 0))), some (.inr (.inr (1, i))), some (.inl x2), some (.inl (nI N)), some (.inl (nI t)), some (.inl (nI p)), some (.inl (nI j)), o7, o8] [] g =
      am_run ct 55 (k - m - 1) 6 [some (.inr (.inr (20, 0))), some (.inr (.inr (1, i))), some (.inl x2), some (.inl (nI (N + 1))), some (.inl (nI t)), some (.inl (nI p)), some (.inl (nI N)), o7', o8'] [] g' ∧ rC g' i F ∧ rV g' L ∧ rX F g' L (N + 1) ∧ m_fr s25 g g'
  | 0, j, g, o7, o8, k, hj, hc, hV, hX, h0, hT, hk => by
    obtain ⟨k, rfl⟩ : ∃ k', k = k' + 1 := ⟨k - 1, by omega⟩
    have e : j = N := by omega
    subst e
    have hjl := (List.getElem?_eq_some_iff.mp hN).1
    rw [eV_measure_29, if_pos (nI_le (Nat.le_refl _) (by omega)), nI_1]
    refine ⟨g, o7, o8, rfl, hc, hV, fun a b x y ha hb hx hy => ?_, m_fr.rf⟩
    by_cases ea : a = j <;> by_cases eb : b = j
    · subst ea; subst eb
      rw [hN] at hx hy
      cases hx; cases hy
      rw [h0, f_D_self hw (hLn t (List.mem_of_getElem? hN))]
    · subst ea
      rw [hN] at hx
      cases hx
      exact (hT b y (by omega) hy).1
    · subst eb
      rw [hN] at hy
      cases hy
      rw [(hT a x (by omega) hx).2]
      have hxm := List.mem_of_getElem? hx
      have htm := List.mem_of_getElem? hN
      rw [f_D_sym hw (hLn _ htm) (hLn _ hxm) (by rw [hr _ htm, hr _ hxm])]
    · exact hX a b x y (by omega) (by omega) hx hy
  | m + 1, j, g, o7, o8, k, hj, hc, hV, hX, h0, hT, hk => by
    obtain ⟨k, rfl⟩ : ∃ k', k = k' + 1 := ⟨k - 1, by omega⟩
    have hNl := (List.getElem?_eq_some_iff.mp hN).1
    obtain ⟨o, ho⟩ : ∃ o, L[j]? = some o := ⟨_, List.getElem?_eq_getElem (by omega)⟩
    have hom := List.mem_of_getElem? ho
    have htm := List.mem_of_getElem? hN
    have hpm := List.mem_of_getElem? hpk
    have hon := hLn o hom
    have htn := hLn t htm
    have hpn := hLn p hpm
    have hn := hw.1
    have hot : o ≠ t := fun e => hto j o (by omega) ho (by rw [e]; exact f_a_self _ _)
    have hpt : p ≠ t := fun e => hto kp p hkp hpk (by rw [e]; exact f_a_self _ _)
    have e1 := f_D_up hw htn hon (by rw [hr _ htm, hr _ hom]) hp (hto j o (by omega) ho)
    have hcod : ∀ {g' : am_G} {a b : Nat} {v : Int32}, rC g' i F → rC (am_sto g' 25 a b v) i F := fun h => h.cg fun c hc => m_sto_ne (by omega)
    have hVod : ∀ {g' : am_G} {a b : Nat} {v : Int32}, rV g' L → rV (am_sto g' 25 a b v) L := fun h => ⟨by rw [m_sto_ne (by simp)]; exact h.1, fun k x hk => by rw [m_sto_ne (by simp)]; exact h.2 k x hk⟩
    rw [eV_measure_29, if_neg (nI_ge (by omega) (by omega)), if_neg (q_ne1 (by omega)), q_c24 hl (show j < L.length by omega), cond_true, q_c24 hn hpn, cond_true, nI_clamp (n := j) (by omega), hV.2 j o ho, q_c24 hn hon, q_c24 hn htn, cond_true, cond_true, cond_true, nI_clamp (q24 hn hon), nI_clamp (q24 hn htn), nI_clamp (q24 hn hpn), Nat.zero_add, Nat.zero_add, Nat.zero_add, hX kp j p o hkp (by omega) hpk ho, hc.l htn (by rw [hp]; simp), nI_add, ← e1, nI_1]
    have fin := C_meas_in ct hw hl hLn hnd hr hN hp hkp hpk hto x2 m (j + 1) (am_sto (am_sto g 25 t o (nI (f_D F t o))) 25 o t (nI (f_D F t o))) (some (.inl (nI o))) (some (.inl (nI (f_D F t o)))) k (by omega) (hcod (hcod hc)) (hVod (hVod hV)) (fun a b x y ha hb hx hy => by
      have hxt : x ≠ t := fun e => hto a x ha hx (by rw [e]; exact f_a_self _ _)
      have hyt : y ≠ t := fun e => hto b y hb hy (by rw [e]; exact f_a_self _ _)
      rw [m_sto2, if_neg (fun q => hyt q.2), m_sto2, if_neg (fun q => hxt q.1)]
      exact hX a b x y ha hb hx hy) (by rw [m_sto2, if_neg (fun q => hot q.1.symm), m_sto2, if_neg (fun q => hot q.2.symm)]; exact h0) (fun q z hq hz => by
      by_cases ez : z = o
      · subst ez
        constructor
        · rw [m_sto2, if_neg (fun q => hot q.1.symm), m_sto2, if_pos ⟨rfl, rfl⟩]
        · rw [m_sto2, if_pos ⟨rfl, rfl⟩]
      · have hq2 : q < j := by
          by_cases e : q = j
          · subst e; rw [ho] at hz; cases hz; exact absurd rfl ez
          · omega
        have hzt : z ≠ t := fun e => hto q z (by omega) hz (by rw [e]; exact f_a_self _ _)
        obtain ⟨h1, h2⟩ := hT q z hq2 hz
        constructor
        · rw [m_sto2, if_neg (fun q => hzt q.2), m_sto2, if_neg (fun q => ez q.2)]; exact h1
        · rw [m_sto2, if_neg (fun q => ez q.1), m_sto2, if_neg (fun q => hzt q.1)]; exact h2) (by omega)
    obtain ⟨g', o7', o8', k1, k2, k3, k4, k5⟩ := fin
    refine ⟨g', o7', o8', ?_, k2, k3, k4, ?_⟩
    · rw [k1, show k + 1 - (m + 1) - 1 = k - m - 1 by omega]
      simp only [cond_true]
    · exact ((m_fr.sto (S := s25) m_fr.rf rfl).sto rfl).tr k5
theorem C_meas_out (ct : am_T) (hw : f_wf F) {R : Nat} (hR : R < fN F) (hRn : fP F R = none) (x2 : Int32) :
    ∀ (m j : Nat) (g : am_G) (o4 o5 o6 o7 o8 : Option am_V) (k : Nat), j + m = (f_or F R).length → rC g i F → rV g (f_or F R) → rX F g (f_or F R) j → 30 * m < k →
    ∃ g' o4' o5' o6' o7' o8' k', am_run ct 55 k 6 [some (.inr (.inr (20, 0))), some (.inr (.inr (1, i))), some (.inl x2), some (.inl (nI j)), o4, o5, o6, o7, o8] [] g =
      am_run ct 55 k' 72 [some (.inr (.inr (20, 0))), some (.inr (.inr (1, i))), some (.inl x2), some (.inl 0), o4', o5', o6', o7', o8'] [] g' ∧ k ≤ k' + 30 * m + 1 ∧ rC g' i F ∧ rV g' (f_or F R) ∧ rX F g' (f_or F R) (f_or F R).length ∧ m_fr s25 g g' := by
  intro m
  have hl : (f_or F R).length ≤ 24 := Nat.le_trans (f_or_len hw hR) hw.1
  have hLn : ∀ x ∈ f_or F R, x < fN F := fun x hx => (f_or_mem1 hw R hR x hx).1
  have hnd := f_or_nd hw R hR
  have hr : ∀ x ∈ f_or F R, f_r (fP F) x = R := fun x hx => f_r_of hw.2.1 hw.1 (hLn x hx) (f_or_mem1 hw R hR x hx).2 hRn
  induction m with
  | zero =>
    intro j g o4 o5 o6 o7 o8 k hj hc hV hX hk
    obtain ⟨k, rfl⟩ : ∃ k', k = k' + 1 := ⟨k - 1, by omega⟩
    have e : j = (f_or F R).length := by omega
    subst e
    rw [eV_measure_6, hV.1, if_pos (nI_le (Nat.le_refl _) (by omega))]
    exact ⟨g, o4, o5, o6, o7, o8, k, rfl, by omega, hc, hV, hX, m_fr.rf⟩
  | succ m ih =>
    intro j g o4 o5 o6 o7 o8 k hj hc hV hX hk
    obtain ⟨k, rfl⟩ : ∃ k', k = k' + 1 := ⟨k - 1, by omega⟩
    obtain ⟨t, ht⟩ : ∃ t, (f_or F R)[j]? = some t := ⟨_, List.getElem?_eq_getElem (by omega)⟩
    have htm := List.mem_of_getElem? ht
    have htn := hLn t htm
    have hn := hw.1
    obtain ⟨hj1, hj2⟩ := List.getElem?_eq_some_iff.mp ht
    have hsplit : f_or F R = (f_or F R).take j ++ t :: (f_or F R).drop (j + 1) := by
      rw [← hj2, ← List.drop_eq_getElem_cons hj1, List.take_append_drop]
    have hpar := f_or_par hw R hR _ t _ hsplit
    have hto : ∀ (q o : Nat), q < j → (f_or F R)[q]? = some o → t ∉ f_a (fP F) o := fun q o hq ho hto => by
      obtain ⟨hq1, hq2⟩ := List.getElem?_eq_some_iff.mp ho
      have hs2 : f_or F R = (f_or F R).take q ++ o :: (f_or F R).drop (q + 1) := by
        rw [← hq2, ← List.drop_eq_getElem_cons hq1, List.take_append_drop]
      have := pre_up hw hRn (f_or_par hw R hR) hLn q ((f_or F R).take q) o _ (by rw [List.length_take]; omega) hs2 t hto
      have hmem : t ∈ (f_or F R).take j := by
        rw [List.mem_append, List.mem_singleton] at this
        rcases this with h | rfl
        · exact (List.take_subset_take_left _ (by omega)) h
        · rw [List.mem_iff_getElem?]
          exact ⟨q, by rw [List.getElem?_take, if_pos hq]; exact ho⟩
      rw [hsplit, List.nodup_append] at hnd
      exact hnd.2.2 t hmem t List.mem_cons_self rfl
    have hc2 : rC (am_sto g 25 t t 0) i F := hc.cg fun c hc => m_sto_ne (by omega)
    have hV2 : rV (am_sto g 25 t t 0) (f_or F R) := ⟨by rw [m_sto_ne (by simp)]; exact hV.1, fun k x hk => by rw [m_sto_ne (by simp)]; exact hV.2 k x hk⟩
    have hX2 : rX F (am_sto g 25 t t 0) (f_or F R) j := fun a b x y ha hb hx hy => by
      have hxt : x ≠ t := fun e => hto a x ha hx (by rw [e]; exact f_a_self _ _)
      rw [m_sto2, if_neg (fun q => hxt q.1)]
      exact hX a b x y ha hb hx hy
    have h02 : (am_sto g 25 t t 0) 25 t t = nI 0 := by rw [m_sto2, if_pos ⟨rfl, rfl⟩]; rfl
    have hfr2 : m_fr s25 g (am_sto g 25 t t 0) := m_fr.rf.sto rfl
    rw [eV_measure_6, hV.1, if_neg (nI_ge (by omega) (by omega)), q_c24 hl (show j < (f_or F R).length by omega), cond_true, nI_clamp (n := j) (by omega), hV.2 j t ht, q_c24 hn htn, cond_true, cond_true, cond_true, nI_clamp (q24 hn htn), Nat.zero_add, hc.p htn]
    rcases hpar with rfl | ⟨p, hp, hp2⟩
    · -- the root: it is the first
      have hj0 : j = 0 := by
        have h0 : (f_or F t)[0]? = some t := by rw [f_or_eq hw htn]; rfl
        by_cases e : j = 0
        · exact e
        · exact absurd (f_a_self (fP F) t) (hto 0 t (by omega) h0)
      subst hj0
      obtain ⟨k, rfl⟩ : ∃ k', k = k' + 1 := ⟨k - 1, by omega⟩
      rw [hRn, eC_none, eV_measure_29, if_pos (by decide), nI_1]
      obtain ⟨g', p4, p5, p6, p7, p8, k', l1, l2, l3, l4, l5, l6⟩ := ih (0 + 1) (am_sto g 25 t t 0) (some (.inl (nI t))) (some (.inl (-1))) (some (.inl 0)) o7 o8 k (by omega) hc2 hV2 (fun a b x y ha hb hx hy => by
        have e1 : a = 0 := by omega
        have e2 : b = 0 := by omega
        subst e1; subst e2
        rw [ht] at hx hy
        cases hx; cases hy
        rw [h02, f_D_self hw htn]) (by omega)
      exact ⟨g', p4, p5, p6, p7, p8, k', l1, by omega, l3, l4, l5, hfr2.tr l6⟩
    · obtain ⟨kp, hkp⟩ := List.mem_iff_getElem?.mp hp
      rw [List.getElem?_take] at hkp
      have hkj : kp < j := by
        by_cases e : kp < j
        · exact e
        · rw [if_neg e] at hkp; cases hkp
      rw [if_pos hkj] at hkp
      rw [hp2, eC_some]
      obtain ⟨g1, o7', o8', k1, k2, k3, k4, k5⟩ := C_meas_in ct hw hl hLn hnd hr ht hp2 hkj hkp hto x2 j 0 (am_sto g 25 t t 0) o7 o8 k (by omega) hc2 hV2 hX2 h02 (fun q o hq _ => by omega) (by omega)
      obtain ⟨g', p4, p5, p6, p7, p8, k', l1, l2, l3, l4, l5, l6⟩ := ih (j + 1) g1 (some (.inl (nI t))) (some (.inl (nI p))) (some (.inl (nI j))) o7' o8' (k - j - 1) (by omega) k2 k3 k4 (by omega)
      exact ⟨g', p4, p5, p6, p7, p8, k', Eq.trans k1 l1, by omega, l3, l4, l5, (hfr2.tr k5).tr l6⟩
end MS
