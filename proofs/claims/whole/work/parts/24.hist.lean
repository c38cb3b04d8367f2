/-! ===== History: a ring of twenty ===== -/
def rH (g : am_G) (U : List fF) : Prop := U.length ≤ 20 ∧ ∃ o, o < 20 ∧ g 117 0 0 = nI o ∧ g 118 0 0 = nI U.length ∧ ∀ (j : Nat) (F : fF), U[j]? = some F → rC g (4 + (o + j) % 20) F ∧ f_wf F
def fc (c : Nat) : Prop := 2 ≤ c ∧ c ≤ 7 ∨ c = 102 ∨ c = 103
def sH : Nat → Nat → Prop := fun c j => (4 ≤ j ∧ j < 24 ∧ fc c) ∨ (j = 0 ∧ (c = 117 ∨ c = 118))
theorem q_n20 : (20 : Int32) = nI 20 := rfl
theorem q_rem20 {a : Nat} (h : a < 2 ^ 31) : nI a - nI a / (20 : Int32) * (20 : Int32) = nI (a % 20) := by
  rw [q_n20]
  exact pk_rem h (by omega) (by omega)
/-- a new step: the oldest goes where there are twenty -/
def h_push (U : List fF) (F : fF) : List fF := if U.length < 20 then U ++ [F] else U.tail ++ [F]
theorem rH.fr {g g' : am_G} {U : List fF} {S : Nat → Nat → Prop} (h : rH g U) (hf : m_fr S g g') (h1 : ¬ S 117 0) (h2 : ¬ S 118 0) (h3 : ∀ c j, 4 ≤ j → j < 24 → fc c → ¬ S c j) : rH g' U := by
  obtain ⟨hl, o, ho, e1, e2, e3⟩ := h
  refine ⟨hl, o, ho, by rw [hf 117 0 h1]; exact e1, by rw [hf 118 0 h2]; exact e2, fun j F hj => ?_⟩
  obtain ⟨k1, k2⟩ := e3 j F hj
  refine ⟨k1.cg fun c hc => hf c _ (h3 c _ (by omega) (by omega) (by unfold fc; omega)), k2⟩
theorem q_s20 {k : Nat} (h : k < 20) : ¬ (20 : Int32) ≤ nI k := nI_ge (a := k) (b := 20) h (by omega)
theorem C_remember {g : am_G} {U : List fF} {F : fF} (d : Nat) (h : rC g 0 F) (hw : f_wf F) (hU : rH g U) : ∃ g', am_call (d + 2) 39 [.inr (.inr (14, 0)), .inr (.inr (1, 0))] g = some (none, g') ∧ rH g' (h_push U F) ∧ m_fr sH g g' := by
  obtain ⟨hl, o, ho, e1, e2, e3⟩ := hU
  have he : (o + U.length) % 20 < 20 := Nat.mod_lt _ (by omega)
  obtain ⟨g1, k1, k2, k3⟩ := C_copyFrom (i := 4 + (o + U.length) % 20) (j := 0) (d) h hw (by omega)
  have f117 : g1 117 0 0 = nI o := by rw [k3 117 0 (fun q => by have := q.1; omega)]; exact e1
  have f118 : g1 118 0 0 = nI U.length := by rw [k3 118 0 (fun q => by have := q.1; omega)]; exact e2
  have hfr : m_fr sH g g1 := k3.mono (fun c j q => Or.inl ⟨by have := q.1; omega, by have := q.1; omega, q.2⟩)
  have hold : ∀ (j : Nat) (G : fF), U[j]? = some G → (o + j) % 20 ≠ (o + U.length) % 20 → rC g1 (4 + (o + j) % 20) G ∧ f_wf G := fun j G hj hne => by
    obtain ⟨l1, l2⟩ := e3 j G hj
    exact ⟨l1.cg fun c hc => k3 c _ (fun q => by have := q.1; omega), l2⟩
  rw [cH_remember, eH_remember_0, e1, e2, nI_add, q_rem20 (by omega), if_neg (by decide), q_in he (by omega), cond_true, nI_clamp (by omega), k1, bv_some, f118]
  unfold h_push
  by_cases hlt : U.length < 20
  · rw [if_neg (q_s20 hlt), if_pos hlt]
    refine ⟨_, rfl, ⟨by rw [List.length_append, List.length_singleton]; omega, o, ho, by rw [m_put_ne (by simp)]; exact f117, by rw [m_put, List.length_append, List.length_singleton, nI_1], fun j G hj => ?_⟩, hfr.put (Or.inr ⟨rfl, Or.inr rfl⟩)⟩
    have hput : ∀ {i : Nat} {K : fF}, rC g1 i K → rC (am_put g1 118 0 (nI U.length + 1)) i K := fun hk => hk.cg fun c hc => m_put_ne (by omega)
    rw [List.getElem?_append] at hj
    by_cases hj2 : j < U.length
    · rw [if_pos hj2] at hj
      obtain ⟨l1, l2⟩ := hold j G hj (by omega)
      exact ⟨hput l1, l2⟩
    · rw [if_neg hj2] at hj
      have ej : j = U.length := by
        have := (List.getElem?_eq_some_iff.mp hj).1
        simp at this
        omega
      subst ej
      rw [Nat.sub_self] at hj
      cases hj
      exact ⟨hput k2, hw⟩
  · have hlen : U.length = 20 := by omega
    rw [if_pos (by rw [hlen]; decide), if_neg (by decide), f117, nI_1, q_rem20 (by omega), if_neg hlt]
    have hput : ∀ {i : Nat} {K : fF}, rC g1 i K → rC (am_put g1 117 0 (nI ((o + 1) % 20))) i K := fun hk => hk.cg fun c hc => m_put_ne (by omega)
    have e20 : U.length - 1 + 1 = U.length := by omega
    refine ⟨_, rfl, ⟨by rw [List.length_append, List.length_singleton, List.length_tail]; omega, (o + 1) % 20, Nat.mod_lt _ (by omega), m_put _ _ _ _ _, by rw [m_put_ne (by simp), List.length_append, List.length_singleton, List.length_tail, f118, e20], fun j G hj => ?_⟩, hfr.put (Or.inr ⟨rfl, Or.inl rfl⟩)⟩
    rw [List.getElem?_append, List.length_tail] at hj
    by_cases hj2 : j < U.length - 1
    · rw [if_pos hj2, List.getElem?_tail] at hj
      obtain ⟨l1, l2⟩ := hold (j + 1) G hj (by omega)
      rw [show ((o + 1) % 20 + j) % 20 = (o + (j + 1)) % 20 by omega]
      exact ⟨hput l1, l2⟩
    · rw [if_neg hj2] at hj
      have ej : j = U.length - 1 := by
        have := (List.getElem?_eq_some_iff.mp hj).1
        simp at this
        omega
      subst ej
      rw [Nat.sub_self] at hj
      cases hj
      rw [show ((o + 1) % 20 + (U.length - 1)) % 20 = (o + U.length) % 20 by omega]
      exact ⟨hput k2, hw⟩
theorem C_goBack_none {g : am_G} (d : Nat) (hU : rH g []) : am_call (d + 2) 40 [.inr (.inr (14, 0)), .inr (.inr (1, 0))] g = some (some (.inl 0), g) := by
  obtain ⟨hl, o, ho, e1, e2, e3⟩ := hU
  rw [cH_goBack, eH_goBack_0, e2, if_pos (show nI ([] : List fF).length = 0 from rfl)]
theorem C_goBack {g : am_G} {U : List fF} {F : fF} (d : Nat) (hU : rH g (U ++ [F])) : ∃ g', am_call (d + 2) 40 [.inr (.inr (14, 0)), .inr (.inr (1, 0))] g = some (some (.inl 1), g') ∧ rH g' U ∧ rC g' 0 F ∧ f_wf F ∧ m_fr (fun c j => sF 0 c j ∨ (c = 118 ∧ j = 0)) g g' := by
  obtain ⟨hl, o, ho, e1, e2, e3⟩ := hU
  rw [List.length_append, List.length_singleton] at hl e2
  have he : (o + U.length) % 20 < 20 := Nat.mod_lt _ (by omega)
  have hput : ∀ {i : Nat} {K : fF}, rC g i K → rC (am_put g 118 0 (nI U.length)) i K := fun hk => hk.cg fun c hc => m_put_ne (by omega)
  obtain ⟨l1, l2⟩ := e3 U.length F (by rw [List.getElem?_append, if_neg (Nat.lt_irrefl _), Nat.sub_self]; rfl)
  obtain ⟨g1, k1, k2, k3⟩ := C_copyFrom (i := 0) (j := 4 + (o + U.length) % 20) d (hput l1) l2 (by omega)
  have hsub : nI (U.length + 1) - 1 = nI U.length := by rw [q_n1, pk_sub (by omega)]; rfl
  have f117 : am_put g 118 0 (nI U.length) 117 0 0 = nI o := by rw [m_put_ne (by simp)]; exact e1
  have f118 : am_put g 118 0 (nI U.length) 118 0 0 = nI U.length := m_put _ _ _ _ _
  rw [cH_goBack, eH_goBack_0, e2, if_neg (nI_ne0 (by omega) (by omega)), if_neg (by decide), hsub, f117, f118, nI_add, q_rem20 (by omega), q_in he (by omega), cond_true, nI_clamp (by omega), k1, bv_some]
  refine ⟨g1, rfl, ⟨by omega, o, ho, ?_, ?_, fun j G hj => ?_⟩, k2, l2, fun c j hn => ?_⟩
  · rw [k3 117 0 (fun q => by have := q.2; omega)]; exact f117
  · rw [k3 118 0 (fun q => by have := q.2; omega)]; exact f118
  · have hjl := (List.getElem?_eq_some_iff.mp hj).1
    obtain ⟨m1, m2⟩ := e3 j G (by rw [List.getElem?_append, if_pos hjl]; exact hj)
    exact ⟨(hput m1).cg fun c hc => k3 c _ (fun q => by have := q.1; omega), m2⟩
  · rw [k3 c j (fun q => hn (Or.inl q)), m_put_ne (fun q => hn (Or.inr q))]
theorem C_forget {g : am_G} (d : Nat) : ∃ g', am_call (d + 1) 38 [.inr (.inr (14, 0))] g = some (none, g') ∧ rH g' [] ∧ m_fr (fun c j => j = 0 ∧ (c = 117 ∨ c = 118)) g g' := by
  rw [cH_forget, eH_forget_0]
  refine ⟨_, rfl, ⟨by simp, 0, by omega, by rw [m_put_ne (by simp), m_put]; rfl, by rw [m_put]; rfl, fun j F hj => by simp at hj⟩, (m_fr.rf.put ⟨rfl, Or.inl rfl⟩).put ⟨rfl, Or.inr rfl⟩⟩
