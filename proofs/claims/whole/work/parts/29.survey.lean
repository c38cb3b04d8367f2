/-! ===== Survey: the order ===== -/
def rR (g : am_G) (c : Nat) (B : List Nat) : Prop := ∀ (k x : Nat), B[k]? = some x → g c 0 k = nI x
theorem rR.push {g : am_G} {c x : Nat} {B : List Nat} (h : rR g c B) : rR (am_sto g c 0 B.length (nI x)) c (B ++ [x]) := fun k y hk => by
  rw [m_sto]
  rw [List.getElem?_append] at hk
  by_cases hk2 : k < B.length
  · rw [if_pos hk2] at hk
    rw [if_neg (by omega)]
    exact h k y hk
  · rw [if_neg hk2] at hk
    have ek : k = B.length := by
      have := (List.getElem?_eq_some_iff.mp hk).1
      simp at this
      omega
    subst ek
    rw [Nat.sub_self] at hk
    cases hk
    rw [if_pos rfl]
theorem rR.fr {g g' : am_G} {c : Nat} {B : List Nat} {S : Nat → Nat → Prop} (h : rR g c B) (hf : m_fr S g g') (h1 : ¬ S c 0) : rR g' c B := by
  unfold rR
  rw [hf c 0 h1]
  exact h
theorem rR.pre {g : am_G} {c : Nat} {B C : List Nat} (h : rR g c (B ++ C)) : rR g c B := fun k x hk => h k x (by
  rw [List.getElem?_append, if_pos (List.getElem?_eq_some_iff.mp hk).1]
  exact hk)
theorem fl_snoc {p : Nat → Bool} : ∀ (m t : Nat), fl p t (m + 1) = fl p t m ++ (if p (t + m) then [t + m] else [])
  | 0, t => by
    rw [fl, fl, fl]
    rfl
  | m + 1, t => by
    rw [fl, fl_snoc m (t + 1)]
    conv => rhs; rw [fl]
    rw [show t + 1 + m = t + (m + 1) by omega]
    by_cases hp : p t = true
    · rw [if_pos hp, if_pos hp]; rfl
    · rw [if_neg hp, if_neg hp]
theorem q_sub1 (x : Int32) : x - 1 = x + (-1) := Int32.sub_eq_add_neg ..
def s22 : Nat → Nat → Prop := fun c j => c = 22 ∧ j = 0
section SV
variable {i : Nat} {F : fF}
theorem toList_rev (o : Option Nat) : o.toList.reverse = o.toList := by cases o <;> rfl
theorem f_kd_rev (F : fF) (t : Nat) : (f_kd F t).reverse = (fl (f_pk F t) 0 (fN F)).reverse ++ (fQ F t).toList := by
  unfold f_kd
  rw [List.reverse_append, toList_rev]
theorem C_opn_loop (ct : am_T) (hw : f_wf F) {t : Nat} (ht : t < fN F) (x3 : Int32) : ∀ (m k : Nat) (g : am_G) (B : List Nat), m ≤ fN F → rC g i F → rR g 22 B → B.length + (fl (f_pk F t) 0 m).length + (fQ F t).toList.length ≤ 24 → m < k →
    ∃ g', am_run ct 53 k 12 [some (.inr (.inr (20, 0))), some (.inr (.inr (1, i))), some (.inl (nI t)), some (.inl x3), some (.inl (nI B.length)), some (.inl (eC (fQ F t))), some (.inl (nI m + (-1)))] [] g = some (some (.inl (nI (B ++ ((fl (f_pk F t) 0 m).reverse ++ (fQ F t).toList)).length)), g') ∧ rR g' 22 (B ++ ((fl (f_pk F t) 0 m).reverse ++ (fQ F t).toList)) ∧ m_fr s22 g g'
  | 0, k, g, B, hm, hc, hB, hl, hk => by
    obtain ⟨k, rfl⟩ : ∃ k', k = k' + 1 := ⟨k - 1, by omega⟩
    rw [eV_opnChildren_12, if_pos (by decide), fl, List.reverse_nil, List.nil_append]
    cases e : fQ F t with
    | none =>
      rw [eC_none, if_pos rfl, show (none : Option Nat).toList = [] from rfl, List.append_nil]
      exact ⟨g, rfl, hB, m_fr.rf⟩
    | some q =>
      rw [e] at hl
      have hl2 : B.length < 24 := by
        rw [show (some q).toList = [q] from rfl, List.length_singleton] at hl
        omega
      have hq := hw.q31 ht q e
      rw [eC_some, if_neg (q_ne1 hq), if_neg (q_s24 hl2), q_c24 (Nat.le_refl 24) hl2, cond_true, nI_clamp (by omega), nI_1, show (some q).toList = [q] from rfl, List.length_append, List.length_singleton]
      exact ⟨_, rfl, hB.push, m_fr.rf.sto ⟨rfl, rfl⟩⟩
  | m + 1, k, g, B, hm, hc, hB, hl, hk => by
    obtain ⟨k, rfl⟩ : ∃ k', k = k' + 1 := ⟨k - 1, by omega⟩
    have hn := hw.1
    have hmn : m < fN F := by omega
    rw [fl_snoc, Nat.zero_add] at hl ⊢
    rw [eV_opnChildren_12, pk_m1, if_neg (q_nn (by omega)), q_c24 hn hmn, cond_true, nI_clamp (by omega), hc.p hmn]
    have iff1 := eC_inj (hw.p31 hmn) (q := t) (by omega)
    have iff2 : nI m = eC (fQ F t) ↔ fQ F t = some m := by rw [eq_comm]; exact eC_inj (hw.q31 ht) (by omega)
    by_cases hp : f_pk F t m = true
    · have hp2 := of_decide_eq_true hp
      rw [if_pos hp, List.length_append, List.length_singleton] at hl
      have hl2 : B.length < 24 := by omega
      rw [if_pos (iff1.mpr hp2.1), if_neg (fun q => hp2.2 (iff2.mp q)), if_neg (q_s24 hl2), q_c24 (Nat.le_refl 24) hl2, cond_true, nI_clamp (by omega), nI_1, if_pos hp, List.reverse_append, List.reverse_singleton]
      have hc2 : rC (am_sto g 22 0 B.length (nI m)) i F := hc.cg fun c hc => m_sto_ne (by omega)
      obtain ⟨g', k1, k2, k3⟩ := C_opn_loop ct hw ht x3 m k _ (B ++ [m]) (by omega) hc2 hB.push (by rw [List.length_append, List.length_singleton]; omega) (by omega)
      rw [List.length_append, List.length_singleton] at k1
      simp only [List.append_assoc] at k1 k2 ⊢
      exact ⟨g', k1, k2, (m_fr.rf.sto ⟨rfl, rfl⟩).tr k3⟩
    · rw [if_neg hp, List.append_nil] at hl ⊢
      obtain ⟨g', k1, k2, k3⟩ := C_opn_loop ct hw ht x3 m k g B (by omega) hc hB hl (by omega)
      by_cases h1 : fP F m = some t
      · have h2 : fQ F t = some m := by
          by_cases h2 : fQ F t = some m
          · exact h2
          · exact absurd (decide_eq_true ⟨h1, h2⟩) hp
        rw [if_pos (iff1.mpr h1), if_pos (iff2.mpr h2)]
        exact ⟨g', k1, k2, k3⟩
      · rw [if_neg (fun q => h1 (iff1.mp q))]
        exact ⟨g', k1, k2, k3⟩
theorem C_openChildren {g : am_G} (d : Nat) (hc : rC g i F) (hw : f_wf F) {t : Nat} (ht : t < fN F) {B : List Nat} (hB : rR g 22 B) (hl : B.length + (f_kd F t).length ≤ 24) :
    ∃ g', am_call (d + 1) 53 [.inr (.inr (20, 0)), .inr (.inr (1, i)), .inl (nI t), .inl (nI B.length)] g = some (some (.inl (nI (B ++ (f_kd F t).reverse).length)), g') ∧ rR g' 22 (B ++ (f_kd F t).reverse) ∧ m_fr s22 g g' := by
  have hn := hw.1
  rw [cV_opnChildren, eV_opnChildren_0, q_c24 hn ht, cond_true, nI_clamp (by omega), hc.q ht, hc.1, q_sub1, f_kd_rev]
  have hl2 : (f_kd F t).length = (fQ F t).toList.length + (fl (f_pk F t) 0 (fN F)).length := by
    unfold f_kd
    rw [List.length_append]
  exact C_opn_loop _ hw ht _ (fN F) 99999 g B (Nat.le_refl _) hc hB (by omega) (by omega)
def rV (g : am_G) (L : List Nat) : Prop := g 121 0 0 = nI L.length ∧ rR g 21 L
def sV : Nat → Nat → Prop := fun c j => j = 0 ∧ (c = 21 ∨ c = 22 ∨ c = 121)
theorem fm_len {f : Nat → List Nat} : ∀ (l : List Nat), (∀ x ∈ l, 0 < (f x).length) → l.length ≤ (l.flatMap f).length
  | [], _ => Nat.zero_le _
  | x :: r, h => by
    have := fm_len r (fun y hy => h y (List.mem_cons_of_mem _ hy))
    have := h x List.mem_cons_self
    rw [List.flatMap_cons, List.length_append, List.length_cons]
    omega
theorem C_line_loop (d : Nat) (hw : f_wf F) {R : Nat} (hR : R < fN F) (x2 : Int32) : ∀ (m k : Nat) (A B : List Nat) (g : am_G) (o5 : Option am_V), (B.reverse.flatMap (f_or F)).length ≤ m → A ++ B.reverse.flatMap (f_or F) = f_or F R → (∀ x ∈ B, x < fN F) → rC g i F → rV g A → rR g 22 B → 2 * m + 2 ≤ k →
    ∃ g', am_run (am_call (d + 1)) 52 k 12 [some (.inr (.inr (20, 0))), some (.inr (.inr (1, i))), some (.inl x2), some (.inl (nI B.length)), some (.inl (nI A.length)), o5] [] g = some (none, g') ∧ rV g' (f_or F R) ∧ m_fr sV g g' := by
  intro m
  induction m with
  | zero =>
    intro k A B g o5 h1 h2 h3 hc hA hB hk
    obtain ⟨k, rfl⟩ : ∃ k', k = k' + 1 := ⟨k - 1, by omega⟩
    have hB0 : B = [] := by
      have h4 := fm_len (f := f_or F) B.reverse (fun x hx => f_or_pos hw (h3 x (List.mem_reverse.mp hx)))
      rw [List.length_reverse] at h4
      exact List.eq_nil_of_length_eq_zero (by omega)
    subst hB0
    rw [List.reverse_nil, List.flatMap_nil, List.append_nil] at h2
    subst h2
    refine ⟨g, ?_, hA, m_fr.rf⟩
    rw [eV_lineUp_12, List.length_nil, if_pos (show nI 0 ≤ 0 by decide), ite_self]
  | succ m ih =>
    intro k A B g o5 h1 h2 h3 hc hA hB hk
    obtain ⟨k, rfl⟩ : ∃ k', k = k' + 2 := ⟨k - 2, by omega⟩
    have hlen := f_or_len hw hR
    have hn := hw.1
    rw [← h2, List.length_append] at hlen
    rcases List.eq_nil_or_concat B with rfl | ⟨B', t, rfl⟩
    · rw [List.reverse_nil, List.flatMap_nil, List.append_nil] at h2
      subst h2
      refine ⟨g, ?_, hA, m_fr.rf⟩
      rw [eV_lineUp_12, List.length_nil, if_pos (show nI 0 ≤ 0 by decide), ite_self]
    · rw [List.concat_eq_append] at *
      have ht : t < fN F := h3 t (List.mem_append_right _ (List.mem_singleton.mpr rfl))
      have h3' : ∀ x ∈ B', x < fN F := fun x hx => h3 x (List.mem_append_left _ hx)
      rw [List.reverse_append, List.reverse_singleton, List.singleton_append, List.flatMap_cons, f_or_eq hw ht, List.cons_append, List.length_cons, List.length_append] at h1 hlen
      rw [List.reverse_append, List.reverse_singleton, List.singleton_append, List.flatMap_cons, f_or_eq hw ht] at h2
      have hkl := fm_len (f := f_or F) (f_kd F t) (fun x hx => f_or_pos hw ((f_kd_mem hw ht).mp hx).1)
      have hbl := fm_len (f := f_or F) B'.reverse (fun x hx => f_or_pos hw (h3' x (List.mem_reverse.mp hx)))
      rw [List.length_reverse] at hbl
      have hB't : g 22 0 B'.length = nI t := hB B'.length t (by rw [List.getElem?_append, if_neg (Nat.lt_irrefl _), Nat.sub_self]; rfl)
      have hA24 : A.length < 24 := by omega
      rw [eV_lineUp_12, if_neg (q_s24 hA24), List.length_append, List.length_singleton, if_neg (nI_nle (by omega) (by omega)), pk_m1, eV_lineUp_18, q_c24 (Nat.le_refl 24) (show B'.length < 24 by omega), cond_true, hA.1, q_c24 (Nat.le_refl 24) hA24, cond_true, nI_clamp (by omega), nI_clamp (by omega), hB't, m_sto_ne (by simp), hA.1, nI_1]
      have hc2 : rC (am_put (am_sto g 21 0 A.length (nI t)) 121 0 (nI (A.length + 1))) i F := hc.cg fun c hc => by rw [m_put_ne (by omega), m_sto_ne (by omega)]
      have hA2 : rV (am_put (am_sto g 21 0 A.length (nI t)) 121 0 (nI (A.length + 1))) (A ++ [t]) := by
        refine ⟨by rw [m_put, List.length_append, List.length_singleton], ?_⟩
        unfold rR
        rw [m_put_ne (by simp)]
        exact hA.2.push
      have hB2 : rR (am_put (am_sto g 21 0 A.length (nI t)) 121 0 (nI (A.length + 1))) 22 B' := by
        unfold rR
        rw [m_put_ne (by simp), m_sto_ne (by simp)]
        exact hB.pre
      obtain ⟨g', k1, k2, k3⟩ := C_openChildren d hc2 hw ht hB2 (by omega)
      rw [k1, bi_some]
      have hc3 : rC g' i F := hc2.fr k3 (fun c hc => by have := hc.1; omega)
      have hA3 : rV g' (A ++ [t]) := by
        refine ⟨?_, hA2.2.fr k3 (fun q => by have := q.1; omega)⟩
        rw [k3 121 0 (fun q => by have := q.1; omega)]
        exact hA2.1
      obtain ⟨g2, l1, l2, l3⟩ := ih k (A ++ [t]) (B' ++ (f_kd F t).reverse) g' (some (.inl (nI t))) (by
        rw [List.reverse_append, List.reverse_reverse, List.flatMap_append, List.length_append]
        omega) (by
        rw [List.reverse_append, List.reverse_reverse, List.flatMap_append, ← h2, List.append_assoc]
        rfl) (fun x hx => by
        rw [List.mem_append, List.mem_reverse] at hx
        rcases hx with hx | hx
        · exact h3' x hx
        · exact ((f_kd_mem hw ht).mp hx).1) hc3 hA3 k2 (by omega)
      rw [show (A ++ [t]).length = A.length + 1 by simp] at l1
      refine ⟨g2, l1, l2, ?_⟩
      exact ((((m_fr.rf.sto ⟨rfl, by omega⟩).put ⟨rfl, by omega⟩).tr (k3.mono fun c j q => ⟨q.2, by have := q.1; omega⟩))).tr l3
theorem C_lineUp {g : am_G} (d : Nat) (hc : rC g i F) (hw : f_wf F) {R : Nat} (hR : R < fN F) :
    ∃ g', am_call (d + 2) 52 [.inr (.inr (20, 0)), .inr (.inr (1, i)), .inl (nI R)] g = some (none, g') ∧ rV g' (f_or F R) ∧ m_fr sV g g' := by
  rw [cV_lineUp, eV_lineUp_0, show am_in (0 : Int32) 24 = true from rfl, cond_true, z0]
  have hc2 : rC (am_sto (am_put g 121 0 0) 22 0 0 (nI R)) i F := hc.cg fun c hc => by rw [m_sto_ne (by omega), m_put_ne (by omega)]
  obtain ⟨g', k1, k2, k3⟩ := C_line_loop (i := i) d hw hR (nI R) 24 99999 [] [R] (am_sto (am_put g 121 0 0) 22 0 0 (nI R)) none (by
    rw [List.reverse_singleton, List.flatMap_singleton]
    exact Nat.le_trans (f_or_len hw hR) hw.1) (by rw [List.reverse_singleton, List.flatMap_singleton]; rfl) (fun x hx => by rw [List.mem_singleton] at hx; subst hx; exact hR) hc2 ⟨by rw [m_sto_ne (by simp), m_put]; rfl, fun k x hk => by simp at hk⟩ (fun k x hk => by
    match k with
    | 0 => cases hk; rw [m_sto, if_pos rfl]
    | k + 1 => cases hk) (by omega)
  exact ⟨g', k1, k2, ((m_fr.rf.put ⟨rfl, by omega⟩).sto ⟨rfl, by omega⟩).tr k3⟩
/-- the first place of a town in a row -/
def l_pl (L : List Nat) (x : Nat) : Option Nat := ff (fun t => decide (L[t]? = some x)) 0 L.length
theorem C_placeOf {g : am_G} (d : Nat) {L : List Nat} (h : rV g L) (hl : L.length ≤ 24) (hL : ∀ x ∈ L, x < 24) {x : Nat} (hx : x < 24) : am_call (d + 1) 54 [.inr (.inr (20, 0)), .inl (nI x)] g = some (some (.inl (eC (l_pl L x))), g) := by
  rw [cV_placeOf, eV_placeOf_0]
  have := for_find (fun k t => am_run (am_call d) 54 k 2 [some (.inr (.inr (20, 0))), some (.inl (nI x)), some (.inl (nI t))] [] g) L.length (fun t => decide (L[t]? = some x)) (fun t => some (some (.inl (nI t)), g)) (some (some (.inl (-1)), g)) (fun k t ht => by
    obtain ⟨y, hy⟩ : ∃ y, L[t]? = some y := ⟨_, List.getElem?_eq_getElem ht⟩
    have hy2 := hL y (List.mem_of_getElem? hy)
    rw [eV_placeOf_2, h.1, if_neg (nI_ge ht (by omega)), q_c24 hl ht, cond_true, nI_clamp (q24 hl ht), h.2 t y hy, nI_1, hy]
    by_cases hyx : y = x
    · rw [if_pos (by rw [hyx]), if_pos (by rw [hyx]; simp)]
    · rw [if_neg (fun q => hyx ((q_inj (by omega) (by omega)).mp q)), if_neg (by simpa using hyx)]) (fun k => by
    rw [eV_placeOf_2, h.1, if_pos (nI_le (Nat.le_refl _) (by omega))]) L.length 0 99999 (by omega) (by omega)
  rw [show (0 : Int32) = nI 0 from rfl, this]
  unfold l_pl
  cases ff (fun t => decide (L[t]? = some x)) 0 L.length with
  | none => rfl
  | some t => rfl
end SV
