/-! ===== ways: all of its links longer, with less room ===== -/
def f_upd (f : Nat → Nat) (L : List Nat) (x : Int) : Nat → Nat := fun z => if z ∈ L then ((f z : Int) + x).toNat else f z

def f_wL (F : fF) (v : Nat → Nat) : fF := (fN F, fP F, fQ F, v, fC F, fV F, fS F)
theorem rC.f_wL {g : am_G} {i : Nat} {F : fF} {v v' : Nat → Nat} (h : rC g i (f_wL F v)) {y l : Nat} (hv : ∀ z, v' z = if z = y then l else v z) : rC (am_sto g 4 i y (nI l)) i (f_wL F v') := by
  refine ⟨h.1, h.2.1, fun t ht => ?_⟩
  obtain ⟨h1, h2, h3, h4⟩ := h.2.2 t ht
  refine ⟨h1, h2, fun hp => ?_, h4⟩
  obtain ⟨h5, h6⟩ := h3 hp
  have e4 : am_sto g 4 i y (nI l) 4 i t = nI (v' t) := by
    rw [m_sto, hv t]
    split
    · rfl
    · exact h5
  exact ⟨e4, h6⟩
theorem C_addToAll_4 {g : am_G} {i w : Nat} {F : fF} (d : Nat) (h : rC g i F) (hw : f_wf F) {L : List Nat} (hY : rY g w L) (hL : ∀ x ∈ L, x < fN F) (hl : L.length ≤ 24) (hnd : L.Nodup) (hup : ∀ (k x y : Nat), L[k]? = some x → L[k + 1]? = some y → fP F y = some x) {x : Int32} (hx : -9999 ≤ x.toInt ∧ x.toInt ≤ 9999) (hin : ∀ z ∈ L.tail, 1 ≤ (fL F z : Int) + x.toInt ∧ (fL F z : Int) + x.toInt ≤ 9999) :
    ∃ g', am_call (d + 3) 83 [.inr (.inr (16, w)), .inr (.inr (1, i)), .inr (.inr (4, i)), .inl x] g = some (none, g') ∧ rC g' i (f_wL F (f_upd (fL F) L.tail x.toInt)) ∧ m_fr (sF i) g g' := by
  rw [cY_addToAll_4, eY_addToAll_4_0]
  have hW : ∀ t, f_wf (f_wL F (f_upd (fL F) (L.tail.take t) x.toInt)) := fun t => by
    refine ⟨hw.1, hw.2.1, hw.2.2.1, fun z hz hp => ?_⟩
    obtain ⟨k1, k2, k3⟩ := hw.2.2.2 z hz hp
    have key : 1 ≤ f_upd (fL F) (L.tail.take t) x.toInt z ∧ f_upd (fL F) (L.tail.take t) x.toInt z ≤ 9999 := by
      unfold f_upd
      split
      · rename_i hzin
        have := hin z (List.mem_of_mem_take hzin)
        omega
      · exact ⟨k1, k2⟩
    exact ⟨key.1, key.2, k3⟩
  obtain ⟨g', h1, h2, h3⟩ := for_mem (fun k (_ : Unit) g (_ : Option am_V) t => am_run (am_call (d + 2)) 83 k 2 [some (.inr (.inr (16, w))), some (.inr (.inr (1, i))), some (.inr (.inr (4, i))), some (.inl x), some (.inl (nI t))] [] g) (L.length - 1) (fun b _ => b) (fun _ g => some (none, g)) (fun _ g' t => rC g' i (f_wL F (f_upd (fL F) (L.tail.take t) x.toInt)) ∧ m_fr (sF i) g g') (fun k b g0 o t ht hi => by
    obtain ⟨k1, k2⟩ := hi
    have hY0 : rY g0 w L := hY.sF k2
    obtain ⟨a, y, ha, hy⟩ := get2 (L := L) (k := t) (by omega)
    have hpy := hup t a y ha hy
    have han := hL a (List.mem_of_getElem? ha)
    have hyn := hL y (List.mem_of_getElem? hy)
    have hlk : f_lk (fP F) a y := Or.inr hpy
    have hlw : f_lw (fP F) a y = y := by
      unfold f_lw
      rw [if_neg (fun q => ?_)]
      obtain ⟨-, dd, hdd⟩ := hw.2.1
      have z1 := hdd y a hyn hpy
      have z2 := hdd a y han q
      omega
    have hyt : L.tail[t]? = some y := by rw [List.getElem?_tail]; exact hy
    have hnt : y ∉ L.tail.take t := fun hmem => by
      obtain ⟨j, hj⟩ := List.getElem?_of_mem hmem
      have hjl := (List.getElem?_eq_some_iff.mp hj).1
      rw [List.length_take] at hjl
      rw [List.getElem?_take] at hj
      have hjt : j < t := by omega
      rw [if_pos hjt, List.getElem?_tail] at hj
      have := (List.getElem?_inj (i := j + 1) (j := t + 1) (by have := (List.getElem?_eq_some_iff.mp hj).1; exact this) hnd).mp (hj.trans hy.symm)
      omega
    have hval : f_upd (fL F) (L.tail.take t) x.toInt y = fL F y := by unfold f_upd; rw [if_neg hnt]
    have hle := hw.2.2.2 y hyn (by rw [hpy]; simp)
    have hiny := hin y (List.mem_of_getElem? hyt)
    have hn0 : g0 119 w 0 = nI L.length := hY0.1
    have hlow : am_call (d + 2) 75 [.inr (.inr (16, w)), .inr (.inr (1, i)), .inl (nI t)] g0 = some (some (.inl (nI (f_lw (fP F) a y))), g0) := C_lowerOfLink d k1 (hW t) hY0 hL hl ha hy hlk
    have hgv : g0 4 i y = nI (fL F y) := by
      rw [← hval]
      exact k1.l hyn (by show fP F y ≠ none; rw [hpy]; simp)
    have hnew : nI (fL F y) + x = nI (((fL F y : Int) + x.toInt).toNat) := by
      rw [q_eq, q_addInt (by omega) hx, nI_toInt (by omega)]
      omega
    refine ⟨am_sto g0 4 i y (nI (((fL F y : Int) + x.toInt).toNat)), none, ?_, ?_, k2.sto (sF_in (by omega))⟩
    · rw [eY_addToAll_4_2, hn0, nI_1, if_neg (nI_ge (by omega) (by omega)), hlow, bi_some, hlw, q_c24 hw.1 hyn, cond_true, cond_true, nI_clamp (q24 hw.1 hyn), hgv, hnew]
    · refine k1.f_wL (fun z => ?_)
      unfold f_upd
      rw [List.take_add_one, hyt]
      by_cases ez : z = y
      · subst ez
        rw [if_pos (by simp), if_pos rfl]
      · rw [if_neg ez]
        simp [ez]) (fun k b g0 o hi => by
    have hn0 : g0 119 w 0 = nI L.length := (hY.sF hi.2).1
    rw [eY_addToAll_4_2, hn0, nI_1, if_pos (nI_le (by omega) (by omega))]) (L.length - 1) 0 () g none 99999 (by omega) (by omega) ⟨by
      have e0 : f_upd (fL F) (L.tail.take 0) x.toInt = fL F := funext fun z => by unfold f_upd; simp
      rw [e0]
      exact h, m_fr.rf⟩
  refine ⟨g', h1, ?_, h3⟩
  rw [List.take_of_length_le (by rw [List.length_tail]; exact Nat.le_refl _)] at h2
  exact h2

def f_wC (F : fF) (v : Nat → Nat) : fF := (fN F, fP F, fQ F, fL F, v, fV F, fS F)
theorem rC.f_wC {g : am_G} {i : Nat} {F : fF} {v v' : Nat → Nat} (h : rC g i (f_wC F v)) {y l : Nat} (hv : ∀ z, v' z = if z = y then l else v z) : rC (am_sto g 5 i y (nI l)) i (f_wC F v') := by
  refine ⟨h.1, h.2.1, fun t ht => ?_⟩
  obtain ⟨h1, h2, h3, h4⟩ := h.2.2 t ht
  refine ⟨h1, h2, fun hp => ?_, h4⟩
  obtain ⟨h5, h6⟩ := h3 hp
  have e4 : am_sto g 5 i y (nI l) 5 i t = nI (v' t) := by
    rw [m_sto, hv t]
    split
    · rfl
    · exact h6
  exact ⟨h5, e4⟩
theorem C_addToAll_5 {g : am_G} {i w : Nat} {F : fF} (d : Nat) (h : rC g i F) (hw : f_wf F) {L : List Nat} (hY : rY g w L) (hL : ∀ x ∈ L, x < fN F) (hl : L.length ≤ 24) (hnd : L.Nodup) (hup : ∀ (k x y : Nat), L[k]? = some x → L[k + 1]? = some y → fP F y = some x) {x : Int32} (hx : -9999 ≤ x.toInt ∧ x.toInt ≤ 9999) (hin : ∀ z ∈ L.tail, 0 ≤ (fC F z : Int) + x.toInt ∧ (fC F z : Int) + x.toInt ≤ 9999) :
    ∃ g', am_call (d + 3) 83 [.inr (.inr (16, w)), .inr (.inr (1, i)), .inr (.inr (5, i)), .inl x] g = some (none, g') ∧ rC g' i (f_wC F (f_upd (fC F) L.tail x.toInt)) ∧ m_fr (sF i) g g' := by
  rw [cY_addToAll_5, eY_addToAll_5_0]
  have hW : ∀ t, f_wf (f_wC F (f_upd (fC F) (L.tail.take t) x.toInt)) := fun t => by
    refine ⟨hw.1, hw.2.1, hw.2.2.1, fun z hz hp => ?_⟩
    obtain ⟨k1, k2, k3⟩ := hw.2.2.2 z hz hp
    have key : 0 ≤ f_upd (fC F) (L.tail.take t) x.toInt z ∧ f_upd (fC F) (L.tail.take t) x.toInt z ≤ 9999 := by
      unfold f_upd
      split
      · rename_i hzin
        have := hin z (List.mem_of_mem_take hzin)
        omega
      · exact ⟨Nat.zero_le _, k3⟩
    exact ⟨k1, k2, key.2⟩
  obtain ⟨g', h1, h2, h3⟩ := for_mem (fun k (_ : Unit) g (_ : Option am_V) t => am_run (am_call (d + 2)) 83 k 2 [some (.inr (.inr (16, w))), some (.inr (.inr (1, i))), some (.inr (.inr (5, i))), some (.inl x), some (.inl (nI t))] [] g) (L.length - 1) (fun b _ => b) (fun _ g => some (none, g)) (fun _ g' t => rC g' i (f_wC F (f_upd (fC F) (L.tail.take t) x.toInt)) ∧ m_fr (sF i) g g') (fun k b g0 o t ht hi => by
    obtain ⟨k1, k2⟩ := hi
    have hY0 : rY g0 w L := hY.sF k2
    obtain ⟨a, y, ha, hy⟩ := get2 (L := L) (k := t) (by omega)
    have hpy := hup t a y ha hy
    have han := hL a (List.mem_of_getElem? ha)
    have hyn := hL y (List.mem_of_getElem? hy)
    have hlk : f_lk (fP F) a y := Or.inr hpy
    have hlw : f_lw (fP F) a y = y := by
      unfold f_lw
      rw [if_neg (fun q => ?_)]
      obtain ⟨-, dd, hdd⟩ := hw.2.1
      have z1 := hdd y a hyn hpy
      have z2 := hdd a y han q
      omega
    have hyt : L.tail[t]? = some y := by rw [List.getElem?_tail]; exact hy
    have hnt : y ∉ L.tail.take t := fun hmem => by
      obtain ⟨j, hj⟩ := List.getElem?_of_mem hmem
      have hjl := (List.getElem?_eq_some_iff.mp hj).1
      rw [List.length_take] at hjl
      rw [List.getElem?_take] at hj
      have hjt : j < t := by omega
      rw [if_pos hjt, List.getElem?_tail] at hj
      have := (List.getElem?_inj (i := j + 1) (j := t + 1) (by have := (List.getElem?_eq_some_iff.mp hj).1; exact this) hnd).mp (hj.trans hy.symm)
      omega
    have hval : f_upd (fC F) (L.tail.take t) x.toInt y = fC F y := by unfold f_upd; rw [if_neg hnt]
    have hle := hw.2.2.2 y hyn (by rw [hpy]; simp)
    have hiny := hin y (List.mem_of_getElem? hyt)
    have hn0 : g0 119 w 0 = nI L.length := hY0.1
    have hlow : am_call (d + 2) 75 [.inr (.inr (16, w)), .inr (.inr (1, i)), .inl (nI t)] g0 = some (some (.inl (nI (f_lw (fP F) a y))), g0) := C_lowerOfLink d k1 (hW t) hY0 hL hl ha hy hlk
    have hgv : g0 5 i y = nI (fC F y) := by
      rw [← hval]
      exact k1.c hyn (by show fP F y ≠ none; rw [hpy]; simp)
    have hnew : nI (fC F y) + x = nI (((fC F y : Int) + x.toInt).toNat) := by
      rw [q_eq, q_addInt (by omega) hx, nI_toInt (by omega)]
      omega
    refine ⟨am_sto g0 5 i y (nI (((fC F y : Int) + x.toInt).toNat)), none, ?_, ?_, k2.sto (sF_in (by omega))⟩
    · rw [eY_addToAll_5_2, hn0, nI_1, if_neg (nI_ge (by omega) (by omega)), hlow, bi_some, hlw, q_c24 hw.1 hyn, cond_true, cond_true, nI_clamp (q24 hw.1 hyn), hgv, hnew]
    · refine k1.f_wC (fun z => ?_)
      unfold f_upd
      rw [List.take_add_one, hyt]
      by_cases ez : z = y
      · subst ez
        rw [if_pos (by simp), if_pos rfl]
      · rw [if_neg ez]
        simp [ez]) (fun k b g0 o hi => by
    have hn0 : g0 119 w 0 = nI L.length := (hY.sF hi.2).1
    rw [eY_addToAll_5_2, hn0, nI_1, if_pos (nI_le (by omega) (by omega))]) (L.length - 1) 0 () g none 99999 (by omega) (by omega) ⟨by
      have e0 : f_upd (fC F) (L.tail.take 0) x.toInt = fC F := funext fun z => by unfold f_upd; simp
      rw [e0]
      exact h, m_fr.rf⟩
  refine ⟨g', h1, ?_, h3⟩
  rw [List.take_of_length_le (by rw [List.length_tail]; exact Nat.le_refl _)] at h2
  exact h2
