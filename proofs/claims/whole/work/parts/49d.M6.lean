/-! ===== the model: its state, banks ===== -/
def kwl : List Int32 := [116, 111, 119, 110, 32, 108, 105, 110, 107, 32, 114, 111, 111, 116, 32, 116, 111, 117, 99, 104, 32, 115, 101, 116, 116, 108, 101, 32, 115, 101, 101, 100, 32]
def rMo (g : am_G) (σ : aS) : Prop := (g 130 0 0 = nI (aB σ).length ∧ ∀ (k : Nat) (x : Int32), (aB σ)[k]? = some x → g 30 0 k = x) ∧ rMa g 0 (aF σ) ∧ ((∀ (k : Nat) (x : Int32), (aL σ)[k]? = some x → g 33 0 k = x) ∧ g 143 0 0 = aE σ) ∧ (g 140 0 0 = nI (aU σ).length ∧ ∀ (j : Nat) (G : fF), (aU σ)[j]? = some G → rMk g (4 + j) G) ∧ (g 141 0 0 = b01 (aI σ).isSome ∧ ∀ G, aI σ = some G → rMk g 2 G) ∧ (g 148 0 0 = b01 (aV σ).isSome ∧ ∀ l, aV σ = some l → ∀ (k : Nat) (x : Int32), l[k]? = some x → g 35 0 k = x) ∧ (g 132 0 0 = aX σ ∧ g 133 0 0 = aY σ) ∧ ∀ (k : Nat) (x : Int32), kwl[k]? = some x → g 31 0 k = x
def sMd : Nat → Nat → Prop := fun c _ => (29 ≤ c ∧ c ≤ 35) ∨ (130 ≤ c ∧ c ≤ 149)
def SimM (o : Option am_R) (g : am_G) (r : Int32 × aS) : Prop := ∃ g', o = some (some (.inl r.1), g') ∧ rMo g' r.2 ∧ m_fr sMd g g'
section MM
variable {g : am_G} {b : Nat} {F : fF} {σ : aS}
theorem rMk.cg {g' : am_G} (h : rMk g b F) (hn : fN F ≤ 24) (he : ∀ k, 121 * b ≤ k → k < 121 * b + 121 → g' 32 0 k = g 32 0 k) : rMk g' b F := by
  refine ⟨by rw [he _ (by omega) (by omega)]; exact h.1, fun t ht => ?_⟩
  rw [he _ (by omega) (by omega), he _ (by omega) (by omega), he _ (by omega) (by omega), he _ (by omega) (by omega), he _ (by omega) (by omega)]
  exact h.2 t ht
theorem rMk.fr {g' : am_G} {b' : Nat} (h : rMk g b F) (hn : fN F ≤ 24) (hB : mB b' g g') (hb : b ≠ b') : rMk g' b F := h.cg hn fun k h1 h2 => hB.2 k (by omega)
theorem mB.M {g' : am_G} (h : mB b g g') : m_fr sMd g g' := fun c j hn => h.1 c j (fun q => hn (by unfold sMd; omega))
/-- all but thrown -/
theorem rMo.put131 (h : rMo g σ) (x : Int32) : rMo (am_put g 131 0 x) σ := by
  obtain ⟨⟨a1, a2⟩, ⟨⟨b1, b2⟩, b3, b4, b5⟩, ⟨c1, c2⟩, ⟨d1, d2⟩, ⟨e1, e2⟩, ⟨f1, f2⟩, ⟨h1, h2⟩, i1⟩ := h
  have z : ∀ c j, c ≠ 131 → am_put g 131 0 x c j = g c j := fun c j hc => m_put_ne (fun q => hc q.1)
  have hk : ∀ (b : Nat) (F : fF), rMk g b F → rMk (am_put g 131 0 x) b F := fun b F q => ⟨by rw [z 32 0 (by omega)]; exact q.1, fun t ht => by rw [z 32 0 (by omega)]; exact q.2 t ht⟩
  exact ⟨⟨by rw [z _ _ (by omega)]; exact a1, fun k x hk => by rw [z _ _ (by omega)]; exact a2 k x hk⟩, ⟨hk _ _ ⟨b1, b2⟩, by rw [z _ _ (by omega)]; exact b3, b4, by rw [z _ _ (by omega)]; exact b5⟩, ⟨fun k x hk => by rw [z _ _ (by omega)]; exact c1 k x hk, by rw [z _ _ (by omega)]; exact c2⟩, ⟨by rw [z _ _ (by omega)]; exact d1, fun j G hj => hk _ _ (d2 j G hj)⟩, ⟨by rw [z _ _ (by omega)]; exact e1, fun G hG => hk _ _ (e2 G hG)⟩, ⟨by rw [z _ _ (by omega)]; exact f1, fun l hl k x hx => by rw [z _ _ (by omega)]; exact f2 l hl k x hx⟩, ⟨by rw [z _ _ (by omega)]; exact h1, by rw [z _ _ (by omega)]; exact h2⟩, fun k x hk => by rw [z _ _ (by omega)]; exact i1 k x hk⟩
theorem m_p131 (x : Int32) : m_fr sMd g (am_put g 131 0 x) := m_fr.put m_fr.rf (by unfold sMd; omega)
theorem M_copy_loop (ct : am_T) {f t : Nat} (hf : f < 24) (ht : t < 24) (hft : f ≠ t) : ∀ (m k fuel : Nat) (g : am_G), k + m = 121 → m < fuel →
    ∃ g', am_run ct 143 fuel 2 [some (.inr (.inr (29, 0))), some (.inl (nI f)), some (.inl (nI t)), some (.inl (nI k))] [] g = some (none, g') ∧ (∀ j, k ≤ j → j < 121 → g' 32 0 (121 * t + j) = g 32 0 (121 * f + j)) ∧ (∀ j, j < k → g' 32 0 (121 * t + j) = g 32 0 (121 * t + j)) ∧ mB t g g'
  | 0, k, fuel, g, hk, hfu => by
    obtain ⟨fuel, rfl⟩ : ∃ k', fuel = k' + 1 := ⟨fuel - 1, by omega⟩
    rw [eM_copyBank_2, show (121 : Int32) = nI 121 from rfl, if_pos (nI_le (by omega) (by omega))]
    exact ⟨g, rfl, fun j h1 h2 => by omega, fun _ _ => rfl, mB.rf⟩
  | m + 1, k, fuel, g, hk, hfu => by
    obtain ⟨fuel, rfl⟩ : ∃ k', fuel = k' + 1 := ⟨fuel - 1, by omega⟩
    rw [eM_copyBank_2, show (121 : Int32) = nI 121 from rfl, if_neg (nI_ge (by omega) (by omega)), pk_mul, pk_mul, nI_add, nI_add, q_in (by omega) (by omega), q_in (by omega) (by omega), cond_true, cond_true, nI_clamp (by omega), nI_clamp (by omega), nI_1]
    obtain ⟨g', k1, k2, k3, k4⟩ := M_copy_loop ct hf ht hft m (k + 1) fuel (mst g t k (g 32 0 (121 * f + k))) (by omega) (by omega)
    have hB := mst_B g (b := t) (k := k) (by omega) (g 32 0 (121 * f + k))
    refine ⟨g', k1, fun j h1 h2 => ?_, fun j hj => ?_, hB.tr k4⟩
    · by_cases e : j = k
      · subst e
        rw [k3 j (by omega), mst_at, if_pos rfl]
      · rw [k2 j (by omega) h2]
        exact hB.2 _ (by omega)
    · rw [k3 j (by omega), mst_at, if_neg (by omega)]
theorem M_copyBank (d : Nat) {f t : Nat} (hf : f < 24) (ht : t < 24) (hft : f ≠ t) (g : am_G) : ∃ g', am_call (d + 1) 143 [.inr (.inr (29, 0)), .inl (nI f), .inl (nI t)] g = some (none, g') ∧ (∀ j, j < 121 → g' 32 0 (121 * t + j) = g 32 0 (121 * f + j)) ∧ mB t g g' := by
  rw [cM_copyBank, eM_copyBank_0]
  obtain ⟨g', k1, k2, k3, k4⟩ := M_copy_loop (am_call d) hf ht hft 121 0 99999 g (by omega) (by omega)
  exact ⟨g', k1, fun j hj => k2 j (by omega) hj, k4⟩
theorem rMk.copy {g' : am_G} {f t : Nat} (h : rMk g f F) (hn : fN F ≤ 24) (hc : ∀ j, j < 121 → g' 32 0 (121 * t + j) = g 32 0 (121 * f + j)) : rMk g' t F := by
  refine ⟨by rw [hc _ (by omega)]; exact h.1, fun x hx => ?_⟩
  rw [hc _ (by omega), hc _ (by omega), hc _ (by omega), hc _ (by omega), hc _ (by omega)]
  exact h.2 x hx
/-- banks of the history and how many -/
def mU (g g' : am_G) : Prop := (∀ c j, ¬ (c = 32 ∧ j = 0) → ¬ (c = 140 ∧ j = 0) → g' c j = g c j) ∧ ∀ k, k < 484 → g' 32 0 k = g 32 0 k
theorem mU.rf : mU g g := ⟨fun _ _ _ _ => rfl, fun _ _ => rfl⟩
theorem mU.tr {g1 g2 : am_G} (h1 : mU g g1) (h2 : mU g1 g2) : mU g g2 := ⟨fun c j h h' => (h2.1 c j h h').trans (h1.1 c j h h'), fun k h => (h2.2 k h).trans (h1.2 k h)⟩
theorem mB.U {g' : am_G} (h : mB b g g') (hb : 4 ≤ b) : mU g g' := ⟨fun c j q _ => h.1 c j q, fun k hk => h.2 k (by omega)⟩
theorem mU.put (x : Int32) : mU g (am_put g 140 0 x) := ⟨fun c j _ q => m_put_ne q, fun k _ => by rw [m_put_ne (by simp)]⟩
theorem mU.M {g' : am_G} (h : mU g g') : m_fr sMd g g' := fun c j hn => h.1 c j (fun q => hn (by unfold sMd; omega)) (fun q => hn (by unfold sMd; omega))
theorem rMa.U {g' : am_G} (h : rMa g 0 F) (hn : fN F ≤ 24) (hU : mU g g') : rMa g' 0 F := ⟨h.1.cg hn (fun k _ h2 => hU.2 k (by omega)), by rw [hU.1 139 0 (by simp) (by simp)]; exact h.2.1, h.2.2.1, by rw [hU.1 142 0 (by simp) (by simp)]; exact h.2.2.2⟩
def uok (U : List fF) : Prop := ∀ (j : Nat) (G : fF), U[j]? = some G → fN G ≤ 24
theorem M_shift (d : Nat) {U : List fF} (hl : U.length = 20) (hok : uok U) : ∀ (m k fuel : Nat) (g : am_G), k + m = 20 → 1 ≤ k → m < fuel → (∀ (j : Nat) (G : fF), U[j + 1]? = some G → j + 1 < k → rMk g (4 + j) G) → (∀ (j : Nat) (G : fF), U[j]? = some G → k ≤ j → rMk g (4 + j) G) → rMk g 0 F → fN F ≤ 24 → g 139 0 0 = nI 0 →
    ∃ g', am_run (am_call (d + 1)) 144 fuel 6 [some (.inr (.inr (29, 0))), some (.inl (nI k))] [] g = some (none, g') ∧ g' 140 0 0 = nI 20 ∧ (∀ (j : Nat) (G : fF), (U.tail ++ [F])[j]? = some G → rMk g' (4 + j) G) ∧ mU g g'
  | 0, k, fuel, g, hk, h1, hf, hA, hB, h0, hn, h139 => by
    obtain ⟨fuel, rfl⟩ : ∃ k', fuel = k' + 1 := ⟨fuel - 1, by omega⟩
    have e : k = 20 := by omega
    subst e
    obtain ⟨g1, a1, a2, a3⟩ := M_copyBank d (f := 0) (t := 23) (by omega) (by omega) (by omega) (am_put g 140 0 (19 : Int32))
    have hp : ∀ b F, rMk g b F → rMk (am_put g 140 0 (19 : Int32)) b F := fun b F q => ⟨by rw [m_put_ne (by simp)]; exact q.1, fun t ht => by rw [m_put_ne (by simp)]; exact q.2 t ht⟩
    have a1' : am_call (d + 1) 143 [.inr (.inr (29, 0)), .inl (0 : Int32), .inl ((4 : Int32) + (am_put g 140 0 (19 : Int32)) 140 0 0)] (am_put g 140 0 (19 : Int32)) = some (none, g1) := by rw [m_put]; exact a1
    have e140 : g1 140 0 0 = 19 := by rw [a3.1 140 0 (by simp), m_put]
    rw [eM_canUndo_6, if_pos (show (20 : Int32) ≤ nI 20 by decide), a1', bv_some, e140]
    refine ⟨_, rfl, by rw [m_put]; rfl, fun j G hj => ?_, ((mU.put _).tr (a3.U (by omega))).tr (mU.put _)⟩
    have hp2 : ∀ b F, rMk g1 b F → rMk (am_put g1 140 0 ((19 : Int32) + 1)) b F := fun b F q => ⟨by rw [m_put_ne (by simp)]; exact q.1, fun t ht => by rw [m_put_ne (by simp)]; exact q.2 t ht⟩
    refine hp2 _ _ ?_
    have htl : U.tail.length = 19 := by rw [List.length_tail]; omega
    by_cases ej : j < 19
    · rw [List.getElem?_append_left (by omega), List.getElem?_tail] at hj
      exact (hp _ _ (hA j G hj (by omega))).fr (hok (j + 1) G hj) a3 (by omega)
    · rw [List.getElem?_append_right (by omega), htl] at hj
      have hj2 := (List.getElem?_eq_some_iff.mp hj).1
      simp at hj2
      have ej2 : j = 19 := by omega
      subst ej2
      simp at hj
      subst hj
      exact (hp _ _ h0).copy hn a2
  | m + 1, k, fuel, g, hk, h1, hf, hA, hB, h0, hn, h139 => by
    obtain ⟨fuel, rfl⟩ : ∃ k', fuel = k' + 1 := ⟨fuel - 1, by omega⟩
    obtain ⟨g1, a1, a2, a3⟩ := M_copyBank d (f := 4 + k) (t := 3 + k) (by omega) (by omega) (by omega) g
    rw [eM_canUndo_6, show (20 : Int32) = nI 20 from rfl, if_neg (nI_ge (by omega) (by omega)), show (4 : Int32) = nI 4 from rfl, show (3 : Int32) = nI 3 from rfl, nI_add, nI_add, a1, bv_some, nI_1]
    obtain ⟨g', k1, k2, k3, k4⟩ := M_shift d hl hok m (k + 1) fuel g1 (by omega) (by omega) (by omega) (fun j G hj hjk => by
      by_cases e : j + 1 = k
      · have hG := hB (j + 1) G hj (by omega)
        have := hG.copy (t := 3 + k) (hok (j + 1) G hj) (g' := g1) (by rw [show 4 + (j + 1) = 4 + k by omega]; exact a2)
        rw [show 4 + j = 3 + k by omega]
        exact this
      · exact (hA j G hj (by omega)).fr (hok (j + 1) G hj) a3 (by omega)) (fun j G hj hjk => (hB j G hj (by omega)).fr (hok j G hj) a3 (by omega)) (h0.fr hn a3 (by omega)) hn (by rw [a3.1 139 0 (by simp)]; exact h139)
    exact ⟨g', k1, k2, k3, (a3.U (by omega)).tr k4⟩
theorem M_canUndo (d : Nat) {U : List fF} (h : rMa g 0 F) (hn : fN F ≤ 24) (hl : U.length ≤ 20) (hok : uok U) (h140 : g 140 0 0 = nI U.length) (hU : ∀ (j : Nat) (G : fF), U[j]? = some G → rMk g (4 + j) G) :
    ∃ g', am_call (d + 2) 144 [.inr (.inr (29, 0))] g = some (none, g') ∧ g' 140 0 0 = nI (h_push U F).length ∧ (∀ (j : Nat) (G : fF), (h_push U F)[j]? = some G → rMk g' (4 + j) G) ∧ mU g g' := by
  rw [cM_canUndo, eM_canUndo_0, h140, show (20 : Int32) = nI 20 from rfl]
  unfold h_push
  by_cases e : U.length < 20
  · obtain ⟨g1, a1, a2, a3⟩ := M_copyBank d (f := 0) (t := 4 + U.length) (by omega) (by omega) (by omega) g
    have e140 : g1 140 0 0 = nI U.length := by rw [a3.1 140 0 (by simp)]; exact h140
    rw [if_neg (by rw [nI_eq (by omega) (by omega)]; omega), if_pos e, show (4 : Int32) = nI 4 from rfl, nI_add, show (0 : Int32) = nI 0 from rfl, a1, bv_some, e140, nI_1]
    refine ⟨_, rfl, by rw [m_put, List.length_append]; rfl, fun j G hj => ?_, (a3.U (by omega)).tr (mU.put _)⟩
    have hp2 : ∀ b F x, rMk g1 b F → rMk (am_put g1 140 0 x) b F := fun b F x q => ⟨by rw [m_put_ne (by simp)]; exact q.1, fun t ht => by rw [m_put_ne (by simp)]; exact q.2 t ht⟩
    refine hp2 _ _ _ ?_
    by_cases ej : j < U.length
    · rw [List.getElem?_append_left ej] at hj
      exact (hU j G hj).fr (hok j G hj) a3 (by omega)
    · rw [List.getElem?_append_right (by omega)] at hj
      have hj2 := (List.getElem?_eq_some_iff.mp hj).1
      simp at hj2
      have ej2 : j = U.length := by omega
      subst ej2
      simp at hj
      subst hj
      exact h.1.copy hn a2
  · have e20 : U.length = 20 := by omega
    rw [if_pos (by rw [e20]), if_neg e]
    obtain ⟨g', k1, k2, k3, k4⟩ := M_shift d e20 hok 19 1 99999 g (by omega) (by omega) (by omega) (fun j G hj hjk => by omega) (fun j G hj _ => hU j G hj) h.1 hn h.2.1
    refine ⟨g', k1, ?_, k3, k4⟩
    rw [k2, List.length_append, List.length_tail, e20]
    rfl
theorem a_ok.uok (h : a_ok σ) : uok (aU σ) := fun j G hj => (h.2.2.1 G (List.mem_of_getElem? hj)).1.1
/-- behind remembering, what is done in the bank in use -/
theorem rMo.rem (d : Nat) (h : rMo g σ) (ho : a_ok σ) : ∃ g1, am_call (d + 2) 144 [.inr (.inr (29, 0))] g = some (none, g1) ∧ rMa g1 0 (aF σ) ∧ mU g g1 ∧ ∀ g2 F', mB 0 g1 g2 → rMa g2 0 F' → rMo g2 (a_do σ F') := by
  obtain ⟨⟨a1, a2⟩, hb, ⟨c1, c2⟩, ⟨d1, d2⟩, ⟨e1, e2⟩, ⟨f1, f2⟩, ⟨h1, h2⟩, i1⟩ := h
  obtain ⟨g1, k1, k2, k3, k4⟩ := M_canUndo d hb ho.1.1 ho.2.2.2.2.2.2.1 ho.uok d1 d2
  refine ⟨g1, k1, hb.U ho.1.1 k4, k4, fun g2 F' hB hF => ?_⟩
  have z : ∀ c j, ¬ (c = 32 ∧ j = 0) → ¬ (c = 140 ∧ j = 0) → g2 c j = g c j := fun c j q q' => (hB.1 c j q).trans (k4.1 c j q q')
  have hlp : ∀ (j : Nat) (G : fF), (h_push (aU σ) (aF σ))[j]? = some G → fN G ≤ 24 := fun j G hj => by
    have := List.mem_of_getElem? hj
    unfold h_push at this
    split at this
    · rcases List.mem_append.mp this with q | q
      · exact (ho.2.2.1 G q).1.1
      · rw [List.mem_singleton.mp q]; exact ho.1.1
    · rcases List.mem_append.mp this with q | q
      · exact (ho.2.2.1 G (List.mem_of_mem_tail q)).1.1
      · rw [List.mem_singleton.mp q]; exact ho.1.1
  refine ⟨⟨by rw [z _ _ (by simp) (by simp)]; exact a1, fun k x hk => by rw [z _ _ (by simp) (by simp)]; exact a2 k x hk⟩, hF, ⟨fun k x hk => by rw [z _ _ (by simp) (by simp)]; exact c1 k x hk, by rw [z _ _ (by simp) (by simp)]; exact c2⟩, ⟨by rw [hB.1 140 0 (by simp)]; exact k2, fun j G hj => (k3 j G hj).fr (hlp j G hj) hB (by omega)⟩, ⟨by rw [z _ _ (by simp) (by simp)]; exact e1, fun G hG => ?_⟩, ⟨by rw [z _ _ (by simp) (by simp)]; exact f1, fun l hl k x hx => by rw [z _ _ (by simp) (by simp)]; exact f2 l hl k x hx⟩, ⟨by rw [z _ _ (by simp) (by simp)]; exact h1, by rw [z _ _ (by simp) (by simp)]; exact h2⟩, fun k x hk => by rw [z _ _ (by simp) (by simp)]; exact i1 k x hk⟩
  have hG24 := (ho.2.2.2.1 G hG).1.1
  exact ((e2 G hG).cg hG24 (fun k _ q2 => k4.2 k (by omega))).fr hG24 hB (by omega)
end MM
