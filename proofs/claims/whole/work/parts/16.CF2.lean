/-! ===== Forest: counts ===== -/
theorem for_mem {β R : Type} (run : Nat → β → am_G → Option am_V → Nat → R) (n : Nat) (step : β → Nat → β) (fin : β → am_G → R) (I : β → am_G → Nat → Prop)
    (hs : ∀ k b g o t, t < n → I b g t → ∃ g' o', run (k + 1) b g o t = run k (step b t) g' o' (t + 1) ∧ I (step b t) g' (t + 1)) (hx : ∀ k b g o, I b g n → run (k + 1) b g o n = fin b g) :
    ∀ (m t : Nat) (b : β) (g : am_G) (o : Option am_V) (k : Nat), t + m = n → m < k → I b g t → ∃ g', run k b g o t = fin (fo step b t m) g' ∧ I (fo step b t m) g' n
  | 0, t, b, g, o, k, h, hk, hi => by
    obtain ⟨k, rfl⟩ : ∃ k', k = k' + 1 := ⟨k - 1, by omega⟩
    have e : t = n := by omega
    subst e
    exact ⟨g, hx k b g o hi, hi⟩
  | m + 1, t, b, g, o, k, h, hk, hi => by
    obtain ⟨k, rfl⟩ : ∃ k', k = k' + 1 := ⟨k - 1, by omega⟩
    obtain ⟨g', o', h1, h2⟩ := hs k b g o t (by omega) hi
    rw [h1, fo]
    exact for_mem run n step fin I hs hx m (t + 1) (step b t) g' o' k (by omega) (by omega) h2
/-- as for_mem, with an invariant, the memory stays -/
theorem for_inv {β R : Type} (run : Nat → β → Option am_V → Nat → R) (n : Nat) (step : β → Nat → β) (fin : β → R) (I : β → Nat → Prop)
    (hs : ∀ k b o t, t < n → I b t → (∃ o', run (k + 1) b o t = run k (step b t) o' (t + 1)) ∧ I (step b t) (t + 1)) (hx : ∀ k b o, I b n → run (k + 1) b o n = fin b) {m t : Nat} {b : β} {o : Option am_V} {k : Nat} (h : t + m = n) (hk : m < k) (hi : I b t) : run k b o t = fin (fo step b t m) ∧ I (fo step b t m) n := by
  obtain ⟨-, h1, h2⟩ := for_mem (fun k b _ o t => run k b o t) n step (fun b _ => fin b) (fun b _ t => I b t) (fun k b g o t ht hi => by
    obtain ⟨⟨o', h1⟩, h2⟩ := hs k b o t ht hi
    exact ⟨g, o', h1, h2⟩) (fun k b g o hi => hx k b o hi) m t b (fun _ _ _ => 0) o k h hk hi
  exact ⟨h1, h2⟩
theorem fo_le {f : Nat → Nat → Nat} (hf : ∀ b t, f b t ≤ b + 1) : ∀ (m b t : Nat), fo f b t m ≤ b + m
  | 0, _, _ => Nat.le_refl _
  | m + 1, b, t => by
    have h1 := fo_le hf m (f b t) (t + 1)
    have h2 := hf b t
    rw [fo]
    omega
theorem fo_ge {f : Nat → Nat → Nat} (hf : ∀ b t, b ≤ f b t) : ∀ (m b t : Nat), b ≤ fo f b t m
  | 0, _, _ => Nat.le_refl _
  | m + 1, b, t => by
    have h1 := fo_ge hf m (f b t) (t + 1)
    have h2 := hf b t
    rw [fo]
    omega
/-- how many of the towns hold p -/
def ct (p : Nat → Bool) (n : Nat) : Nat := fo (fun b t => if p t then b + 1 else b) 0 0 n
theorem ct_le (p : Nat → Bool) (n : Nat) : ct p n ≤ n := by
  have := fo_le (f := fun b t => if p t then b + 1 else b) (fun b t => by split <;> omega) n 0 0
  unfold ct
  omega
theorem ct_cg {p q : Nat → Bool} {n : Nat} (h : ∀ j, j < n → p j = q j) : ct p n = ct q n := fo_cg fun b j _ hj => by rw [h j (by omega)]
def f_sz (F : fF) (x : Nat) : Nat := ct (fun t => decide (x ∈ f_a (fP F) t)) (fN F)
theorem f_sz_le (F : fF) (x : Nat) : f_sz F x ≤ fN F := ct_le _ _
def f_un (F : fF) (x : Nat) : Int32 := fo (fun b t => if x ∈ f_a (fP F) t then b + fV F t else b) 0 0 (fN F)
def f_ch (F : fF) (x : Nat) : Nat := ct (fun t => decide (fP F t = some x)) (fN F)
def f_hv (F : fF) (x : Nat) : Option Nat := ff (fun t => decide (fP F t = some x ∧ f_sz F x < 2 * f_sz F t)) 0 (fN F)
def f_po (F : fF) : Nat := ct (fun t => decide (f_hv F t ≠ none ∧ fQ F t ≠ f_hv F t)) (fN F)
def f_pa (F : fF) (k : Nat) : Nat := ct (fun t => decide (fP F t = none ∨ k < fL F t)) (fN F)
def f_hds (F : fF) : Nat := ct (fun t => decide (fQ F t = none)) (fN F)
section RC
variable {g : am_G} {i : Nat} {F : fF}
theorem rC.cg {g' : am_G} (h : rC g i F) (he : ∀ c, (2 ≤ c ∧ c ≤ 6 ∨ c = 102 ∨ c = 103) → g' c i = g c i) : rC g' i F := by
  refine ⟨by rw [he 102 (by omega)]; exact h.1, by rw [he 103 (by omega)]; exact h.2.1, fun t ht => ?_⟩
  rw [he 2 (by omega), he 3 (by omega), he 4 (by omega), he 5 (by omega), he 6 (by omega)]
  exact h.2.2 t ht
theorem C_trees (d : Nat) (h : rC g i F) (hw : f_wf F) : am_call (d + 1) 20 [.inr (.inr (1, i))] g = some (some (.inl (nI (ct (fun t => decide (fP F t = none)) (fN F)))), g) := by
  have hn := hw.1
  rw [cF_trees, eF_trees_0]
  exact (for_loop (fun k b t => am_run (am_call d) 20 k 4 [some (.inr (.inr (1, i))), some (.inl (nI b)), some (.inl (nI t))] [] g) (fN F) (fun b t => if decide (fP F t = none) then b + 1 else b) (fun b => some (some (.inl (nI b)), g)) (fun k b t ht => by
    rw [eF_trees_4, h.1, if_neg (nI_ge ht (by omega)), q_c24 hn ht, cond_true, nI_clamp (q24 hn ht), h.p ht, nI_1, nI_1]
    by_cases hp : fP F t = none
    · rw [if_pos ((eC_m1 (hw.p31 ht)).mpr hp), if_pos (decide_eq_true hp)]
    · rw [if_neg (fun q => hp ((eC_m1 (hw.p31 ht)).mp q)), if_neg (by simpa using hp)]) (fun k b => by
    rw [eF_trees_4, h.1, if_pos (nI_le (Nat.le_refl _) (by omega))]) (fN F) 0 0 99999 (by omega) (by omega))
theorem q_dec {a : Nat} (h : 0 < a) : nI a + (-1) = nI (a - 1) := by
  obtain ⟨b, rfl⟩ : ∃ b, a = b + 1 := ⟨a - 1, by omega⟩
  exact pk_m1 b
theorem C_chains (d : Nat) (h : rC g i F) (hw : f_wf F) : am_call (d + 1) 21 [.inr (.inr (1, i))] g = some (some (.inl (nI (f_hds F))), g) := by
  have hn := hw.1
  rw [cF_chains, eF_chains_0, h.1]
  have key := for_loop (fun k b t => am_run (am_call d) 21 k 5 [some (.inr (.inr (1, i))), some (.inl (nI (b + (fN F - t)))), some (.inl (nI t))] [] g) (fN F) (fun b t => if decide (fQ F t = none) then b + 1 else b) (fun b => some (some (.inl (nI b)), g)) (fun k b t ht => by
    rw [eF_chains_5, h.1, if_neg (nI_ge ht (by omega)), q_c24 hn ht, cond_true, nI_clamp (q24 hn ht), h.q ht, nI_1]
    by_cases hp : fQ F t = none
    · rw [if_pos ((eC_m1 (hw.q31 ht)).mpr hp), if_pos (decide_eq_true hp), show b + 1 + (fN F - (t + 1)) = b + (fN F - t) by omega]
    · rw [if_neg (fun q => hp ((eC_m1 (hw.q31 ht)).mp q)), if_neg (by simpa using hp), q_dec (by omega), show b + (fN F - t) - 1 = b + (fN F - (t + 1)) by omega]) (fun k b => by
    rw [eF_chains_5, h.1, if_pos (nI_le (Nat.le_refl _) (by omega)), Nat.sub_self, Nat.add_zero]) (fN F) 0 0 99999 (by omega) (by omega)
  rw [show 0 + (fN F - 0) = fN F by omega] at key
  exact key
theorem C_partsBy (d : Nat) (h : rC g i F) (hw : f_wf F) {K : Nat} (hK : K < 2 ^ 31) : am_call (d + 1) 33 [.inr (.inr (1, i)), .inl (nI K)] g = some (some (.inl (nI (f_pa F K))), g) := by
  have hn := hw.1
  rw [cF_partsBy, eF_partsBy_0, h.1]
  have key := for_loop (fun k b t => am_run (am_call d) 33 k 5 [some (.inr (.inr (1, i))), some (.inl (nI K)), some (.inl (nI (b + (fN F - t)))), some (.inl (nI t))] [] g) (fN F) (fun b t => if decide (fP F t = none ∨ K < fL F t) then b + 1 else b) (fun b => some (some (.inl (nI b)), g)) (fun k b t ht => by
    rw [eF_partsBy_5, h.1, if_neg (nI_ge ht (by omega)), q_c24 hn ht, cond_true, cond_true, nI_clamp (q24 hn ht), h.p ht, nI_1]
    by_cases hp : fP F t = none
    · rw [if_pos ((eC_m1 (hw.p31 ht)).mpr hp), if_pos (decide_eq_true (Or.inl hp)), show b + 1 + (fN F - (t + 1)) = b + (fN F - t) by omega]
    · have hl := hw.2.2.2 t ht hp
      rw [if_neg (fun q => hp ((eC_m1 (hw.p31 ht)).mp q)), h.l ht hp]
      by_cases hk : K < fL F t
      · rw [if_pos (nI_lt hk (by omega)), if_pos (decide_eq_true (Or.inr hk)), show b + 1 + (fN F - (t + 1)) = b + (fN F - t) by omega]
      · rw [if_neg (nI_nlt (by omega) hK), if_neg (by simp [hp, hk]), q_dec (by omega), show b + (fN F - t) - 1 = b + (fN F - (t + 1)) by omega]) (fun k b => by
    rw [eF_partsBy_5, h.1, if_pos (nI_le (Nat.le_refl _) (by omega)), Nat.sub_self, Nat.add_zero]) (fN F) 0 0 99999 (by omega) (by omega)
  rw [show 0 + (fN F - 0) = fN F by omega] at key
  exact key
theorem C_childrenOf (d : Nat) (h : rC g i F) (hw : f_wf F) {x : Nat} (hx : x < fN F) : am_call (d + 1) 25 [.inr (.inr (1, i)), .inl (nI x)] g = some (some (.inl (nI (f_ch F x))), g) := by
  have hn := hw.1
  rw [cF_childrenOf, eF_childrenOf_0]
  exact for_loop (fun k b t => am_run (am_call d) 25 k 4 [some (.inr (.inr (1, i))), some (.inl (nI x)), some (.inl (nI b)), some (.inl (nI t))] [] g) (fN F) (fun b t => if decide (fP F t = some x) then b + 1 else b) (fun b => some (some (.inl (nI b)), g)) (fun k b t ht => by
    rw [eF_childrenOf_4, h.1, if_neg (nI_ge ht (by omega)), q_c24 hn ht, cond_true, nI_clamp (q24 hn ht), h.p ht, nI_1, nI_1]
    by_cases hp : fP F t = some x
    · rw [if_pos ((eC_inj (hw.p31 ht) (q24 hn hx)).mpr hp), if_pos (decide_eq_true hp)]
    · rw [if_neg (fun q => hp ((eC_inj (hw.p31 ht) (q24 hn hx)).mp q)), if_neg (by simpa using hp)]) (fun k b => by
    rw [eF_childrenOf_4, h.1, if_pos (nI_le (Nat.le_refl _) (by omega))]) (fN F) 0 0 99999 (by omega) (by omega)
theorem C_valuesUnder (d : Nat) (h : rC g i F) (hw : f_wf F) {x : Nat} (hx : x < fN F) : am_call (d + 2) 24 [.inr (.inr (1, i)), .inl (nI x)] g = some (some (.inl (f_un F x)), g) := by
  have hn := hw.1
  rw [cF_valuesUnder, eF_valuesUnder_0]
  exact for_loop (fun k b t => am_run (am_call (d + 1)) 24 k 4 [some (.inr (.inr (1, i))), some (.inl (nI x)), some (.inl b), some (.inl (nI t))] [] g) (fN F) (fun b t => if x ∈ f_a (fP F) t then b + fV F t else b) (fun b => some (some (.inl b), g)) (fun k b t ht => by
    rw [eF_valuesUnder_4, h.1, if_neg (nI_ge ht (by omega)), C_isOver d h hw ht (q24 hn hx), bi_some, q_c24 hn ht, cond_true, nI_clamp (q24 hn ht), h.v ht, nI_1]
    by_cases hp : x ∈ f_a (fP F) t
    · rw [if_pos hp, if_pos hp, if_neg (by decide)]
    · rw [if_neg hp, if_neg hp, if_pos rfl]) (fun k b => by
    rw [eF_valuesUnder_4, h.1, if_pos (nI_le (Nat.le_refl _) (by omega))]) (fN F) 0 0 99999 (by omega) (by omega)
theorem C_switches_loop (ct : am_T) (h : rC g i F) (hw : f_wf F) (x1 : Int32) : ∀ (k x step c : Nat), x < fN F → step + (f_a (fP F) x).length ≤ 24 → (f_a (fP F) x).length ≤ k →
    am_run ct 29 k 11 [some (.inr (.inr (1, i))), some (.inl x1), some (.inl (nI c)), some (.inl (nI x)), some (.inl (eC (fP F x))), some (.inl (nI step))] [] g = some (some (.inl (nI (c + p_cnt (fQ F) (f_a (fP F) x)))), g)
  | 0, x, step, c, hx, h1, h2 => by have := f_a_pos (fP F) x; omega
  | k + 1, x, step, c, hx, h1, h2 => by
    have hl := f_a_pos (fP F) x
    rw [eF_switchesTo_11, if_neg (q_s24 (by omega))]
    cases hp : fP F x with
    | none => rw [hw.an hx hp, eC_none, if_pos rfl]; rfl
    | some y =>
      have hy := hw.p hx hp
      rw [hw.as hx hp] at h1 h2 ⊢
      rw [List.length_cons] at h1 h2
      rw [eC_some, if_neg (q_ne1 (q24 hw.1 hy)), q_c24 hw.1 hy, cond_true, cond_true, nI_clamp (q24 hw.1 hy), h.q hy, h.p hy, p_cnt_as, nI_1, nI_1]
      by_cases e : fQ F y = some x
      · rw [if_pos ((eC_inj (hw.q31 hy) (q24 hw.1 hx)).mpr e), if_pos e, Nat.zero_add]
        exact C_switches_loop ct h hw x1 k y (step + 1) c hy (by omega) (by omega)
      · rw [if_neg (fun q => e ((eC_inj (hw.q31 hy) (q24 hw.1 hx)).mp q)), if_neg e, cond_true, ← Nat.add_assoc]
        exact C_switches_loop ct h hw x1 k y (step + 1) (c + 1) hy (by omega) (by omega)
theorem C_switchesTo (d : Nat) (h : rC g i F) (hw : f_wf F) {t : Nat} (ht : t < fN F) : am_call (d + 1) 29 [.inr (.inr (1, i)), .inl (nI t)] g = some (some (.inl (nI (p_cnt (fQ F) (f_a (fP F) t)))), g) := by
  have hl := hw.al ht
  rw [cF_switchesTo, eF_switchesTo_0, q_c24 hw.1 ht, cond_true, nI_clamp (q24 hw.1 ht), h.p ht]
  have := C_switches_loop (am_call d) h hw (nI t) 99999 t 0 0 ht (by omega) (by omega)
  rw [Nat.zero_add] at this
  exact this
/-- the weights: what size[] holds behind weigh() -/
def rW (g : am_G) (i : Nat) (n : Nat) (s : Nat → Nat) : Prop := ∀ x, x < n → g 7 i x = nI (s x)
def s7 (i : Nat) : Nat → Nat → Prop := fun c j => c = 7 ∧ j = i
theorem rC.s7 {g' : am_G} (h : rC g i F) (hf : m_fr (s7 i) g g') : rC g' i F := h.cg fun c hc => hf c i (fun q => by have := q.1; omega)
theorem C_weigh_in (ct : am_T) (hw : f_wf F) (x1 : Int32) : ∀ (L : List Nat) (k step : Nat) (g : am_G) (s : Nat → Nat) (x2 : Option Nat), rC g i F → x2 = L.head? → p_ch (fP F) L → L.Nodup → (∀ x ∈ L, x < fN F) → rW g i (fN F) s → step + L.length ≤ 24 →
    ∃ g' o2 o3, am_run ct 22 (k + 1 + L.length) 23 [some (.inr (.inr (1, i))), some (.inl x1), some (.inl (eC x2)), some (.inl (nI step))] [] g = am_run ct 22 k 15 [some (.inr (.inr (1, i))), some (.inl (x1 + 1)), o2, o3] [] g' ∧ m_fr (s7 i) g g' ∧ rW g' i (fN F) (fun x => s x + if x ∈ L then 1 else 0)
  | [], k, step, g, s, x2, h, e, hc, hd, hr, hs, h1 => by
    subst e
    refine ⟨g, some (.inl (-1)), some (.inl (nI step)), ?_, m_fr.rf, fun x hx => by rw [hs x hx]; simp⟩
    rw [List.length_nil, Nat.add_zero, eF_weigh_23, List.head?_nil, eC_none]
    split
    · rfl
    · rw [if_pos rfl]
  | y :: L, k, step, g, s, x2, h, e, hc, hd, hr, hs, h1 => by
    have hy := hr y List.mem_cons_self
    have hy31 := q24 hw.1 hy
    rw [List.length_cons] at h1
    obtain ⟨hd1, hd2⟩ := List.nodup_cons.mp hd
    subst e
    have e1 : k + 1 + (y :: L).length = (k + 1 + L.length) + 1 := by rw [List.length_cons]; omega
    have e0 : (y :: L).head? = some y := rfl
    have ep : am_sto g 7 i y (nI (s y) + 1) 2 i y = eC L.head? := by rw [m_sto_ne (by simp), h.p hy, hc.1]
    rw [e1, eF_weigh_23, if_neg (q_s24 (by omega)), e0, eC_some, if_neg (q_ne1 hy31), q_c24 hw.1 hy, cond_true, cond_true, cond_true, nI_clamp hy31, hs y hy, ep, nI_1, nI_1]
    have hf : m_fr (s7 i) g (am_sto g 7 i y (nI (s y + 1))) := m_fr.rf.sto ⟨rfl, rfl⟩
    obtain ⟨g', o2, o3, h5, h6, h7⟩ := C_weigh_in ct hw x1 L k (step + 1) (am_sto g 7 i y (nI (s y + 1))) (uo s y (s y + 1)) _ (h.s7 hf) rfl hc.2 hd2 (fun x hx => hr x (List.mem_cons_of_mem _ hx)) (fun x hx => by
      rw [m_sto]
      unfold uo
      split
      · rfl
      · exact hs x hx) (by omega)
    refine ⟨g', o2, o3, h5, hf.tr h6, fun x hx => ?_⟩
    rw [h7 x hx]
    dsimp only
    by_cases ex : x = y
    · subst ex
      rw [uo_eq, if_neg hd1, if_pos List.mem_cons_self]
    · rw [uo_ne ex]
      simp [ex]
theorem C_weigh_out (ct0 : am_T) (hw : f_wf F) : ∀ (m t : Nat) (g : am_G) (o2 o3 : Option am_V) (s : Nat → Nat) (k : Nat), rC g i F → t + m = fN F → rW g i (fN F) s → 26 * m < k →
    ∃ g', am_run ct0 22 k 15 [some (.inr (.inr (1, i))), some (.inl (nI t)), o2, o3] [] g = some (none, g') ∧ m_fr (s7 i) g g' ∧ rW g' i (fN F) (fun x => fo (fun b t => if decide (x ∈ f_a (fP F) t) then b + 1 else b) (s x) t m)
  | 0, t, g, o2, o3, s, k, h, e, hs, hk => by
    obtain ⟨k, rfl⟩ : ∃ k', k = k' + 1 := ⟨k - 1, by omega⟩
    have e : t = fN F := by omega
    subst e
    refine ⟨g, ?_, m_fr.rf, hs⟩
    rw [eF_weigh_15, h.1, if_pos (nI_le (Nat.le_refl _) (by have := hw.1; omega))]
  | m + 1, t, g, o2, o3, s, k, h, e, hs, hk => by
    have ht : t < fN F := by omega
    have hl := hw.al ht
    obtain ⟨k, rfl⟩ : ∃ k', k = k' + 1 + (f_a (fP F) t).length + 1 := ⟨k - (f_a (fP F) t).length - 2, by omega⟩
    rw [eF_weigh_15, h.1, if_neg (nI_ge ht (by have := hw.1; omega))]
    obtain ⟨g1, p2, p3, h5, h6, h7⟩ := C_weigh_in ct0 hw (nI t) (f_a (fP F) t) k 0 g s (some t) h rfl (f_a_ch hw.2.1 hw.1 t ht) (f_a_nd hw.2.1 ht) (fun x hx => f_a_lt hw.2.1 ht hx) hs (by omega)
    have h5 : am_run ct0 22 (k + 1 + (f_a (fP F) t).length) 23 [some (.inr (.inr (1, i))), some (.inl (nI t)), some (.inl (nI t)), some (.inl 0)] [] g = am_run ct0 22 k 15 [some (.inr (.inr (1, i))), some (.inl (nI t + 1)), p2, p3] [] g1 := h5
    rw [h5, nI_1]
    obtain ⟨g2, h8, h9, h10⟩ := C_weigh_out ct0 hw m (t + 1) g1 p2 p3 _ k (h.s7 h6) (by omega) h7 (by omega)
    refine ⟨g2, h8, h6.tr h9, fun x hx => ?_⟩
    rw [h10 x hx]
    dsimp only
    rw [fo]
    by_cases hin : x ∈ f_a (fP F) t
    · simp [hin]
    · simp [hin]
theorem C_weigh0 (ct0 : am_T) (hw : f_wf F) : ∀ (m t : Nat) (g : am_G) (k : Nat), rC g i F → t + m = fN F → (∀ x, x < t → g 7 i x = 0) →
    ∃ g', am_run ct0 22 (k + 1 + m) 2 [some (.inr (.inr (1, i))), some (.inl (nI t)), none, none] [] g = am_run ct0 22 k 15 [some (.inr (.inr (1, i))), some (.inl 0), none, none] [] g' ∧ m_fr (s7 i) g g' ∧ rW g' i (fN F) (fun _ => 0)
  | 0, t, g, k, h, e, hs => by
    have e : t = fN F := by omega
    subst e
    refine ⟨g, ?_, m_fr.rf, fun x hx => hs x hx⟩
    rw [Nat.add_zero, eF_weigh_2, h.1, if_pos (nI_le (Nat.le_refl _) (by have := hw.1; omega))]
  | m + 1, t, g, k, h, e, hs => by
    have ht : t < fN F := by omega
    rw [show k + 1 + (m + 1) = (k + 1 + m) + 1 by omega, eF_weigh_2, h.1, if_neg (nI_ge ht (by have := hw.1; omega)), q_c24 hw.1 ht, cond_true, nI_clamp (q24 hw.1 ht), nI_1]
    have hf : m_fr (s7 i) g (am_sto g 7 i t 0) := m_fr.rf.sto ⟨rfl, rfl⟩
    obtain ⟨g', h5, h6, h7⟩ := C_weigh0 ct0 hw m (t + 1) (am_sto g 7 i t 0) k (h.s7 hf) (by omega) (fun x hx => by
      rw [m_sto]
      split
      · rfl
      · exact hs x (by omega))
    exact ⟨g', h5, hf.tr h6, h7⟩
theorem C_weigh (d : Nat) (h : rC g i F) (hw : f_wf F) : ∃ g', am_call (d + 1) 22 [.inr (.inr (1, i))] g = some (none, g') ∧ m_fr (s7 i) g g' ∧ rW g' i (fN F) (f_sz F) := by
  have hn := hw.1
  rw [cF_weigh, eF_weigh_0]
  obtain ⟨g1, h1, h2, h3⟩ := C_weigh0 (am_call d) hw (fN F) 0 g (99998 - fN F) h (by omega) (fun x hx => absurd hx (Nat.not_lt_zero x))
  have e : 99998 - fN F + 1 + fN F = 99999 := by omega
  rw [e] at h1
  obtain ⟨g2, h4, h5, h6⟩ := C_weigh_out (am_call d) hw (fN F) 0 g1 none none _ (99998 - fN F) (h.s7 h2) (by omega) h3 (by omega)
  have h4 : am_run (am_call d) 22 (99998 - fN F) 15 [some (.inr (.inr (1, i))), some (.inl 0), none, none] [] g1 = some (none, g2) := h4
  rw [← h1] at h4
  exact ⟨g2, h4, h2.tr h5, h6⟩
theorem C_sizeOf (d : Nat) (h : rC g i F) (hw : f_wf F) {t : Nat} (ht : t < fN F) : ∃ g', am_call (d + 2) 23 [.inr (.inr (1, i)), .inl (nI t)] g = some (some (.inl (nI (f_sz F t))), g') ∧ m_fr (s7 i) g g' := by
  obtain ⟨g1, h1, h2, h3⟩ := C_weigh d h hw
  rw [cF_sizeOf, eF_sizeOf_0, h1, bv_some, q_c24 hw.1 ht, cond_true, nI_clamp (q24 hw.1 ht), h3 t ht]
  exact ⟨g1, rfl, h2⟩
end RC
