/-! ===== Forest: the rest ===== -/
/-- the head of a town's chain; the tail -/
def f_hd (par q : Nat → Option Nat) : Nat → Nat → Nat
  | 0, t => t
  | k + 1, t => match par t with
    | none => t
    | some p => if q p = some t then f_hd par q k p else t
def f_tl (q : Nat → Option Nat) : Nat → Nat → Nat
  | 0, t => t
  | k + 1, t => match q t with
    | none => t
    | some c => f_tl q k c
section RC
variable {g : am_G} {i : Nat} {F : fF}
theorem C_greatestPart (d : Nat) (h : rC g i F) (hw : f_wf F) (hs : rW g i (fN F) (f_sz F)) {t : Nat} (ht : t < fN F) : am_call (d + 1) 32 [.inr (.inr (1, i)), .inl (nI t), .inl (nI (f_sz F (f_r (fP F) t)))] g = some (some (.inl (nI (f_gw F t))), g) := by
  have hn := hw.1
  rw [cF_greatestPartOfWeighed, eF_greatestPartOfWeighed_0, q_c24 hn ht, cond_true, nI_clamp (q24 hn ht), hs t ht, pk_sub (f_sz_root hw ht)]
  have key := for_inv (fun k m (_ : Option am_V) c => am_run (am_call d) 32 k 9 [some (.inr (.inr (1, i))), some (.inl (nI t)), some (.inl (nI (f_sz F (f_r (fP F) t)))), some (.inl (nI m)), some (.inl (nI c))] [] g) (fN F) (fun m c => if fP F c = some t then max m (f_sz F c) else m) (fun m => some (some (.inl (nI m)), g)) (fun m _ => m ≤ 24) (fun k m o c hc hm => by
    have z1 := f_sz_le F c
    refine ⟨⟨none, ?_⟩, ?_⟩
    · rw [eF_greatestPartOfWeighed_9, h.1, if_neg (nI_ge hc (by omega)), q_c24 hn hc, cond_true, cond_true, nI_clamp (q24 hn hc), h.p hc, hs c hc, nI_1]
      by_cases hp : fP F c = some t
      · rw [if_pos ((eC_inj (hw.p31 hc) (q24 hn ht)).mpr hp), if_pos hp]
        by_cases e : m < f_sz F c
        · rw [if_pos (nI_lt e (by omega)), Nat.max_eq_right (by omega)]
        · rw [if_neg (nI_nlt (by omega) (by omega)), Nat.max_eq_left (by omega)]
      · rw [if_neg (fun q => hp ((eC_inj (hw.p31 hc) (q24 hn ht)).mp q)), if_neg hp]
    · split
      · omega
      · exact hm) (fun k m o _ => by
    rw [eF_greatestPartOfWeighed_9, h.1, if_pos (nI_le (Nat.le_refl _) (by omega))]) (m := fN F) (t := 0) (b := f_sz F (f_r (fP F) t) - f_sz F t) (o := none) (k := 99999) (by omega) (by omega) (by have := f_sz_le F (f_r (fP F) t); omega)
  exact key.1
theorem f_gw_le (hw : f_wf F) (t : Nat) : f_gw F t ≤ 24 := by
  have hn := hw.1
  have key : ∀ (m b s : Nat), b ≤ 24 → fo (fun m c => if fP F c = some t then max m (f_sz F c) else m) b s m ≤ 24 := by
    intro m
    induction m with
    | zero => intro b s hb; exact hb
    | succ m ih =>
      intro b s hb
      rw [fo]
      refine ih _ _ ?_
      have := f_sz_le F s
      split <;> omega
  exact key _ _ _ (by have := f_sz_le F (f_r (fP F) t); omega)
theorem C_midstOfTreeOf (d : Nat) (h : rC g i F) (hw : f_wf F) {x : Nat} (hx : x < fN F) : ∃ g', am_call (d + 2) 31 [.inr (.inr (1, i)), .inl (nI x)] g = some (some (.inl (eC (f_mi F x))), g') ∧ m_fr (s7 i) g g' := by
  have hn := hw.1
  have hrx := f_r_lt hw.2.1 hw.1 x hx
  obtain ⟨g1, h1, h2, h3⟩ := C_weigh d h hw
  have hr := h.s7 h2
  rw [cF_midstOfTreeOf, eF_midstOfTreeOf_0, C_rootOf d h hw hx, bi_some, h1, bv_some]
  refine ⟨g1, ?_, h2⟩
  exact (for_inv (fun k (best : Option Nat) o t => am_run (am_call (d + 1)) 31 k 12 [some (.inr (.inr (1, i))), some (.inl (nI x)), some (.inl (nI (f_r (fP F) x))), some (.inl (eC best)), some (.inl (nI (match best with
      | none => 24
      | some b => f_gw F b))), some (.inl (nI t)), o] [] g1) (fN F) (fun best t => if f_r (fP F) t = f_r (fP F) x ∧ (∀ b, best = some b → f_gw F t < f_gw F b) then some t else best) (fun b => some (some (.inl (eC b)), g1)) (fun best _ => ∀ b, best = some b → b < fN F) (fun k best o t ht hi => by
    have hrt := f_r_lt hw.2.1 hw.1 t ht
    have hgt := f_gw_le hw t
    refine ⟨?_, fun b hb => ?_⟩
    · rw [eF_midstOfTreeOf_12, hr.1, if_neg (nI_ge ht (by omega)), C_rootOf d hr hw ht, bi_some, nI_1]
      by_cases e1 : f_r (fP F) t = f_r (fP F) x
      · have hgp := C_greatestPart d hr hw h3 ht
        rw [e1] at hgp
        refine ⟨some (.inl (nI (f_gw F t))), ?_⟩
        rw [if_pos (by rw [e1]), q_c24 hn hrx.1, cond_true, nI_clamp (q24 hn hrx.1), h3 _ hrx.1, hgp, bi_some]
        cases best with
        | none => rw [eC_none, if_pos rfl, if_pos ⟨e1, fun b hb => by cases hb⟩]; rfl
        | some b =>
          have hgb := f_gw_le hw b
          dsimp only
          rw [eC_some, if_neg (q_ne1 (q24 hn (hi b rfl)))]
          by_cases e2 : f_gw F t < f_gw F b
          · rw [if_neg (nI_ge e2 (by omega)), if_pos ⟨e1, fun b' hb' => by cases hb'; exact e2⟩]; rfl
          · rw [if_pos (nI_le (by omega) (by omega)), if_neg (fun q => e2 (q.2 b rfl))]; rfl
      · refine ⟨o, ?_⟩
        rw [if_neg (by rw [nI_eq (q24 hn hrt.1) (q24 hn hrx.1)]; exact e1), if_neg (fun q => e1 q.1)]
    · split at hb
      · cases hb; exact ht
      · exact hi b hb) (fun k b o _ => by
    rw [eF_midstOfTreeOf_12, hr.1, if_pos (nI_le (Nat.le_refl _) (by omega))]) (m := fN F) (t := 0) (b := none) (o := none) (k := 99999) (by omega) (by omega) (fun b hb => by cases hb)).1
theorem f_pa_le (F : fF) (k : Nat) : f_pa F k ≤ fN F := ct_le _ _
theorem C_leastLengthFor (d : Nat) (h : rC g i F) (hw : f_wf F) {K : Nat} (hK : K < 2 ^ 31) : am_call (d + 2) 34 [.inr (.inr (1, i)), .inl (nI K)] g = some (some (.inl (eC (f_lf F K))), g) := by
  have hn := hw.1
  have hp0 := f_pa_le F 0
  rw [cF_leastLengthFor, eF_leastLengthFor_0, q_n0, C_partsBy d h hw (K := 0) (by omega), bi_some]
  unfold f_lf
  by_cases e0 : f_pa F 0 ≤ K
  · rw [if_neg (nI_nlt e0 hK), if_pos e0]; rfl
  · rw [if_pos (nI_lt (by omega) (by omega)), if_neg e0]
    exact (for_inv (fun k (least : Option Nat) (_ : Option am_V) t => am_run (am_call (d + 1)) 34 k 11 [some (.inr (.inr (1, i))), some (.inl (nI K)), some (.inl (eC least)), some (.inl (nI t))] [] g) (fN F) (fun least t => if fP F t ≠ none ∧ (∀ l, least = some l → fL F t < l) ∧ f_pa F (fL F t) ≤ K then some (fL F t) else least) (fun b => some (some (.inl (eC b)), g)) (fun least _ => ∀ l, least = some l → l ≤ 9999) (fun k least o t ht hi => by
      have hpl := f_pa_le F (fL F t)
      refine ⟨⟨none, ?_⟩, fun b hb => ?_⟩
      · rw [eF_leastLengthFor_11, h.1, if_neg (nI_ge ht (by omega)), q_c24 hn ht, cond_true, nI_clamp (q24 hn ht), h.p ht, nI_1]
        by_cases hp : fP F t = none
        · rw [if_pos ((eC_m1 (hw.p31 ht)).mpr hp), if_neg (fun q => q.1 hp)]
        · have hl := hw.2.2.2 t ht hp
          rw [if_neg (fun q => hp ((eC_m1 (hw.p31 ht)).mp q)), h.l ht hp, C_partsBy d h hw (K := fL F t) (by omega), bi_some]
          cases least with
          | none =>
            rw [eC_none, if_pos rfl, cond_true, cond_true, h.l ht hp]
            by_cases e1 : f_pa F (fL F t) ≤ K
            · rw [if_neg (nI_nlt e1 hK), if_pos ⟨hp, fun l hl => (by cases hl), e1⟩]; rfl
            · rw [if_pos (nI_lt (by omega) (by omega)), if_neg (fun q => e1 q.2.2)]; rfl
          | some l =>
            have hl2 := hi l rfl
            rw [eC_some, if_neg (q_ne1 (by omega)), cond_true]
            by_cases e2 : fL F t < l
            · rw [if_neg (nI_ge e2 (by omega)), cond_true, cond_true, h.l ht hp]
              by_cases e1 : f_pa F (fL F t) ≤ K
              · rw [if_neg (nI_nlt e1 hK), if_pos ⟨hp, fun l' hl' => by cases hl'; exact e2, e1⟩]; rfl
              · rw [if_pos (nI_lt (by omega) (by omega)), if_neg (fun q => e1 q.2.2)]; rfl
            · rw [if_pos (nI_le (by omega) (by omega)), if_neg (fun q => e2 (q.2.1 l rfl))]; rfl
      · split at hb
        · rename_i hc
          cases hb
          exact (hw.2.2.2 t ht hc.1).2.1
        · exact hi b hb) (fun k b o _ => by
      rw [eF_leastLengthFor_11, h.1, if_pos (nI_le (Nat.le_refl _) (by omega))]) (m := fN F) (t := 0) (b := none) (o := none) (k := 99999) (by omega) (by omega) (fun b hb => by cases hb)).1
theorem C_head_loop (ct : am_T) (h : rC g i F) (hw : f_wf F) (x1 : Int32) : ∀ (k t step : Nat) (o4 : Option am_V), t < fN F → step ≤ 24 → 24 - step < k →
    am_run ct 18 k 4 [some (.inr (.inr (1, i))), some (.inl x1), some (.inl (nI t)), some (.inl (nI step)), o4] [] g = some (some (.inl (nI (f_hd (fP F) (fQ F) (24 - step) t))), g)
  | 0, t, step, o4, ht, h1, h2 => by omega
  | k + 1, t, step, o4, ht, h1, h2 => by
    rw [eF_headOf_4]
    by_cases e : step = 24
    · subst e
      rw [if_pos (show (24 : Int32) ≤ nI 24 by decide)]
      rfl
    · rw [if_neg (q_s24 (by omega)), q_c24 hw.1 ht, cond_true, nI_clamp (q24 hw.1 ht), h.p ht, show 24 - step = (24 - (step + 1)) + 1 by omega, f_hd]
      cases hp : fP F t with
      | none => rw [eC_none, if_pos rfl]
      | some p =>
        have hpn := hw.p ht hp
        rw [eC_some, if_neg (q_ne1 (q24 hw.1 hpn)), q_c24 hw.1 hpn, cond_true, nI_clamp (q24 hw.1 hpn), h.q hpn, nI_1]
        by_cases e2 : fQ F p = some t
        · rw [if_pos ((eC_inj (hw.q31 hpn) (q24 hw.1 ht)).mpr e2)]
          dsimp only
          rw [if_pos e2]
          exact C_head_loop ct h hw x1 k p (step + 1) _ hpn (by omega) (by omega)
        · rw [if_neg (fun q => e2 ((eC_inj (hw.q31 hpn) (q24 hw.1 ht)).mp q))]
          dsimp only
          rw [if_neg e2]
theorem C_headOf (d : Nat) (h : rC g i F) (hw : f_wf F) {t : Nat} (ht : t < fN F) : am_call (d + 1) 18 [.inr (.inr (1, i)), .inl (nI t)] g = some (some (.inl (nI (f_hd (fP F) (fQ F) 24 t))), g) := by
  rw [cF_headOf, eF_headOf_0]
  exact C_head_loop _ h hw _ 99999 t 0 none ht (by omega) (by omega)
theorem C_tail_loop (ct : am_T) (h : rC g i F) (hw : f_wf F) (x1 : Int32) : ∀ (k t step : Nat), t < fN F → step ≤ 24 → 24 - step < k →
    am_run ct 19 k 4 [some (.inr (.inr (1, i))), some (.inl x1), some (.inl (nI t)), some (.inl (nI step))] [] g = some (some (.inl (nI (f_tl (fQ F) (24 - step) t))), g)
  | 0, t, step, ht, h1, h2 => by omega
  | k + 1, t, step, ht, h1, h2 => by
    rw [eF_tailOf_4]
    by_cases e : step = 24
    · subst e
      rw [if_pos (show (24 : Int32) ≤ nI 24 by decide)]
      rfl
    · rw [if_neg (q_s24 (by omega)), q_c24 hw.1 ht, cond_true, cond_true, nI_clamp (q24 hw.1 ht), h.q ht, show 24 - step = (24 - (step + 1)) + 1 by omega, f_tl]
      cases hp : fQ F t with
      | none => rw [eC_none, if_pos rfl]
      | some p =>
        have hpn := (hw.2.2.1 t p ht hp).1
        rw [eC_some, if_neg (q_ne1 (q24 hw.1 hpn)), nI_1]
        exact C_tail_loop ct h hw x1 k p (step + 1) hpn (by omega) (by omega)
theorem C_tailOf (d : Nat) (h : rC g i F) (hw : f_wf F) {t : Nat} (ht : t < fN F) : am_call (d + 1) 19 [.inr (.inr (1, i)), .inl (nI t)] g = some (some (.inl (nI (f_tl (fQ F) 24 t))), g) := by
  rw [cF_tailOf, eF_tailOf_0]
  exact C_tail_loop _ h hw _ 99999 t 0 ht (by omega) (by omega)
def f_clear (F : fF) : fF := (0, fP F, fQ F, fL F, fC F, fV F, 0)
theorem C_clear (d : Nat) (F : fF) : ∃ g', am_call (d + 1) 0 [.inr (.inr (1, i))] g = some (none, g') ∧ rC g' i (f_clear F) ∧ m_fr (sF i) g g' := by
  rw [cF_clear, eF_clear_0]
  refine ⟨_, rfl, ⟨?_, m_put _ _ _ _ _, fun t ht => absurd ht (Nat.not_lt_zero t)⟩, (m_fr.rf.put (sF_in (by omega))).put (sF_in (by omega))⟩
  rw [m_put_ne (by simp), m_put]
  rfl
theorem va_cpy24 (f f' : Nat → Int32) {t : Nat} (ht : t < 24) : va_cpy f f' 0 0 24 t = f t := by
  unfold va_cpy
  rw [if_pos ⟨Nat.zero_le _, by omega⟩]
  congr 1
  omega
theorem C_copyFrom (d : Nat) {j : Nat} (h : rC g j F) (hw : f_wf F) (hij : i ≠ j) : ∃ g', am_call (d + 1) 1 [.inr (.inr (1, i)), .inr (.inr (1, j))] g = some (none, g') ∧ rC g' i F ∧ m_fr (sF i) g g' := by
  have hji : j ≠ i := fun e => hij e.symm
  rw [cF_copyFrom, eF_copyFrom_0]
  refine ⟨_, rfl, ?_, ?_⟩
  · refine ⟨?_, ?_, fun t ht => ?_⟩
    · simp [am_put, am_set, hij, hji]; exact h.1
    · simp [am_put, am_set, hij, hji]; exact h.2.1
    · have h24 : t < 24 := Nat.lt_of_lt_of_le ht hw.1
      simp [am_put, am_set, hij, hji, va_cpy24 _ _ h24]
      exact h.2.2 t ht
  · exact ((((((m_fr.rf.set (sF_in (by omega))).set (sF_in (by omega))).set (sF_in (by omega))).set (sF_in (by omega))).set (sF_in (by omega))).put (sF_in (by omega))).put (sF_in (by omega))
def f_add (F : fF) (v : Int32) : fF := (fN F + 1, uo (fP F) (fN F) none, uo (fQ F) (fN F) none, fL F, fC F, uo (fV F) (fN F) v, fS F)
theorem C_addTown (d : Nat) (h : rC g i F) (hn : fN F < 24) (v : Int32) : ∃ g', am_call (d + 1) 2 [.inr (.inr (1, i)), .inl v] g = some (none, g') ∧ rC g' i (f_add F v) ∧ m_fr (sF i) g g' := by
  have h31 : fN F < 2 ^ 31 := by omega
  rw [cF_addTown, eF_addTown_0]
  simp only [m_sto_ne (show ¬ (102 = 2 ∧ i = i) by simp), m_sto_ne (show ¬ (102 = 3 ∧ i = i) by simp), m_sto_ne (show ¬ (102 = 4 ∧ i = i) by simp), m_sto_ne (show ¬ (102 = 5 ∧ i = i) by simp), m_sto_ne (show ¬ (102 = 6 ∧ i = i) by simp), h.1, nI_clamp h31, q_c24 (Nat.le_refl 24) hn, cond_true, if_neg (q_s24 hn), nI_1]
  refine ⟨_, rfl, ⟨m_put _ _ _ _ _, ?_, fun t ht => ?_⟩, (((((m_fr.rf.sto (sF_in (by omega))).sto (sF_in (by omega))).sto (sF_in (by omega))).sto (sF_in (by omega))).sto (sF_in (by omega))).put (sF_in (by omega))⟩
  · simp [am_put, am_sto, am_set]; exact h.2.1
  · have ht : t < fN F + 1 := ht
    simp only [am_put, am_sto, am_set, upd]
    by_cases e : t = fN F
    · subst e
      simp [f_add, uo, fP, fQ, fV, eC, upd]
    · have h1 := h.2.2 t (by omega)
      have e1 : ∀ (f : Nat → Int32) (y : Int32), upd f (fN F) y t = f t := fun f y => if_neg e
      have e2 : uo (fP F) (fN F) none t = fP F t := uo_ne e
      have e3 : uo (fQ F) (fN F) none t = fQ F t := uo_ne e
      have e4 : uo (fV F) (fN F) v t = fV F t := uo_ne e
      simp [e1]
      show g 2 i t = eC (uo (fP F) (fN F) none t) ∧ g 3 i t = eC (uo (fQ F) (fN F) none t) ∧ (¬ uo (fP F) (fN F) none t = none → g 4 i t = nI (fL F t) ∧ g 5 i t = nI (fC F t)) ∧ g 6 i t = uo (fV F) (fN F) v t
      rw [e2, e3, e4]
      exact h1
end RC
