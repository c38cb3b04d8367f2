/-! ===== Forest: of whole trees ===== -/
theorem fb_rng (x : Int32) : -2147483648 ≤ x.toInt ∧ x.toInt < 2147483648 := by
  have h1 := Int32.le_toInt x
  have h2 := Int32.toInt_lt x
  omega
theorem fb_bmod {z : Int} (h1 : -2147483648 ≤ z) (h2 : z < 2147483648) : z.bmod (2 ^ 32) = z := by
  rw [Int.bmod_eq_of_le (by omega) (by omega)]
theorem fb_addI {x y : Int32} (h1 : -2147483648 ≤ x.toInt + y.toInt) (h2 : x.toInt + y.toInt < 2147483648) : (x + y).toInt = x.toInt + y.toInt := by
  rw [Int32.toInt_add, fb_bmod h1 h2]
theorem fb_subI {x y : Int32} (h1 : -2147483648 ≤ x.toInt - y.toInt) (h2 : x.toInt - y.toInt < 2147483648) : (x - y).toInt = x.toInt - y.toInt := by
  rw [Int32.toInt_sub, fb_bmod h1 h2]
theorem fb_mulI {x y : Int32} (h1 : -2147483648 ≤ x.toInt * y.toInt) (h2 : x.toInt * y.toInt < 2147483648) : (x * y).toInt = x.toInt * y.toInt := by
  rw [Int32.toInt_mul, fb_bmod h1 h2]
theorem fb_negI {x : Int32} (h : x.toInt ≠ -2147483648) : (-x).toInt = -x.toInt := by
  have := fb_rng x
  rw [Int32.toInt_neg, fb_bmod (by omega) (by omega)]
theorem fb_ofI {z : Int} (h1 : -2147483648 ≤ z) (h2 : z < 2147483648) : (Int32.ofInt z).toInt = z := by
  rw [Int32.toInt_ofInt, fb_bmod h1 h2]
theorem fb_asI (x : Int32) : Int32.ofInt x.toInt = x := Int32.ofInt_toInt x
theorem q_negmul {a b : Nat} (ha : a ≤ 9999) (hb : b ≤ 9999) : ((-1 : Int32) * nI a ≤ (-1 : Int32) * nI b) ↔ b ≤ a := by
  have e : ∀ c : Nat, c ≤ 9999 → ((-1 : Int32) * nI c).toInt = -(c : Int) := fun c hc => by
    rw [fb_mulI (by rw [q_m1, nI_toInt (by omega)]; omega) (by rw [q_m1, nI_toInt (by omega)]; omega), q_m1, nI_toInt (by omega)]
    omega
  rw [q_le, e a ha, e b hb]
  omega
theorem q_onemul {a b : Nat} (ha : a ≤ 9999) (hb : b ≤ 9999) : ((1 : Int32) * nI a ≤ (1 : Int32) * nI b) ↔ a ≤ b := by
  rw [q_n1, pk_mul, pk_mul, Nat.one_mul, Nat.one_mul, nI_leI (by omega) (by omega)]
theorem ct_mono {p q : Nat → Bool} {n : Nat} (h : ∀ j, j < n → p j = true → q j = true) : ct p n ≤ ct q n := by
  have key : ∀ (m t a b : Nat), a ≤ b → t + m = n → fo (fun b t => if p t then b + 1 else b) a t m ≤ fo (fun b t => if q t then b + 1 else b) b t m := by
    intro m
    induction m with
    | zero => intro t a b hab _; exact hab
    | succ m ih =>
      intro t a b hab e
      rw [fo, fo]
      refine ih (t + 1) _ _ ?_ (by omega)
      by_cases hp : p t = true
      · rw [if_pos hp, if_pos (h t (by omega) hp)]; omega
      · rw [if_neg hp]
        split <;> omega
  exact key n 0 0 0 (Nat.le_refl _) (by omega)
theorem f_sz_root {F : fF} (hw : f_wf F) {t : Nat} (ht : t < fN F) : f_sz F t ≤ f_sz F (f_r (fP F) t) := ct_mono fun j hj h => by
  have h := of_decide_eq_true h
  exact decide_eq_true (f_a_tr hw.2.1 hw.1 hj h (f_r_lt hw.2.1 hw.1 t ht).2.2)
theorem f_hv_some {F : fF} {t c : Nat} (h : f_hv F t = some c) : c < fN F ∧ fP F c = some t := by
  obtain ⟨-, h2, h3⟩ := ff_lt h
  exact ⟨by omega, (of_decide_eq_true h3).1⟩
/-- the tree of a town is settled: how many prefer otherwise, and how -/
def f_sstep (F : fF) (x : Nat) : Nat × (Nat → Option Nat) → Nat → Nat × (Nat → Option Nat) := fun b t => if f_r (fP F) t = f_r (fP F) x then (if b.2 t = f_hv F t then b else (b.1 + 1, uo b.2 t (f_hv F t))) else b
def f_settle (F : fF) (x : Nat) : Nat × (Nat → Option Nat) := fo (f_sstep F x) (0, fQ F) 0 (fN F)
def f_wQ (F : fF) (q : Nat → Option Nat) : fF := (fN F, fP F, q, fL F, fC F, fV F, fS F)
/-- the lower end of the best link of a tree -/
def f_lx (F : fF) (bt : Nat → Nat → Bool) (x : Nat) : Option Nat := fo (fun best t => if fP F t ≠ none ∧ f_r (fP F) t = f_r (fP F) x ∧ (∀ b, best = some b → bt t b = true) then some t else best) none 0 (fN F)
def f_gw (F : fF) (t : Nat) : Nat := fo (fun m c => if fP F c = some t then max m (f_sz F c) else m) (f_sz F (f_r (fP F) t) - f_sz F t) 0 (fN F)
def f_mi (F : fF) (x : Nat) : Option Nat := fo (fun best t => if f_r (fP F) t = f_r (fP F) x ∧ (∀ b, best = some b → f_gw F t < f_gw F b) then some t else best) none 0 (fN F)
def f_lf (F : fF) (k : Nat) : Option Nat := if f_pa F 0 ≤ k then some 0 else fo (fun least t => if fP F t ≠ none ∧ (∀ l, least = some l → fL F t < l) ∧ f_pa F (fL F t) ≤ k then some (fL F t) else least) none 0 (fN F)
section RC
variable {g : am_G} {i : Nat} {F : fF}
theorem C_heavyOfWeighed (d : Nat) (h : rC g i F) (hw : f_wf F) (hs : rW g i (fN F) (f_sz F)) {x : Nat} (hx : x < fN F) : am_call (d + 1) 27 [.inr (.inr (1, i)), .inl (nI x)] g = some (some (.inl (eC (f_hv F x))), g) := by
  have hn := hw.1
  rw [cF_heavyOfWeighed, eF_heavyOfWeighed_0]
  have key := for_find (fun k t => am_run (am_call d) 27 k 2 [some (.inr (.inr (1, i))), some (.inl (nI x)), some (.inl (nI t))] [] g) (fN F) (fun t => decide (fP F t = some x ∧ f_sz F x < 2 * f_sz F t)) (fun t => some (some (.inl (nI t)), g)) (some (some (.inl (-1)), g)) (fun k t ht => by
    have z1 := f_sz_le F t
    have z2 := f_sz_le F x
    rw [eF_heavyOfWeighed_2, h.1, if_neg (nI_ge ht (by omega)), q_c24 hn ht, cond_true, cond_true, q_c24 hn hx, cond_true, nI_clamp (q24 hn ht), nI_clamp (q24 hn hx), h.p ht, hs t ht, hs x hx, nI_1, q_n2, pk_mul]
    by_cases hp : fP F t = some x
    · rw [if_pos ((eC_inj (hw.p31 ht) (q24 hn hx)).mpr hp)]
      by_cases h2 : 2 * f_sz F t ≤ f_sz F x
      · rw [if_pos (nI_le h2 (by omega)), if_neg (by simp [hp]; omega)]
      · rw [if_neg (nI_ge (by omega) (by omega)), if_pos (decide_eq_true ⟨hp, by omega⟩)]
    · rw [if_neg (fun q => hp ((eC_inj (hw.p31 ht) (q24 hn hx)).mp q)), if_neg (by simp [hp])]) (fun k => by
    rw [eF_heavyOfWeighed_2, h.1, if_pos (nI_le (Nat.le_refl _) (by omega))]) (fN F) 0 99999 (by omega) (by omega)
  refine key.trans ?_
  unfold f_hv
  cases ff (fun t => decide (fP F t = some x ∧ f_sz F x < 2 * f_sz F t)) 0 (fN F) <;> rfl
theorem C_heavyChildOf (d : Nat) (h : rC g i F) (hw : f_wf F) {x : Nat} (hx : x < fN F) : ∃ g', am_call (d + 2) 26 [.inr (.inr (1, i)), .inl (nI x)] g = some (some (.inl (eC (f_hv F x))), g') ∧ m_fr (s7 i) g g' := by
  obtain ⟨g1, h1, h2, h3⟩ := C_weigh d h hw
  rw [cF_heavyChildOf, eF_heavyChildOf_0, h1, bv_some, C_heavyOfWeighed d (h.s7 h2) hw h3 hx, bi_some]
  exact ⟨g1, rfl, h2⟩
theorem eC_eq {o o' : Option Nat} (h : ∀ p, o = some p → p < 2 ^ 31) (h' : ∀ p, o' = some p → p < 2 ^ 31) : eC o = eC o' ↔ o = o' := by
  cases o' with
  | none => exact eC_m1 h
  | some p => exact eC_inj h (h' p rfl)
theorem f_hv31 (hw : f_wf F) (t : Nat) : ∀ p, f_hv F t = some p → p < 2 ^ 31 := fun p hp => q24 hw.1 (f_hv_some hp).1
theorem C_heavyNotPreferred (d : Nat) (h : rC g i F) (hw : f_wf F) : ∃ g', am_call (d + 2) 28 [.inr (.inr (1, i))] g = some (some (.inl (nI (f_po F))), g') ∧ m_fr (s7 i) g g' := by
  have hn := hw.1
  obtain ⟨g1, h1, h2, h3⟩ := C_weigh d h hw
  have hr := h.s7 h2
  rw [cF_heavyNotPreferred, eF_heavyNotPreferred_0, h1, bv_some]
  refine ⟨g1, ?_, h2⟩
  exact (for_inv (fun k b o t => am_run (am_call (d + 1)) 28 k 6 [some (.inr (.inr (1, i))), some (.inl (nI b)), some (.inl (nI t)), o] [] g1) (fN F) (fun b t => if decide (f_hv F t ≠ none ∧ fQ F t ≠ f_hv F t) then b + 1 else b) (fun b => some (some (.inl (nI b)), g1)) (fun _ _ => True) (fun k b o t ht _ => by
    refine ⟨⟨some (.inl (eC (f_hv F t))), ?_⟩, trivial⟩
    rw [eF_heavyNotPreferred_6, hr.1, if_neg (nI_ge ht (by omega)), C_heavyOfWeighed d hr hw h3 ht, bi_some, q_c24 hn ht, cond_true, nI_clamp (q24 hn ht), hr.q ht, nI_1, nI_1]
    by_cases e1 : f_hv F t = none
    · rw [if_pos ((eC_m1 (f_hv31 hw t)).mpr e1), if_neg (by simp [e1])]
    · rw [if_neg (fun q => e1 ((eC_m1 (f_hv31 hw t)).mp q))]
      by_cases e2 : fQ F t = f_hv F t
      · rw [if_pos ((eC_eq (hw.q31 ht) (f_hv31 hw t)).mpr e2), if_neg (by simp [e2])]
      · rw [if_neg (fun q => e2 ((eC_eq (hw.q31 ht) (f_hv31 hw t)).mp q)), if_pos (decide_eq_true ⟨e1, e2⟩)]) (fun k b o _ => by
    rw [eF_heavyNotPreferred_6, hr.1, if_pos (nI_le (Nat.le_refl _) (by omega))]) (m := fN F) (t := 0) (b := 0) (o := none) (k := 99999) (by omega) (by omega) trivial).1
theorem wf_wQ {q : Nat → Option Nat} (hw : f_wf F) (hq : ∀ t c, t < fN F → q t = some c → c < fN F ∧ fP F c = some t) : f_wf (f_wQ F q) := ⟨hw.1, hw.2.1, hq, hw.2.2.2⟩
theorem C_settleTreeOf (d : Nat) (h : rC g i F) (hw : f_wf F) {x : Nat} (hx : x < fN F) : ∃ g', am_call (d + 2) 10 [.inr (.inr (1, i)), .inl (nI x)] g = some (some (.inl (nI (f_settle F x).1)), g') ∧ rC g' i (f_wQ F (f_settle F x).2) ∧ f_wf (f_wQ F (f_settle F x).2) ∧ m_fr (sF i) g g' := by
  have hn := hw.1
  have hrx := f_r_lt hw.2.1 hw.1 x hx
  obtain ⟨g1, h1, h2, h3⟩ := C_weigh d h hw
  have hr := h.s7 h2
  rw [cF_settleTreeOf, eF_settleTreeOf_0, C_rootOf (d) h hw hx, bi_some, h1, bv_some]
  obtain ⟨g', h4, h5, h6, h7, h8⟩ := for_mem (fun k (b : Nat × (Nat → Option Nat)) g o t => am_run (am_call (d + 1)) 10 k 10 [some (.inr (.inr (1, i))), some (.inl (nI x)), some (.inl (nI (f_r (fP F) x))), some (.inl (nI b.1)), some (.inl (nI t)), o] [] g) (fN F) (f_sstep F x) (fun b g => some (some (.inl (nI b.1)), g))
    (fun b g' _ => rC g' i (f_wQ F b.2) ∧ f_wf (f_wQ F b.2) ∧ rW g' i (fN F) (f_sz F) ∧ m_fr (sF i) g g') (fun k b g0 o t ht hi => by
      obtain ⟨k1, k2, k3, k4⟩ := hi
      have hrt := f_r_lt hw.2.1 hw.1 t ht
      have hroot : am_call (d + 1) 11 [.inr (.inr (1, i)), .inl (nI t)] g0 = some (some (.inl (nI (f_r (fP F) t))), g0) := C_rootOf d k1 k2 ht
      have hheavy : am_call (d + 1) 27 [.inr (.inr (1, i)), .inl (nI t)] g0 = some (some (.inl (eC (f_hv F t))), g0) := C_heavyOfWeighed d k1 k2 k3 ht
      have hn0 : g0 102 i 0 = nI (fN F) := k1.1
      have hq0 : g0 3 i t = eC (b.2 t) := k1.q ht
      have hqb : ∀ p, b.2 t = some p → p < 2 ^ 31 := k2.q31 ht
      rw [eF_settleTreeOf_10, hn0, if_neg (nI_ge ht (by omega)), hroot, bi_some]
      unfold f_sstep
      by_cases e1 : f_r (fP F) t = f_r (fP F) x
      · rw [if_pos (by rw [e1]), if_pos e1, hheavy, bi_some, q_c24 hn ht, cond_true, cond_true, nI_clamp (q24 hn ht), hq0, nI_1, nI_1]
        by_cases e2 : b.2 t = f_hv F t
        · rw [if_pos ((eC_eq hqb (f_hv31 hw t)).mpr e2), if_pos e2]
          exact ⟨g0, _, rfl, k1, k2, k3, k4⟩
        · rw [if_neg (fun q => e2 ((eC_eq hqb (f_hv31 hw t)).mp q)), if_neg e2]
          refine ⟨am_sto g0 3 i t (eC (f_hv F t)), _, rfl, k1.setQ (f_hv F t), wf_wQ hw (fun z c hz hc => ?_), fun y hy => ?_, k4.sto (sF_in (by omega))⟩
          · dsimp only at hc
            by_cases ez : z = t
            · subst ez
              rw [uo_eq] at hc
              exact f_hv_some hc
            · rw [uo_ne ez] at hc
              exact k2.2.2.1 z c hz hc
          · rw [m_sto_ne (by simp)]
            exact k3 y hy
      · rw [if_neg (by rw [nI_eq (q24 hn hrt.1) (q24 hn hrx.1)]; exact e1), if_neg e1, nI_1]
        exact ⟨g0, o, rfl, k1, k2, k3, k4⟩) (fun k b g0 o hi => by
      have hn0 : g0 102 i 0 = nI (fN F) := hi.1.1
      rw [eF_settleTreeOf_10, hn0, if_pos (nI_le (Nat.le_refl _) (by omega))]) (fN F) 0 (0, fQ F) g1 none 99999 (by omega) (by omega) ⟨hr, hw, h3, h2.mono (fun c j hc => ⟨hc.2, by have := hc.1; omega⟩)⟩
  exact ⟨g', h4, h5, h6, h8⟩
theorem root_iff (hw : f_wf F) {t x : Nat} (ht : t < fN F) (hx : x < fN F) : (fP F t ≠ none ∧ f_r (fP F) t = f_r (fP F) x) ↔ (t ≠ f_r (fP F) x ∧ f_r (fP F) t = f_r (fP F) x) := by
  have hrx := f_r_lt hw.2.1 hw.1 x hx
  constructor
  · rintro ⟨h1, h2⟩
    refine ⟨fun e => h1 ?_, h2⟩
    rw [e]
    exact hrx.2.1
  · rintro ⟨h1, h2⟩
    refine ⟨fun e => h1 ?_, h2⟩
    rw [← h2, f_r_none hw.2.1 hw.1 ht e]
theorem C_lowerOfExtreme_5 (d : Nat) (h : rC g i F) (hw : f_wf F) {x : Nat} (hx : x < fN F) : am_call (d + 2) 30 [.inr (.inr (1, i)), .inl (nI x), .inr (.inr (5, i)), .inl (-1)] g = some (some (.inl (eM (f_lx F (fun t b => decide (fC F t < fC F b)) x))), g) := by
  have hn := hw.1
  have hrx := f_r_lt hw.2.1 hw.1 x hx
  rw [cF_lowerOfExtreme_5, eF_lowerOfExtreme_5_0, C_rootOf d h hw hx, bi_some]
  exact (for_inv (fun k (best : Option Nat) (_ : Option am_V) t => am_run (am_call (d + 1)) 30 k 8 [some (.inr (.inr (1, i))), some (.inl (nI x)), some (.inr (.inr (5, i))), some (.inl (-1)), some (.inl (nI (f_r (fP F) x))), some (.inl (eM best)), some (.inl (nI t))] [] g) (fN F) (fun best t => if fP F t ≠ none ∧ f_r (fP F) t = f_r (fP F) x ∧ (∀ b, best = some b → decide (fC F t < fC F b) = true) then some t else best) (fun b => some (some (.inl (eM b)), g)) (fun best _ => ∀ b, best = some b → b < fN F ∧ fP F b ≠ none) (fun k best o t ht hi => by
    have hrt := f_r_lt hw.2.1 hw.1 t ht
    have hri := root_iff hw ht hx
    refine ⟨⟨none, ?_⟩, fun b hb => ?_⟩
    · rw [eF_lowerOfExtreme_5_8, h.1, if_neg (nI_ge ht (by omega)), nI_1]
      by_cases e0 : t = f_r (fP F) x
      · rw [if_pos (by rw [e0]), if_neg (fun q => (hri.mp ⟨q.1, q.2.1⟩).1 e0)]
      · rw [if_neg (by rw [nI_eq (q24 hn ht) (q24 hn hrx.1)]; exact e0), C_rootOf d h hw ht, bi_some]
        by_cases e1 : f_r (fP F) t = f_r (fP F) x
        · rw [if_pos (by rw [e1])]
          have hpt := (hri.mpr ⟨e0, e1⟩).1
          cases best with
          | none => rw [eM_none, if_pos rfl, if_pos ⟨hpt, e1, fun b hb => by cases hb⟩]; rfl
          | some b =>
            obtain ⟨hb1, hb2⟩ := hi b rfl
            have l1 := hw.2.2.2 t ht hpt
            have l2 := hw.2.2.2 b hb1 hb2
            rw [eM_some, if_neg (q_ne2 (q24 hn hb1)), q_c24 hn ht, q_c24 hn hb1, cond_true, cond_true, nI_clamp (q24 hn ht), nI_clamp (q24 hn hb1), h.c ht hpt, h.c hb1 hb2]
            by_cases e2 : fC F t < fC F b
            · rw [if_neg (by rw [q_negmul l1.2.2 l2.2.2]; omega), if_pos ⟨hpt, e1, fun b' hb' => by cases hb'; exact decide_eq_true e2⟩]; rfl
            · rw [if_pos (by rw [q_negmul l1.2.2 l2.2.2]; omega), if_neg (fun q => e2 (of_decide_eq_true (q.2.2 b rfl)))]; rfl
        · rw [if_neg (by rw [nI_eq (q24 hn hrt.1) (q24 hn hrx.1)]; exact e1), if_neg (fun q => e1 q.2.1)]
    · split at hb
      · rename_i hc
        cases hb
        exact ⟨ht, hc.1⟩
      · exact hi b hb) (fun k b o _ => by
    rw [eF_lowerOfExtreme_5_8, h.1, if_pos (nI_le (Nat.le_refl _) (by omega))]) (m := fN F) (t := 0) (b := none) (o := none) (k := 99999) (by omega) (by omega) (fun b hb => by cases hb)).1
theorem C_lowerOfExtreme_4 (d : Nat) (h : rC g i F) (hw : f_wf F) {x : Nat} (hx : x < fN F) : am_call (d + 2) 30 [.inr (.inr (1, i)), .inl (nI x), .inr (.inr (4, i)), .inl 1] g = some (some (.inl (eM (f_lx F (fun t b => decide (fL F b < fL F t)) x))), g) := by
  have hn := hw.1
  have hrx := f_r_lt hw.2.1 hw.1 x hx
  rw [cF_lowerOfExtreme_4, eF_lowerOfExtreme_4_0, C_rootOf d h hw hx, bi_some]
  exact (for_inv (fun k (best : Option Nat) (_ : Option am_V) t => am_run (am_call (d + 1)) 30 k 8 [some (.inr (.inr (1, i))), some (.inl (nI x)), some (.inr (.inr (4, i))), some (.inl 1), some (.inl (nI (f_r (fP F) x))), some (.inl (eM best)), some (.inl (nI t))] [] g) (fN F) (fun best t => if fP F t ≠ none ∧ f_r (fP F) t = f_r (fP F) x ∧ (∀ b, best = some b → decide (fL F b < fL F t) = true) then some t else best) (fun b => some (some (.inl (eM b)), g)) (fun best _ => ∀ b, best = some b → b < fN F ∧ fP F b ≠ none) (fun k best o t ht hi => by
    have hrt := f_r_lt hw.2.1 hw.1 t ht
    have hri := root_iff hw ht hx
    refine ⟨⟨none, ?_⟩, fun b hb => ?_⟩
    · rw [eF_lowerOfExtreme_4_8, h.1, if_neg (nI_ge ht (by omega)), nI_1]
      by_cases e0 : t = f_r (fP F) x
      · rw [if_pos (by rw [e0]), if_neg (fun q => (hri.mp ⟨q.1, q.2.1⟩).1 e0)]
      · rw [if_neg (by rw [nI_eq (q24 hn ht) (q24 hn hrx.1)]; exact e0), C_rootOf d h hw ht, bi_some]
        by_cases e1 : f_r (fP F) t = f_r (fP F) x
        · rw [if_pos (by rw [e1])]
          have hpt := (hri.mpr ⟨e0, e1⟩).1
          cases best with
          | none => rw [eM_none, if_pos rfl, if_pos ⟨hpt, e1, fun b hb => by cases hb⟩]; rfl
          | some b =>
            obtain ⟨hb1, hb2⟩ := hi b rfl
            have l1 := hw.2.2.2 t ht hpt
            have l2 := hw.2.2.2 b hb1 hb2
            rw [eM_some, if_neg (q_ne2 (q24 hn hb1)), q_c24 hn ht, q_c24 hn hb1, cond_true, cond_true, nI_clamp (q24 hn ht), nI_clamp (q24 hn hb1), h.l ht hpt, h.l hb1 hb2]
            by_cases e2 : fL F b < fL F t
            · rw [if_neg (by rw [q_onemul l1.2.1 l2.2.1]; omega), if_pos ⟨hpt, e1, fun b' hb' => by cases hb'; exact decide_eq_true e2⟩]; rfl
            · rw [if_pos (by rw [q_onemul l1.2.1 l2.2.1]; omega), if_neg (fun q => e2 (of_decide_eq_true (q.2.2 b rfl)))]; rfl
        · rw [if_neg (by rw [nI_eq (q24 hn hrt.1) (q24 hn hrx.1)]; exact e1), if_neg (fun q => e1 q.2.1)]
    · split at hb
      · rename_i hc
        cases hb
        exact ⟨ht, hc.1⟩
      · exact hi b hb) (fun k b o _ => by
    rw [eF_lowerOfExtreme_4_8, h.1, if_pos (nI_le (Nat.le_refl _) (by omega))]) (m := fN F) (t := 0) (b := none) (o := none) (k := 99999) (by omega) (by omega) (fun b hb => by cases hb)).1
end RC
