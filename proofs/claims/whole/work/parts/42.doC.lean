/-! ===== TownForest: its state, what it does ===== -/
def rI (g : am_G) (o : Option fF) : Prop := g 101 0 0 = b01 o.isSome ∧ ∀ G, o = some G → rC g 2 G
def rB0 (g : am_G) (B : List Int32) : Prop := g 100 0 0 = nI B.length ∧ ∀ (k : Nat) (x : Int32), B[k]? = some x → g 13 0 k = x
def rA (g : am_G) (σ : aS) : Prop := rB0 g (aB σ) ∧ rC g 0 (aF σ) ∧ (∃ b, rN g 0 (aL σ) (aE σ) b) ∧ rH g (aU σ) ∧ rI g (aI σ) ∧ rS g (aV σ) ∧ g 108 0 0 = aX σ ∧ g 109 0 0 = aY σ
/-- where it lies -/
def fp (c j : Nat) : Prop := (j = 0 ∧ (c = 100 ∨ c = 13 ∨ (2 ≤ c ∧ c ≤ 6) ∨ (101 ≤ c ∧ c ≤ 106) ∨ c = 9 ∨ c = 117 ∨ c = 118 ∨ c = 19 ∨ c = 120 ∨ c = 108 ∨ c = 109)) ∨ (j = 2 ∧ (2 ≤ c ∧ c ≤ 6 ∨ c = 102 ∨ c = 103)) ∨ (4 ≤ j ∧ j < 24 ∧ fc c)
def sCm : Nat → Nat → Prop := fun c _ => c ≤ 28 ∨ (100 ≤ c ∧ c ≤ 129)
def sAsk : Nat → Nat → Prop := fun c j => (c = 7 ∧ j = 0) ∨ (j ≤ 1 ∧ (c = 17 ∨ c = 119)) ∨ (21 ≤ c ∧ c ≤ 27) ∨ c = 121 ∨ (j = 3 ∧ fc c) ∨ (c = 122 ∧ j = 0)
section AA
variable {g : am_G} {σ : aS}
theorem rI.fr {o : Option fF} {g' : am_G} {S : Nat → Nat → Prop} (h : rI g o) (hf : m_fr S g g') (h1 : ¬ S 101 0) (h2 : ∀ c, (2 ≤ c ∧ c ≤ 6 ∨ c = 102 ∨ c = 103) → ¬ S c 2) : rI g' o := ⟨by rw [hf 101 0 h1]; exact h.1, fun G hG => (h.2 G hG).cg fun c hc => hf c 2 (h2 c hc)⟩
theorem rB0.fr {B : List Int32} {g' : am_G} {S : Nat → Nat → Prop} (h : rB0 g B) (hf : m_fr S g g') (h1 : ¬ S 100 0) (h2 : ¬ S 13 0) : rB0 g' B := ⟨by rw [hf 100 0 h1]; exact h.1, fun k x hk => by rw [hf 13 0 h2]; exact h.2 k x hk⟩
theorem rA.fr {g' : am_G} {S : Nat → Nat → Prop} (h : rA g σ) (hf : m_fr S g g') (hS : ∀ c j, fp c j → ¬ S c j) : rA g' σ := by
  obtain ⟨h1, h2, ⟨b, h3⟩, h4, h5, h6, h7, h8⟩ := h
  have z : ∀ c, (c = 100 ∨ c = 13 ∨ (2 ≤ c ∧ c ≤ 6) ∨ (101 ≤ c ∧ c ≤ 106) ∨ c = 9 ∨ c = 117 ∨ c = 118 ∨ c = 19 ∨ c = 120 ∨ c = 108 ∨ c = 109) → ¬ S c 0 := fun c hc => hS c 0 (Or.inl ⟨rfl, hc⟩)
  exact ⟨h1.fr hf (z _ (by omega)) (z _ (by omega)), h2.cg (fun c hc => hf c 0 (z _ (by omega))), ⟨b, h3.fr hf (fun c hc => z _ (by omega))⟩, h4.fr hf (z _ (by omega)) (z _ (by omega)) (fun c j hj1 hj2 hc => hS c j (Or.inr (Or.inr ⟨hj1, hj2, hc⟩))), h5.fr hf (z _ (by omega)) (fun c hc => hS c 2 (Or.inr (Or.inl ⟨rfl, hc⟩))), h6.fr hf (z _ (by omega)) (z _ (by omega)), by rw [hf 108 0 (z _ (by omega))]; exact h7, by rw [hf 109 0 (z _ (by omega))]; exact h8⟩
theorem rA.ask {g' : am_G} (h : rA g σ) (hf : m_fr sAsk g g') : rA g' σ := h.fr hf fun c j hp q => by
  unfold fp fc at hp
  unfold sAsk fc at q
  omega
theorem m_fr.askC {g' : am_G} (h : m_fr sAsk g g') : m_fr sCm g g' := h.mono fun c j q => by
  unfold sAsk fc at q
  show c ≤ 28 ∨ (100 ≤ c ∧ c ≤ 129)
  omega
theorem m_fr.s7A {g' : am_G} (h : m_fr (s7 0) g g') : m_fr sAsk g g' := h.mono fun c j q => Or.inl q
theorem m_fr.YA {g' : am_G} (h : m_fr (sY 0) g g') : m_fr sAsk g g' := h.mono fun c j q => Or.inr (Or.inl ⟨by have := q.1; omega, q.2⟩)
theorem m_fr.SuA {g' : am_G} (h : m_fr sSu g g') : m_fr sAsk g g' := h.mono fun c j q => by
  have q : (21 ≤ c ∧ c ≤ 27) ∨ c = 121 := q
  unfold sAsk
  omega
theorem m_fr.VA {g' : am_G} (h : m_fr sV g g') : m_fr sAsk g g' := h.mono fun c j q => by
  have q := q.2
  unfold sAsk
  omega
theorem m_fr.BA {g' : am_G} (h : m_fr sB g g') : m_fr sAsk g g' := h.mono fun c j q => by
  unfold sAsk fc
  rcases q with q | q | q
  · have := q.1; have := q.2; omega
  · have := q.1; have := q.2; omega
  · omega
theorem m_fr.FC {g' : am_G} {i : Nat} (h : m_fr (sF i) g g') : m_fr sCm g g' := h.mono fun c j q => by
  have := q.2
  show c ≤ 28 ∨ (100 ≤ c ∧ c ≤ 129)
  omega
/-- a call answers and does what is said -/
def SimC (o : Option am_R) (g : am_G) (r : Int32 × aS) : Prop := ∃ g', o = some (some (.inl r.1), g') ∧ rA g' r.2 ∧ m_fr sCm g g'
theorem rA.rem (d : Nat) (h : rA g σ) (ho : a_ok σ) : ∃ g1, am_call (d + 2) 39 [.inr (.inr (14, 0)), .inr (.inr (1, 0))] g = some (none, g1) ∧ rC g1 0 (aF σ) ∧ (∀ L, rY g 0 L → rY g1 0 L) ∧ m_fr sCm g g1 ∧ ∀ g2 F', m_fr (sF 0) g1 g2 → rC g2 0 F' → rA g2 (a_do σ F') := by
  obtain ⟨h1, h2, ⟨b, h3⟩, h4, h5, h6, h7, h8⟩ := h
  obtain ⟨g1, k1, k2, k3⟩ := C_remember d h2 ho.1 h4
  refine ⟨g1, k1, h2.fr k3 (fun c hc => ?_), fun L hY => hY.fr k3 (fun q => ?_) (fun q => ?_), k3.mono fun c j q => ?_, fun g2 F' hf hc => ?_⟩
  · rcases hc with q | q
    · omega
    · omega
  · rcases q with q | q <;> omega
  · rcases q with q | q <;> omega
  · unfold sH fc at q
    show c ≤ 28 ∨ (100 ≤ c ∧ c ≤ 129)
    omega
  · have hf2 : m_fr (fun c j => sH c j ∨ sF 0 c j) g g2 := (k3.mono fun c j q => Or.inl q).tr (hf.mono fun c j q => Or.inr q)
    have z : ∀ c, (c = 100 ∨ c = 13 ∨ c = 9 ∨ c = 101 ∨ (104 ≤ c ∧ c ≤ 106) ∨ c = 19 ∨ c = 120 ∨ c = 108 ∨ c = 109) → ¬ (sH c 0 ∨ sF 0 c 0) := fun c hc q => by
      unfold sH fc sF at q
      omega
    refine ⟨h1.fr hf2 (z _ (by omega)) (z _ (by omega)), hc, ⟨b, h3.fr hf2 (fun c hc => z _ (by omega))⟩, k2.fr hf (fun q => by have := q.2; omega) (fun q => by have := q.2; omega) (fun c j hj _ _ q => by have := q.1; omega), h5.fr hf2 (z _ (by omega)) (fun c hc q => by unfold sH fc sF at q; omega), h6.fr hf2 (z _ (by omega)) (z _ (by omega)), by rw [hf2 108 0 (z _ (by omega))]; exact h7, by rw [hf2 109 0 (z _ (by omega))]; exact h8⟩
theorem A_touch (d : Nat) (h : rA g σ) (ho : a_ok σ) (x : Int32) : SimC (am_call (d + 9) 88 [.inr (.inr (0, 0)), .inl x] g) g (o_touch σ x) := by
  rw [cC_touch, eC_touch_0]
  unfold o_touch
  rcases tw_cs _ ho.1.1 x with ⟨h1, h2⟩ | ⟨t, ht, rfl, h3⟩
  · rw [h1, C_has_f (d + 7) h.2.1 h2, bi_some, if_pos rfl]; exact ⟨g, rfl, h, m_fr.rf⟩
  · rw [h3, C_has_t (d + 7) h.2.1 ho.1 ht, bi_some, if_neg q_110]
    obtain ⟨g1, r1, r2, -, r4, r5⟩ := h.rem (d + 6) ho
    obtain ⟨g2, k1, k2, k3⟩ := C_touchAt (d + 7) r2 ho.1 ht
    rw [r1, bv_some, k1, bv_some]
    refine ⟨g2, ?_, r5 _ _ k3 k2, r4.tr k3.FC⟩
    rw [k2.2.1, r2.2.1]
    show some (some (Sum.inl (fS (aF σ) + _ - fS (aF σ))), g2) = _
    rw [q_addsub]
theorem A_reroot (d : Nat) (h : rA g σ) (ho : a_ok σ) (x : Int32) : SimC (am_call (d + 9) 89 [.inr (.inr (0, 0)), .inl x] g) g (o_reroot σ x) := by
  rw [cC_reroot, eC_reroot_0]
  unfold o_reroot
  rcases tw_cs _ ho.1.1 x with ⟨h1, h2⟩ | ⟨t, ht, rfl, h3⟩
  · rw [h1, C_has_f (d + 7) h.2.1 h2, bi_some, if_pos rfl]; exact ⟨g, rfl, h, m_fr.rf⟩
  · rw [h3, C_has_t (d + 7) h.2.1 ho.1 ht, bi_some, if_neg q_110]
    obtain ⟨g1, r1, r2, -, r4, r5⟩ := h.rem (d + 6) ho
    obtain ⟨g2, k1, k2, k3⟩ := C_rerootAt (d + 6) r2 ho.1 ht
    rw [r1, bv_some, k1, bv_some]
    refine ⟨g2, ?_, r5 _ _ k3 k2, r4.tr k3.FC⟩
    rw [k2.2.1, r2.2.1, rr_N.2.2]
    show some (some (Sum.inl (fS (aF σ) + _ - fS (aF σ))), g2) = _
    rw [q_addsub]
theorem C_canBeLink_f (d : Nat) (h : rA g σ) (ho : a_ok σ) {x y : Int32} (hx : ¬ (isT (fN (aF σ)) x ∧ isT (fN (aF σ)) y)) (l c : Int32) : am_call (d + 3) 128 [.inr (.inr (0, 0)), .inl x, .inl y, .inl l, .inl c] g = some (some (.inl 0), g) := by
  rw [cC_canBeLink, eC_canBeLink_0, C_hasBoth_f d h.2.1 ho.1 hx, bi_some, if_pos rfl]
theorem C_canBeLink_t (d : Nat) (h : rA g σ) (ho : a_ok σ) {a b : Nat} (ha : a < fN (aF σ)) (hb : b < fN (aF σ)) (l c : Int32) : am_call (d + 3) 128 [.inr (.inr (0, 0)), .inl (nI a), .inl (nI b), .inl l, .inl c] g = some (some (.inl (if (1 ≤ l ∧ l ≤ 9999) ∧ 1 ≤ c ∧ c ≤ 9999 then 1 else 0)), g) := by
  rw [cC_canBeLink, eC_canBeLink_0, C_hasBoth_t d h.2.1 ho.1 ha hb, bi_some, if_neg q_110]
  by_cases e1 : 1 ≤ l ∧ l ≤ 9999
  · rw [C_isWithin_t (d + 1) g e1, bi_some, if_neg q_110]
    by_cases e2 : 1 ≤ c ∧ c ≤ 9999
    · rw [C_isWithin_t (d + 1) g e2, bi_some, if_neg q_110, if_pos ⟨e1, e2⟩]
    · rw [C_isWithin_f (d + 1) g e2, bi_some, if_pos rfl, if_neg (fun q => e2 q.2)]
  · rw [C_isWithin_f (d + 1) g e1, bi_some, if_pos rfl, if_neg (fun q => e1 q.1)]
theorem A_link (d : Nat) (h : rA g σ) (ho : a_ok σ) (x y l c : Int32) : SimC (am_call (d + 9) 90 [.inr (.inr (0, 0)), .inl x, .inl y, .inl l, .inl c] g) g (o_link σ x y l c) := by
  rw [cC_link, eC_link_0]
  unfold o_link
  rcases tw2_cs _ ho.1.1 x y with ⟨h1, h2⟩ | ⟨a, b, ha, hb, rfl, rfl, h3⟩
  · rw [h1, C_canBeLink_f (d + 5) h ho h2, bi_some, if_pos rfl]; exact ⟨g, rfl, h, m_fr.rf⟩
  · rw [h3, C_canBeLink_t (d + 5) h ho ha hb, bi_some]
    dsimp only
    by_cases e : (1 ≤ l ∧ l ≤ 9999) ∧ 1 ≤ c ∧ c ≤ 9999
    · rw [if_pos e, if_neg q_110, if_pos e, C_hangTogether (d + 6) h.2.1 ho.1 ha hb, bi_some]
      by_cases er : f_r (fP (aF σ)) a = f_r (fP (aF σ)) b
      · rw [if_pos er, if_neg q_110, if_pos er]; exact ⟨g, rfl, h, m_fr.rf⟩
      · have q1 := q_clamp (lo := 1) (hi := 9999) (by omega) (by omega) e.1
        have q2 := q_clamp (lo := 1) (hi := 9999) (by omega) (by omega) e.2
        obtain ⟨g1, r1, r2, -, r4, r5⟩ := h.rem (d + 6) ho
        obtain ⟨g2, k1, k2, k3⟩ := C_linkUnder (d + 4) r2 ho.1 ha hb l.toNatClampNeg c.toNatClampNeg
        rw [← q1.1, ← q2.1] at k1
        have hw2 := wf_link ho.1 ha hb er q1.2 q2.2.2
        have hN : fN (f_link (aF σ) a b l.toNatClampNeg c.toNatClampNeg) = fN (aF σ) := wk_N (b := b)
        have ha2 : a < fN (f_link (aF σ) a b l.toNatClampNeg c.toNatClampNeg) := by rw [hN]; exact ha
        obtain ⟨g3, l1, l2⟩ := C_sizeOf (d + 6) k2 hw2 (f_r_lt hw2.2.1 hw2.1 a ha2).1
        rw [if_neg er, if_pos rfl, if_neg er, r1, bv_some, k1, bv_some, C_rootOf (d + 7) k2 hw2 ha2, bi_some, l1, bi_some]
        exact ⟨g3, rfl, (r5 _ _ k3 k2).ask l2.s7A, (r4.tr k3.FC).tr l2.s7A.askC⟩
    · rw [if_neg e, if_pos rfl, if_neg e]; exact ⟨g, rfl, h, m_fr.rf⟩
theorem f_lo_lt {F : fF} {a b lo : Nat} (ha : a < fN F) (hb : b < fN F) (h : f_lo (fP F) a b = some lo) : lo < fN F ∧ fP F lo ≠ none ∧ (fP F a = some b ∨ fP F b = some a) := by
  unfold f_lo at h
  split at h
  · rename_i e; cases h; exact ⟨ha, by rw [e]; simp, Or.inl e⟩
  · split at h
    · rename_i e; cases h; exact ⟨hb, by rw [e]; simp, Or.inr e⟩
    · cases h
theorem A_cut (d : Nat) (h : rA g σ) (ho : a_ok σ) (x y : Int32) : SimC (am_call (d + 9) 91 [.inr (.inr (0, 0)), .inl x, .inl y] g) g (o_cut σ x y) := by
  rw [cC_cut, eC_cut_0]
  unfold o_cut
  rcases tw2_cs _ ho.1.1 x y with ⟨h1, h2⟩ | ⟨a, b, ha, hb, rfl, rfl, h3⟩
  · rw [h1, C_hasBoth_f (d + 6) h.2.1 ho.1 h2, bi_some, if_pos rfl]; exact ⟨g, rfl, h, m_fr.rf⟩
  · rw [h3, C_hasBoth_t (d + 6) h.2.1 ho.1 ha hb, bi_some, if_neg q_110, C_lowerOf (d + 7) h.2.1 ho.1 ha hb, bi_some]
    dsimp only
    cases hlo : f_lo (fP (aF σ)) a b with
    | none => rw [eC_none, if_pos rfl]; exact ⟨g, rfl, h, m_fr.rf⟩
    | some lo =>
      obtain ⟨hl1, hl2, -⟩ := f_lo_lt ha hb hlo
      obtain ⟨g1, r1, r2, -, r4, r5⟩ := h.rem (d + 6) ho
      obtain ⟨g2, k1, k2, k3⟩ := C_cutBetween (d + 4) r2 ho.1 ha hb
      rw [eC_some, if_neg (q_ne1 (q24 ho.1.1 hl1)), q_c24 ho.1.1 hl1, cond_true, r1, bv_some, k1, bv_some, nI_clamp (q24 ho.1.1 hl1), h.2.1.l hl1 hl2]
      exact ⟨g2, rfl, r5 _ _ k3 k2, r4.tr k3.FC⟩
theorem A_meet (d : Nat) (h : rA g σ) (ho : a_ok σ) (x y : Int32) : SimC (am_call (d + 9) 94 [.inr (.inr (0, 0)), .inl x, .inl y] g) g (o_meet σ x y) := by
  rw [cC_meet, eC_meet_0]
  unfold o_meet
  rcases tw2_cs _ ho.1.1 x y with ⟨h1, h2⟩ | ⟨a, b, ha, hb, rfl, rfl, h3⟩
  · rw [h1, C_hasBoth_f (d + 6) h.2.1 ho.1 h2, bi_some, if_pos rfl]; exact ⟨g, rfl, h, m_fr.rf⟩
  · rw [h3, C_hasBoth_t (d + 6) h.2.1 ho.1 ha hb, bi_some, if_neg q_110, C_meetingOf (d + 6) h.2.1 ho.1 ha hb, bi_some]
    dsimp only
    cases hm : f_m (fP (aF σ)) a b with
    | none => rw [eC_none, if_pos rfl]; exact ⟨g, rfl, h, m_fr.rf⟩
    | some m =>
      have hmn := f_m_lt ho.1.2.1 ha hm
      obtain ⟨g1, r1, r2, -, r4, r5⟩ := h.rem (d + 6) ho
      obtain ⟨g2, k1, k2, k3⟩ := C_touchAt (d + 7) r2 ho.1 ha
      obtain ⟨g3, l1, l2, l3⟩ := C_touchAt (d + 7) k2 (wf_touch ho.1 ha) (t := b) hb
      rw [eC_some, if_neg (q_ne1 (q24 ho.1.1 hmn)), r1, bv_some, k1, bv_some, l1, bv_some]
      exact ⟨g3, rfl, r5 _ _ (k3.tr l3) l2, (r4.tr k3.FC).tr l3.FC⟩
theorem A_settle (d : Nat) (h : rA g σ) (ho : a_ok σ) (x : Int32) : SimC (am_call (d + 9) 98 [.inr (.inr (0, 0)), .inl x] g) g (o_settle σ x) := by
  rw [cC_settle, eC_settle_0]
  unfold o_settle
  rcases tw_cs _ ho.1.1 x with ⟨h1, h2⟩ | ⟨t, ht, rfl, h3⟩
  · rw [h1, C_has_f (d + 7) h.2.1 h2, bi_some, if_pos rfl]; exact ⟨g, rfl, h, m_fr.rf⟩
  · rw [h3, C_has_t (d + 7) h.2.1 ho.1 ht, bi_some, if_neg q_110]
    obtain ⟨g1, r1, r2, -, r4, r5⟩ := h.rem (d + 6) ho
    obtain ⟨g2, k1, k2, -, k3⟩ := C_settleTreeOf (d + 6) r2 ho.1 ht
    rw [r1, bv_some, k1, bi_some]
    exact ⟨g2, rfl, r5 _ _ k3 k2, r4.tr k3.FC⟩
theorem A_shed (d : Nat) (h : rA g σ) (ho : a_ok σ) (x : Int32) : SimC (am_call (d + 9) 100 [.inr (.inr (0, 0)), .inl x] g) g (o_shed σ x) := by
  rw [cC_shed, eC_shed_0]
  unfold o_shed
  rcases tw_cs _ ho.1.1 x with ⟨h1, h2⟩ | ⟨t, ht, rfl, h3⟩
  · rw [h1, C_has_f (d + 7) h.2.1 h2, bi_some, if_pos rfl]; exact ⟨g, rfl, h, m_fr.rf⟩
  · rw [h3, C_has_t (d + 7) h.2.1 ho.1 ht, bi_some, if_neg q_110, q_c24 ho.1.1 ht, cond_true, cond_true, nI_clamp (q24 ho.1.1 ht), h.2.1.p ht]
    dsimp only
    cases hp : fP (aF σ) t with
    | none => rw [eC_none, if_pos rfl]; exact ⟨g, rfl, h, m_fr.rf⟩
    | some p =>
      have hpn := ho.1.p ht hp
      obtain ⟨g1, r1, r2, -, r4, r5⟩ := h.rem (d + 6) ho
      obtain ⟨g2, k1, k2, k3⟩ := C_cutBetween (d + 4) r2 ho.1 hpn ht
      rw [eC_some, if_neg (q_ne1 (q24 ho.1.1 hpn)), r1, bv_some, k1, bv_some, h.2.1.l ht (by rw [hp]; simp)]
      exact ⟨g2, rfl, r5 _ _ k3 k2, r4.tr k3.FC⟩
theorem A_value (d : Nat) (h : rA g σ) (ho : a_ok σ) (x v : Int32) : SimC (am_call (d + 9) 101 [.inr (.inr (0, 0)), .inl x, .inl v] g) g (o_value σ x v) := by
  rw [cC_value, eC_value_0]
  unfold o_value
  rcases tw_cs _ ho.1.1 x with ⟨h1, h2⟩ | ⟨t, ht, rfl, h3⟩
  · rw [h1, C_has_f (d + 7) h.2.1 h2, bi_some, if_pos rfl]; exact ⟨g, rfl, h, m_fr.rf⟩
  · rw [h3, C_has_t (d + 7) h.2.1 ho.1 ht, bi_some, if_neg q_110]
    dsimp only
    by_cases e : -9999 ≤ v ∧ v ≤ 9999
    · obtain ⟨g1, r1, r2, -, r4, r5⟩ := h.rem (d + 6) ho
      rw [C_isWithin_t (d + 7) g e, bi_some, if_neg q_110, if_pos e, r1, bv_some, q_c24 ho.1.1 ht, cond_true, cond_true, nI_clamp (q24 ho.1.1 ht), r2.v ht]
      have hf : m_fr (sF 0) g1 (am_sto g1 6 0 t v) := m_fr.rf.sto (sF_in (by omega))
      refine ⟨_, rfl, r5 _ _ hf ?_, r4.tr hf.FC⟩
      refine ⟨by rw [m_sto_ne (by simp)]; exact r2.1, by rw [m_sto_ne (by simp)]; exact r2.2.1, fun z hz => ?_⟩
      rw [m_sto_ne (by simp), m_sto_ne (by simp), m_sto_ne (by simp), m_sto_ne (by simp), m_sto]
      obtain ⟨a1, a2, a3, a4⟩ := r2.2.2 z hz
      refine ⟨a1, a2, a3, ?_⟩
      show _ = uo (fV (aF σ)) t v z
      unfold uo
      split
      · rfl
      · exact a4
    · rw [C_isWithin_f (d + 7) g e, bi_some, if_pos rfl, if_neg e]; exact ⟨g, rfl, h, m_fr.rf⟩
end AA
