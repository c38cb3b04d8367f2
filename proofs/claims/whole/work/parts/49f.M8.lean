/-! ===== the model: undo, images, ways longer and shorter ===== -/
section MM
variable {g : am_G} {σ : aS}
theorem P_undo (d : Nat) (h : rMo g σ) (ho : a_ok σ) : SimM (am_call (d + 9) 145 [.inr (.inr (29, 0))] g) g (o_undo σ) := by
  have h0 := h.put131 0
  rw [cM_undo, eM_undo_0, h0.2.2.2.1.1]
  unfold o_undo
  rcases List.eq_nil_or_concat (aU σ) with e | ⟨U, G, e⟩
  · rw [e]
    exact ⟨_, rfl, h0, m131⟩
  · rw [List.concat_eq_append] at e
    have e1 : (aU σ).getLast? = some G := by rw [e]; simp
    have e2 : (aU σ).dropLast = U := by rw [e]; simp
    have e3 : (aU σ).length = U.length + 1 := by rw [e]; simp
    have hl := ho.2.2.2.2.2.2.1
    obtain ⟨hGw, hGn⟩ := ho.2.2.1 G (by rw [e]; simp)
    obtain ⟨⟨a1, a2⟩, hb, ⟨c1, c2⟩, ⟨d1, d2⟩, ⟨i1, i2⟩, ⟨f1, f2⟩, ⟨h1, h2⟩, j1⟩ := h0
    obtain ⟨g1, k1, k2, k3⟩ := M_copyBank (d + 7) (f := 4 + U.length) (t := 0) (by omega) (by omega) (by omega) (am_put (am_put g 131 0 (0 : Int32)) 140 0 (nI U.length))
    have es : nI (U.length + 1) - 1 = nI U.length := by rw [show (1 : Int32) = nI 1 from rfl, pk_sub (by omega), Nat.add_sub_cancel]
    have hp : ∀ {g : am_G} {b : Nat} {F : fF} (x : Int32), rMk g b F → rMk (am_put g 140 0 x) b F := fun x q => ⟨by rw [m_put_ne (by simp)]; exact q.1, fun t ht => by rw [m_put_ne (by simp)]; exact q.2 t ht⟩
    have k1' : am_call (d + 8) 143 [.inr (.inr (29, 0)), .inl ((4 : Int32) + (am_put (am_put g 131 0 (0 : Int32)) 140 0 (nI U.length)) 140 0 0), .inl (0 : Int32)] (am_put (am_put g 131 0 (0 : Int32)) 140 0 (nI U.length)) = some (none, g1) := by
      rw [m_put, show (4 : Int32) = nI 4 from rfl, nI_add]; exact k1
    have e140 : g1 140 0 0 = nI U.length := by rw [k3.1 140 0 (by simp), m_put]
    rw [e3, if_neg (by rw [nI_len0 (by omega)]; omega), es, k1', bv_some, e1, e140]
    dsimp only
    rw [e2, Nat.add_sub_cancel]
    have z : ∀ c j, ¬ (c = 32 ∧ j = 0) → ¬ (c = 140 ∧ j = 0) → g1 c j = am_put g 131 0 (0 : Int32) c j := fun c j q q' => by rw [k3.1 c j q, m_put_ne q']
    have hGk : rMk (am_put g 131 0 (0 : Int32)) (4 + U.length) G := d2 U.length G (by rw [e]; simp)
    refine ⟨g1, rfl, ⟨⟨by rw [z _ _ (by simp) (by simp)]; exact a1, fun k x hk => by rw [z _ _ (by simp) (by simp)]; exact a2 k x hk⟩, ⟨(hp _ hGk).copy hGw.1 k2, by rw [z _ _ (by simp) (by simp)]; exact hb.2.1, by omega, by rw [z _ _ (by simp) (by simp), hb.2.2.2]; show nI (fN (aF σ)) = nI (fN G); rw [hGn]⟩, ⟨fun k x hk => by rw [z _ _ (by simp) (by simp)]; exact c1 k x hk, by rw [z _ _ (by simp) (by simp)]; exact c2⟩, ⟨e140, fun j G' hj => ?_⟩, ⟨by rw [z _ _ (by simp) (by simp)]; exact i1, fun G' hG' => (hp _ (i2 G' hG')).fr (ho.2.2.2.1 G' hG').1.1 k3 (by omega)⟩, ⟨by rw [z _ _ (by simp) (by simp)]; exact f1, fun l hl k x hx => by rw [z _ _ (by simp) (by simp)]; exact f2 l hl k x hx⟩, ⟨by rw [z _ _ (by simp) (by simp)]; exact h1, by rw [z _ _ (by simp) (by simp)]; exact h2⟩, fun k x hk => by rw [z _ _ (by simp) (by simp)]; exact j1 k x hk⟩, (m131.tr (m_fr.put m_fr.rf (by unfold sMd; omega))).tr k3.M⟩
    have hj : U[j]? = some G' := hj
    have hjU : (aU σ)[j]? = some G' := by rw [e, List.getElem?_append_left (List.getElem?_eq_some_iff.mp hj).1]; exact hj
    exact (hp _ (d2 j G' hjU)).fr (ho.uok j G' hjU) k3 (by omega)
theorem P_keep (d : Nat) (h : rMo g σ) (ho : a_ok σ) : SimM (am_call (d + 9) 146 [.inr (.inr (29, 0))] g) g (o_keep σ) := by
  have h0 := h.put131 0
  obtain ⟨⟨a1, a2⟩, hb, ⟨c1, c2⟩, ⟨d1, d2⟩, ⟨i1, i2⟩, ⟨f1, f2⟩, ⟨h1, h2⟩, j1⟩ := h0
  obtain ⟨g1, k1, k2, k3⟩ := M_copyBank (d + 7) (f := 0) (t := 2) (by omega) (by omega) (by omega) (am_put g 131 0 (0 : Int32))
  have k1' : am_call (d + 8) 143 [.inr (.inr (29, 0)), .inl (0 : Int32), .inl (2 : Int32)] (am_put g 131 0 (0 : Int32)) = some (none, g1) := k1
  have hp : ∀ {g : am_G} {b : Nat} {F : fF} (x : Int32), rMk g b F → rMk (am_put g 141 0 x) b F := fun x q => ⟨by rw [m_put_ne (by simp)]; exact q.1, fun t ht => by rw [m_put_ne (by simp)]; exact q.2 t ht⟩
  have z : ∀ c j, ¬ (c = 32 ∧ j = 0) → ¬ (c = 141 ∧ j = 0) → am_put g1 141 0 (1 : Int32) c j = am_put g 131 0 (0 : Int32) c j := fun c j q q' => by rw [m_put_ne q', k3.1 c j q]
  have hF : rMa (am_put g1 141 0 (1 : Int32)) 0 (aF σ) := ⟨hp _ (hb.1.fr ho.1.1 k3 (by omega)), by rw [z _ _ (by simp) (by simp)]; exact hb.2.1, by omega, by rw [z _ _ (by simp) (by simp)]; exact hb.2.2.2⟩
  rw [cM_keep, eM_keep_0, k1', bv_some, M_trees (d + 4) hF ho.1, bi_some]
  unfold o_keep
  refine ⟨_, rfl, ⟨⟨by rw [z _ _ (by simp) (by simp)]; exact a1, fun k x hk => by rw [z _ _ (by simp) (by simp)]; exact a2 k x hk⟩, hF, ⟨fun k x hk => by rw [z _ _ (by simp) (by simp)]; exact c1 k x hk, by rw [z _ _ (by simp) (by simp)]; exact c2⟩, ⟨by rw [z _ _ (by simp) (by simp)]; exact d1, fun j G hj => hp _ ((d2 j G hj).fr (ho.uok j G hj) k3 (by omega))⟩, ⟨m_put _ _ _ _ _, fun G hG => ?_⟩, ⟨by rw [z _ _ (by simp) (by simp)]; exact f1, fun l hl k x hx => by rw [z _ _ (by simp) (by simp)]; exact f2 l hl k x hx⟩, ⟨by rw [z _ _ (by simp) (by simp)]; exact h1, by rw [z _ _ (by simp) (by simp)]; exact h2⟩, fun k x hk => by rw [z _ _ (by simp) (by simp)]; exact j1 k x hk⟩, (m131.tr k3.M).tr (m_fr.put m_fr.rf (by unfold sMd; omega))⟩
  cases hG
  exact hp _ (hb.1.copy ho.1.1 k2)
theorem P_back (d : Nat) (h : rMo g σ) (ho : a_ok σ) : SimM (am_call (d + 9) 147 [.inr (.inr (29, 0))] g) g (o_back σ) := by
  have h0 := h.put131 0
  rw [cM_back, eM_back_0, h0.2.2.2.2.1.1]
  unfold o_back
  cases hI : aI σ with
  | none => rw [if_pos (show b01 (none : Option fF).isSome = 0 from rfl)]; exact ⟨_, rfl, h0, m131⟩
  | some G =>
    obtain ⟨hGw, hGn⟩ := ho.2.2.2.1 G hI
    obtain ⟨⟨a1, a2⟩, hb, ⟨c1, c2⟩, ⟨d1, d2⟩, ⟨i1, i2⟩, ⟨f1, f2⟩, ⟨h1, h2⟩, j1⟩ := h0
    obtain ⟨g1, k1, k2, k3⟩ := M_copyBank (d + 7) (f := 2) (t := 0) (by omega) (by omega) (by omega) (am_put g 131 0 (0 : Int32))
    have k1' : am_call (d + 8) 143 [.inr (.inr (29, 0)), .inl (2 : Int32), .inl (0 : Int32)] (am_put g 131 0 (0 : Int32)) = some (none, g1) := k1
    have hp : ∀ {g : am_G} {b : Nat} {F : fF} (x : Int32), rMk g b F → rMk (am_put g 140 0 x) b F := fun x q => ⟨by rw [m_put_ne (by simp)]; exact q.1, fun t ht => by rw [m_put_ne (by simp)]; exact q.2 t ht⟩
    have z : ∀ c j, ¬ (c = 32 ∧ j = 0) → ¬ (c = 140 ∧ j = 0) → am_put g1 140 0 (0 : Int32) c j = am_put g 131 0 (0 : Int32) c j := fun c j q q' => by rw [m_put_ne q', k3.1 c j q]
    have hF : rMa (am_put g1 140 0 (0 : Int32)) 0 G := ⟨hp _ ((i2 G hI).copy hGw.1 k2), by rw [z _ _ (by simp) (by simp)]; exact hb.2.1, by omega, by rw [z _ _ (by simp) (by simp), hb.2.2.2, hGn]⟩
    rw [if_neg (show ¬ b01 (some G).isSome = 0 from q_110), k1', bv_some, M_trees (d + 4) hF hGw, bi_some]
    refine ⟨_, rfl, ⟨⟨by rw [z _ _ (by simp) (by simp)]; exact a1, fun k x hk => by rw [z _ _ (by simp) (by simp)]; exact a2 k x hk⟩, hF, ⟨fun k x hk => by rw [z _ _ (by simp) (by simp)]; exact c1 k x hk, by rw [z _ _ (by simp) (by simp)]; exact c2⟩, ⟨m_put _ _ _ _ _, fun j G hj => by cases hj⟩, ⟨by rw [z _ _ (by simp) (by simp), i1, hI], fun G' hG' => ?_⟩, ⟨by rw [z _ _ (by simp) (by simp)]; exact f1, fun l hl k x hx => by rw [z _ _ (by simp) (by simp)]; exact f2 l hl k x hx⟩, ⟨by rw [z _ _ (by simp) (by simp)]; exact h1, by rw [z _ _ (by simp) (by simp)]; exact h2⟩, fun k x hk => by rw [z _ _ (by simp) (by simp)]; exact j1 k x hk⟩, (m131.tr k3.M).tr (m_fr.put m_fr.rf (by unfold sMd; omega))⟩
    cases hG'
    exact hp _ ((i2 G hI).fr hGw.1 k3 (by omega))
end MM
section MR
variable {g : am_G} {F : fF}
theorem M_parS (d : Nat) {b : Nat} (h1 : g 139 0 0 = nI b) (hb : b < 24) {t : Nat} (ht : t < 24) : am_call (d + 2) 150 [.inr (.inr (29, 0)), .inl (nI t)] g = some (some (.inl (g 32 0 (121 * b + t))), g) := by
  rw [cM_parent, eM_parent_0, k_0, M_of d h1 hb (by omega), bi_some]
def exR (d : Nat) (g : am_G) (n : Nat) (bs : Bool) : Option am_R := if b01 bs = 0 then some (some (.inl (-3 : Int32)), am_put g 139 0 (0 : Int32)) else am_bv (am_call (d + 8) 144 [.inr (.inr (29, 0))] (am_put g 139 0 (0 : Int32))) (fun g2 => am_bv (am_call (d + 8) 143 [.inr (.inr (29, 0)), .inl (1 : Int32), .inl (0 : Int32)] g2) (fun g3 => some (some (.inl (nI n)), g3)))
theorem dl_some {par : Nat → Option Nat} (x p : Nat) : (x :: f_a par p).dropLast = x :: (f_a par p).dropLast := by
  obtain ⟨r, er⟩ := f_a_hd par p
  rw [er]; rfl
theorem b01_t : ¬ b01 true = 0 := q_110
theorem b01_f : b01 false = 0 := rfl
theorem dl_len {par : Nat → Option Nat} (x : Nat) : (f_a par x).dropLast.length = (f_a par x).length - 1 := List.length_dropLast
theorem f_upd_pos {f : Nat → Nat} {L : List Nat} {x : Int} {z : Nat} (h : z ∈ L) : f_upd f L x z = ((f z : Int) + x).toNat := if_pos h
theorem f_upd_neg {f : Nat → Nat} {L : List Nat} {x : Int} {z : Nat} (h : z ∉ L) : f_upd f L x z = f z := if_neg h
theorem kw_cons (v : Nat) (l : List Nat) (x lo : Int) : f_kw (v :: l) x lo = (decide (lo ≤ (v : Int) + x ∧ (v : Int) + x ≤ 9999) && f_kw l x lo) := rfl
theorem kw_rev (l : List Nat) (x lo : Int) : f_kw l.reverse x lo = f_kw l x lo := by
  unfold f_kw
  rw [List.all_reverse]
theorem q_subInt {l : Nat} {x : Int32} (hl : l ≤ 9999) (hx : -9999 ≤ x.toInt ∧ x.toInt ≤ 9999) : (nI l - x).toInt = (l : Int) - x.toInt := by
  have e := nI_toInt (n := l) (by omega)
  rw [fb_subI (by omega) (by omega), e]
theorem P_raise_loop (d : Nat) (hw : f_wf F) (x1 x2 : Int32) {δ : Int32} (hδ : -9999 ≤ δ.toInt ∧ δ.toInt ≤ 9999) : ∀ (k x : Nat) (g : am_G) (n0 : Nat) (bs : Bool), x < fN F → (f_a (fP F) x).length ≤ k → g 139 0 0 = nI 1 → (∀ t, t < fN F → g 32 0 (121 * 1 + t) = eM (fP F t)) → (∀ t ∈ f_a (fP F) x, g 32 0 (121 * 1 + (48 + t)) = eM ((fP F t).map fun _ => fL F t)) →
    ∃ g', am_run (am_call (d + 8)) 188 k 40 [some (.inr (.inr (29, 0))), some (.inl x1), some (.inl x2), some (.inl δ), some (.inl (nI n0)), some (.inl (b01 bs)), some (.inl (nI x))] [] g = exR d g' (n0 + (f_a (fP F) x).dropLast.length) (bs && f_kw ((f_a (fP F) x).dropLast.map (fL F)) (δ.toInt) 1) ∧ (∀ z ∈ (f_a (fP F) x).dropLast, g' 32 0 (121 * 1 + (48 + z)) = nI (fL F z) + δ) ∧ (∀ j, j < 121 → (∀ z ∈ (f_a (fP F) x).dropLast, j ≠ 48 + z) → g' 32 0 (121 * 1 + j) = g 32 0 (121 * 1 + j)) ∧ mB 1 g g'
  | 0, x, g, n0, bs, hx, hk, h139, hP, hL => by have := f_a_pos (fP F) x; omega
  | k + 1, x, g, n0, bs, hx, hk, h139, hP, hL => by
    have hn := hw.1
    have hpar := M_parS (d + 6) h139 (by omega) (t := x) (by omega)
    rw [hP x hx] at hpar
    rw [eM_raise_40, hpar, bi_some]
    cases hp : fP F x with
    | none =>
      rw [eM_none, if_pos (by decide), hw.an hx hp]
      refine ⟨g, ?_, fun z hz => (by cases hz), fun _ _ _ => rfl, mB.rf⟩
      unfold exR
      simp only [List.dropLast_singleton, List.map_nil, List.length_nil, Nat.add_zero]
      rw [show f_kw [] (δ.toInt) 1 = true from rfl, Bool.and_true]
    | some p =>
      have hpn := hw.p hx hp
      have hpt : fP F x ≠ none := by rw [hp]; simp
      have hlt := len_some hw hx hpt
      have hnd := f_a_nd hw.2.1 hx
      rw [hw.as hx hp] at hk hL hnd ⊢
      rw [List.length_cons] at hk
      have hlx : g 32 0 (121 * 1 + (48 + x)) = nI (fL F x) := by rw [hL x List.mem_cons_self]; exact hlt.1
      have hof : am_call (d + 8) 141 [.inr (.inr (29, 0)), .inl ((48 : Int32) + nI x)] g = some (some (.inl (nI (fL F x))), g) := by
        rw [k_48, M_of (d + 7) h139 (by omega) (by omega), hlx]
      have hxn : x ∉ f_a (fP F) p := (List.nodup_cons.mp hnd).1
      have hB := mst_B g (b := 1) (k := 48 + x) (by omega) (nI (fL F x) + δ)
      have h139' : mst g 1 (48 + x) (nI (fL F x) + δ) 139 0 0 = nI 1 := by rw [mst_o _ _ _ _ (by simp)]; exact h139
      have hP' : ∀ t, t < fN F → mst g 1 (48 + x) (nI (fL F x) + δ) 32 0 (121 * 1 + t) = eM (fP F t) := fun t ht => by
        rw [mst_at, if_neg (by omega)]; exact hP t ht
      have hL' : ∀ t ∈ f_a (fP F) p, mst g 1 (48 + x) (nI (fL F x) + δ) 32 0 (121 * 1 + (48 + t)) = eM ((fP F t).map fun _ => fL F t) := fun t ht => by
        rw [mst_at, if_neg (fun q => hxn (by rw [show x = t by omega]; exact ht))]
        exact hL t (List.mem_cons_of_mem _ ht)
      have hpar' := M_parS (d + 6) h139' (by omega) (t := x) (by omega)
      rw [hP' x hx, hp, eM_some] at hpar'
      have hlay : am_call (d + 8) 142 [.inr (.inr (29, 0)), .inl ((48 : Int32) + nI x), .inl (nI (fL F x) + δ)] g = some (none, mst g 1 (48 + x) (nI (fL F x) + δ)) := by
        rw [k_48, M_lay (d + 7) h139 (by omega) (by omega)]
      have go : ∀ bs', ∃ g', am_run (am_call (d + 8)) 188 k 40 [some (.inr (.inr (29, 0))), some (.inl x1), some (.inl x2), some (.inl δ), some (.inl (nI (n0 + 1))), some (.inl (b01 bs')), some (.inl (nI p))] [] (mst g 1 (48 + x) (nI (fL F x) + δ)) = exR d g' (n0 + (x :: f_a (fP F) p).dropLast.length) (bs' && f_kw ((f_a (fP F) p).dropLast.map (fL F)) (δ.toInt) 1) ∧ (∀ z ∈ (x :: f_a (fP F) p).dropLast, g' 32 0 (121 * 1 + (48 + z)) = nI (fL F z) + δ) ∧ (∀ j, j < 121 → (∀ z ∈ (x :: f_a (fP F) p).dropLast, j ≠ 48 + z) → g' 32 0 (121 * 1 + j) = g 32 0 (121 * 1 + j)) ∧ mB 1 g g' := by
        intro bs'
        obtain ⟨g', k1, k2, k3, k4⟩ := P_raise_loop d hw x1 x2 hδ k p (mst g 1 (48 + x) (nI (fL F x) + δ)) (n0 + 1) bs' hpn (by omega) h139' hP' hL'
        rw [dl_some]
        refine ⟨g', ?_, fun z hz => ?_, fun j hj hjz => ?_, hB.tr k4⟩
        · rw [k1, List.length_cons, show n0 + 1 + (f_a (fP F) p).dropLast.length = n0 + ((f_a (fP F) p).dropLast.length + 1) by omega]
        · rcases List.mem_cons.mp hz with rfl | hz
          · rw [k3 (48 + z) (by omega) (fun z' hz' q => hxn (by rw [show z = z' by omega]; exact (List.dropLast_sublist _).subset hz')), mst_at, if_pos rfl]
          · exact k2 z hz
        · rw [k3 j hj (fun z hz => hjz z (List.mem_cons_of_mem _ hz)), mst_at, if_neg (hjz x List.mem_cons_self)]
      rw [eM_some, if_neg (q_nn (q24 hn hpn)), nI_1]
      have hint := q_addInt (l := fL F x) (by omega) hδ
      have hdec : decide ((1 : Int) ≤ (fL F x : Int) + (δ.toInt) ∧ (fL F x : Int) + (δ.toInt) ≤ 9999) = true ↔ (1 ≤ nI (fL F x) + δ ∧ nI (fL F x) + δ ≤ 9999) := by
        rw [decide_eq_true_iff, q_le, q_le, hint, q_9999, show (1 : Int32).toInt = 1 from rfl]
        try omega
      have hmap : (x :: f_a (fP F) p).dropLast.map (fL F) = fL F x :: (f_a (fP F) p).dropLast.map (fL F) := by rw [dl_some]; rfl
      cases bs with
      | false =>
        rw [if_pos b01_f, hof, bi_some, hlay, bv_some, hpar', bi_some]
        obtain ⟨g', k1, k2, k3, k4⟩ := go false
        refine ⟨g', ?_, k2, k3, k4⟩
        rw [Bool.false_and] at k1 ⊢
        exact k1
      | true =>
        rw [if_neg b01_t, hof, bi_some, hmap, kw_cons]
        by_cases hc : 1 ≤ nI (fL F x) + δ ∧ nI (fL F x) + δ ≤ 9999
        · rw [M_isLength_t (d + 6) g hc, bi_some, if_neg q_110, hof, bi_some, hlay, bv_some, hpar', bi_some]
          obtain ⟨g', k1, k2, k3, k4⟩ := go true
          refine ⟨g', ?_, k2, k3, k4⟩
          rw [hdec.mpr hc, Bool.true_and]
          exact k1
        · rw [M_isLength_f (d + 6) g hc, bi_some, if_pos rfl, hof, bi_some, hlay, bv_some, hpar', bi_some]
          obtain ⟨g', k1, k2, k3, k4⟩ := go false
          refine ⟨g', ?_, k2, k3, k4⟩
          have hd : decide ((1 : Int) ≤ (fL F x : Int) + (δ.toInt) ∧ (fL F x : Int) + (δ.toInt) ≤ 9999) = false := by
            cases hq : decide ((1 : Int) ≤ (fL F x : Int) + (δ.toInt) ∧ (fL F x : Int) + (δ.toInt) ≤ 9999) with
            | false => rfl
            | true => exact absurd (hdec.mp hq) hc
          rw [hd, Bool.false_and, Bool.and_false]
          rw [Bool.false_and] at k1
          exact k1
theorem P_raise {σ : aS} (d : Nat) (h : rMo g σ) (ho : a_ok σ) (x y z : Int32) : SimM (am_call (d + 9) 188 [.inr (.inr (29, 0)), .inl x, .inl y, .inl z] g) g (o_raise σ x y z) := by
  have h0 := h.put131 0
  rw [cM_raise, eM_raise_0]
  unfold o_raise
  rcases tw2_cs _ ho.1.1 x y with ⟨h1, h2⟩ | ⟨a, b, ha, hb, rfl, rfl, h3⟩
  · rw [h1, M_areTowns_f (d + 5) h0.2.1.2.2.2 ho.1.1 h2, bi_some, if_pos rfl]; exact ⟨_, rfl, h0, m131⟩
  · rw [h3, M_areTowns_t (d + 5) h0.2.1.2.2.2 ho.1.1 (isT_n ho.1.1 ha) (isT_n ho.1.1 hb), bi_some, if_neg q_110]
    dsimp only
    by_cases ez : -9999 ≤ z ∧ z ≤ 9999
    · have hz := q_rng ez
      rw [M_isIn_t (d + 7) _ ez, bi_some, if_neg q_110, if_pos ez, M_areTogether (d + 4) h0.2.1 ho.1 ha hb, bi_some]
      by_cases er : f_r (fP (aF σ)) a = f_r (fP (aF σ)) b
      · obtain ⟨g1, t1, t2, t3, t4⟩ := h0.try1 (d + 7) ho
        obtain ⟨g2, k1, k2, k3⟩ := M_walks (d + 2) t2 ho.1 ha hb
        have hw2 := wf_walk ho.1 ha hb
        have hN2 : fN (f_walk (aF σ) a b) = fN (aF σ) := wk_N
        have hal := hw2.al (t := b) (by rw [hN2]; exact hb)
        obtain ⟨g3, l1, l2, l3, l4⟩ := P_raise_loop d hw2 (nI a) (nI b) hz 99999 b g2 0 true (by rw [hN2]; exact hb) (by omega) k2.2.1 (fun t ht => k2.p ht) (fun t ht => k2.l (f_a_lt hw2.2.1 (by rw [hN2]; exact hb) ht))
        have hup := walk_up ho.1 ha hb er
        rw [hup] at l1 l2 l3
        have hmm : ∀ w : Nat, w ∈ (f_way (fP (aF σ)) a b).tail.reverse ↔ w ∈ (f_way (fP (aF σ)) a b).tail := fun w => List.mem_reverse
        have hkw : f_kw ((f_way (fP (aF σ)) a b).tail.reverse.map (fL (f_walk (aF σ) a b))) (z.toInt) 1 = f_kw (wsL (aF σ) a b) (z.toInt) 1 := by
          rw [List.map_reverse, kw_rev, walk_wsL ho.1 ha hb er]
        have hlen : 0 + (f_way (fP (aF σ)) a b).tail.reverse.length = (f_way (fP (aF σ)) a b).length - 1 := by rw [List.length_reverse, List.length_tail]; omega
        rw [hkw, Bool.true_and, hlen] at l1
        have hM := t4 g3 (k3.tr l4)
        have hfr : m_fr sMd g (am_put g3 139 0 (0 : Int32)) := ((m131.tr t3).tr (m_p139 _)).tr (k3.tr l4).p139
        rw [if_pos er, if_neg q_110, t1, bv_some, k1, bi_some, if_pos er]
        by_cases ek : f_kw (wsL (aF σ) a b) (z.toInt) 1 = true
        · rw [if_pos ek]
          rw [ek] at l1
          have hin := kw_tail ek (walk_wsL ho.1 ha hb er)
          have hk1 : rMk (am_put g3 139 0 (0 : Int32)) 1 (f_wL (f_walk (aF σ) a b) (f_upd (fL (f_walk (aF σ) a b)) (f_way (fP (aF σ)) a b).tail (z.toInt))) := by
            refine rMk.p139 0 ⟨?_, fun t ht => ?_⟩
            · rw [l3 120 (by omega) (fun z hz => by have := f_way_lt ho.1.2.1 ho.1.1 ha hb z (List.mem_of_mem_tail ((hmm z).mp hz)); have := ho.1.1; omega)]
              exact k2.1.1
            · have ht : t < fN (f_walk (aF σ) a b) := ht
              have h24 := hw2.1
              have hzl : ∀ z ∈ (f_way (fP (aF σ)) a b).tail.reverse, z < fN (aF σ) := fun z hz => f_way_lt ho.1.2.1 ho.1.1 ha hb z (List.mem_of_mem_tail ((hmm z).mp hz))
              have h24' := ho.1.1
              obtain ⟨b1, b2, b3, b4, b5⟩ := k2.1.2 t ht
              have e0 := l3 t (by omega) (fun z hz => by have := hzl z hz; omega)
              have e1 := l3 (24 + t) (by omega) (fun z hz => by have := hzl z hz; omega)
              have e3 := l3 (72 + t) (by omega) (fun z hz => by have := hzl z hz; omega)
              have e4 := l3 (96 + t) (by omega) (fun z hz => by have := hzl z hz; omega)
              refine ⟨e0.trans b1, e1.trans b2, ?_, e3.trans b4, e4.trans b5⟩
              show g3 32 0 (121 * 1 + (48 + t)) = eM ((fP (f_walk (aF σ) a b) t).map fun _ => f_upd (fL (f_walk (aF σ) a b)) (f_way (fP (aF σ)) a b).tail (z.toInt) t)
              by_cases hm : t ∈ (f_way (fP (aF σ)) a b).tail
              · rw [l2 t ((hmm t).mpr hm), f_upd_pos hm]
                have hr2 := hin t hm
                obtain ⟨k, hk⟩ := List.mem_iff_getElem?.mp hm
                rw [List.getElem?_tail] at hk
                obtain ⟨u, hu⟩ : ∃ u, (f_way (fP (aF σ)) a b)[k]? = some u := ⟨_, List.getElem?_eq_getElem (by have := (List.getElem?_eq_some_iff.mp hk).1; omega)⟩
                rw [way_up ho.1 ha hb er hu hk]
                show _ = nI (((fL (f_walk (aF σ) a b) t : Nat) : Int) + z.toInt).toNat
                rw [q_eq, nI_toInt (by omega), q_addInt (by have := hw2.2.2.2 t ht (by rw [way_up ho.1 ha hb er hu hk]; simp); omega) hz]
                omega
              · rw [l3 (48 + t) (by omega) (fun z hz q => hm (by rw [show t = z by omega]; exact (hmm z).mp hz)), f_upd_neg hm]
                exact b3
          obtain ⟨g4, g5, m1, m2, m3, m4⟩ := hM.commit (d + 6) ho hk1 hN2
          unfold exR at l1
          rw [if_neg b01_t, m1, bv_some, m2, bv_some] at l1
          exact ⟨g5, l1, m3, hfr.tr m4⟩
        · rw [if_neg ek]
          have ek' : f_kw (wsL (aF σ) a b) (z.toInt) 1 = false := by
            cases hq : f_kw (wsL (aF σ) a b) (z.toInt) 1 with
            | false => rfl
            | true => exact absurd hq ek
          rw [ek'] at l1
          exact ⟨_, l1, hM, hfr⟩
      · rw [if_neg er, if_pos rfl, if_neg er]; exact ⟨_, rfl, h0, m131⟩
    · rw [M_isIn_f (d + 7) _ ez, bi_some, if_pos rfl, if_neg ez]; exact ⟨_, rfl, h0, m131⟩
theorem P_send_loop (d : Nat) (hw : f_wf F) (x1 x2 : Int32) {δ : Int32} (hδ : -9999 ≤ δ.toInt ∧ δ.toInt ≤ 9999) : ∀ (k x : Nat) (g : am_G) (n0 : Nat) (bs : Bool), x < fN F → (f_a (fP F) x).length ≤ k → g 139 0 0 = nI 1 → (∀ t, t < fN F → g 32 0 (121 * 1 + t) = eM (fP F t)) → (∀ t ∈ f_a (fP F) x, g 32 0 (121 * 1 + (72 + t)) = eM ((fP F t).map fun _ => fC F t)) →
    ∃ g', am_run (am_call (d + 8)) 189 k 40 [some (.inr (.inr (29, 0))), some (.inl x1), some (.inl x2), some (.inl δ), some (.inl (nI n0)), some (.inl (b01 bs)), some (.inl (nI x))] [] g = exR d g' (n0 + (f_a (fP F) x).dropLast.length) (bs && f_kw ((f_a (fP F) x).dropLast.map (fC F)) (-δ.toInt) 0) ∧ (∀ z ∈ (f_a (fP F) x).dropLast, g' 32 0 (121 * 1 + (72 + z)) = nI (fC F z) - δ) ∧ (∀ j, j < 121 → (∀ z ∈ (f_a (fP F) x).dropLast, j ≠ 72 + z) → g' 32 0 (121 * 1 + j) = g 32 0 (121 * 1 + j)) ∧ mB 1 g g'
  | 0, x, g, n0, bs, hx, hk, h139, hP, hL => by have := f_a_pos (fP F) x; omega
  | k + 1, x, g, n0, bs, hx, hk, h139, hP, hL => by
    have hn := hw.1
    have hpar := M_parS (d + 6) h139 (by omega) (t := x) (by omega)
    rw [hP x hx] at hpar
    rw [eM_send_40, hpar, bi_some]
    cases hp : fP F x with
    | none =>
      rw [eM_none, if_pos (by decide), hw.an hx hp]
      refine ⟨g, ?_, fun z hz => (by cases hz), fun _ _ _ => rfl, mB.rf⟩
      unfold exR
      simp only [List.dropLast_singleton, List.map_nil, List.length_nil, Nat.add_zero]
      rw [show f_kw [] (-δ.toInt) 0 = true from rfl, Bool.and_true]
    | some p =>
      have hpn := hw.p hx hp
      have hpt : fP F x ≠ none := by rw [hp]; simp
      have hlt := cap_some hw hx hpt
      have hnd := f_a_nd hw.2.1 hx
      rw [hw.as hx hp] at hk hL hnd ⊢
      rw [List.length_cons] at hk
      have hlx : g 32 0 (121 * 1 + (72 + x)) = nI (fC F x) := by rw [hL x List.mem_cons_self]; exact hlt.1
      have hof : am_call (d + 8) 141 [.inr (.inr (29, 0)), .inl ((72 : Int32) + nI x)] g = some (some (.inl (nI (fC F x))), g) := by
        rw [k_72, M_of (d + 7) h139 (by omega) (by omega), hlx]
      have hxn : x ∉ f_a (fP F) p := (List.nodup_cons.mp hnd).1
      have hB := mst_B g (b := 1) (k := 72 + x) (by omega) (nI (fC F x) - δ)
      have h139' : mst g 1 (72 + x) (nI (fC F x) - δ) 139 0 0 = nI 1 := by rw [mst_o _ _ _ _ (by simp)]; exact h139
      have hP' : ∀ t, t < fN F → mst g 1 (72 + x) (nI (fC F x) - δ) 32 0 (121 * 1 + t) = eM (fP F t) := fun t ht => by
        rw [mst_at, if_neg (by omega)]; exact hP t ht
      have hL' : ∀ t ∈ f_a (fP F) p, mst g 1 (72 + x) (nI (fC F x) - δ) 32 0 (121 * 1 + (72 + t)) = eM ((fP F t).map fun _ => fC F t) := fun t ht => by
        rw [mst_at, if_neg (fun q => hxn (by rw [show x = t by omega]; exact ht))]
        exact hL t (List.mem_cons_of_mem _ ht)
      have hpar' := M_parS (d + 6) h139' (by omega) (t := x) (by omega)
      rw [hP' x hx, hp, eM_some] at hpar'
      have hlay : am_call (d + 8) 142 [.inr (.inr (29, 0)), .inl ((72 : Int32) + nI x), .inl (nI (fC F x) - δ)] g = some (none, mst g 1 (72 + x) (nI (fC F x) - δ)) := by
        rw [k_72, M_lay (d + 7) h139 (by omega) (by omega)]
      have go : ∀ bs', ∃ g', am_run (am_call (d + 8)) 189 k 40 [some (.inr (.inr (29, 0))), some (.inl x1), some (.inl x2), some (.inl δ), some (.inl (nI (n0 + 1))), some (.inl (b01 bs')), some (.inl (nI p))] [] (mst g 1 (72 + x) (nI (fC F x) - δ)) = exR d g' (n0 + (x :: f_a (fP F) p).dropLast.length) (bs' && f_kw ((f_a (fP F) p).dropLast.map (fC F)) (-δ.toInt) 0) ∧ (∀ z ∈ (x :: f_a (fP F) p).dropLast, g' 32 0 (121 * 1 + (72 + z)) = nI (fC F z) - δ) ∧ (∀ j, j < 121 → (∀ z ∈ (x :: f_a (fP F) p).dropLast, j ≠ 72 + z) → g' 32 0 (121 * 1 + j) = g 32 0 (121 * 1 + j)) ∧ mB 1 g g' := by
        intro bs'
        obtain ⟨g', k1, k2, k3, k4⟩ := P_send_loop d hw x1 x2 hδ k p (mst g 1 (72 + x) (nI (fC F x) - δ)) (n0 + 1) bs' hpn (by omega) h139' hP' hL'
        rw [dl_some]
        refine ⟨g', ?_, fun z hz => ?_, fun j hj hjz => ?_, hB.tr k4⟩
        · rw [k1, List.length_cons, show n0 + 1 + (f_a (fP F) p).dropLast.length = n0 + ((f_a (fP F) p).dropLast.length + 1) by omega]
        · rcases List.mem_cons.mp hz with rfl | hz
          · rw [k3 (72 + z) (by omega) (fun z' hz' q => hxn (by rw [show z = z' by omega]; exact (List.dropLast_sublist _).subset hz')), mst_at, if_pos rfl]
          · exact k2 z hz
        · rw [k3 j hj (fun z hz => hjz z (List.mem_cons_of_mem _ hz)), mst_at, if_neg (hjz x List.mem_cons_self)]
      rw [eM_some, if_neg (q_nn (q24 hn hpn)), nI_1]
      have hint := q_subInt (l := fC F x) (by omega) hδ
      have hdec : decide ((0 : Int) ≤ (fC F x : Int) + (-δ.toInt) ∧ (fC F x : Int) + (-δ.toInt) ≤ 9999) = true ↔ (0 ≤ nI (fC F x) - δ ∧ nI (fC F x) - δ ≤ 9999) := by
        rw [decide_eq_true_iff, q_le, q_le, hint, q_9999, show (0 : Int32).toInt = 0 from rfl]
        try omega
      have hmap : (x :: f_a (fP F) p).dropLast.map (fC F) = fC F x :: (f_a (fP F) p).dropLast.map (fC F) := by rw [dl_some]; rfl
      cases bs with
      | false =>
        rw [if_pos b01_f, hof, bi_some, hlay, bv_some, hpar', bi_some]
        obtain ⟨g', k1, k2, k3, k4⟩ := go false
        refine ⟨g', ?_, k2, k3, k4⟩
        rw [Bool.false_and] at k1 ⊢
        exact k1
      | true =>
        rw [if_neg b01_t, hof, bi_some, hmap, kw_cons]
        by_cases hc : 0 ≤ nI (fC F x) - δ ∧ nI (fC F x) - δ ≤ 9999
        · rw [M_isIn_t (d + 7) g hc, bi_some, if_neg q_110, hof, bi_some, hlay, bv_some, hpar', bi_some]
          obtain ⟨g', k1, k2, k3, k4⟩ := go true
          refine ⟨g', ?_, k2, k3, k4⟩
          rw [hdec.mpr hc, Bool.true_and]
          exact k1
        · rw [M_isIn_f (d + 7) g hc, bi_some, if_pos rfl, hof, bi_some, hlay, bv_some, hpar', bi_some]
          obtain ⟨g', k1, k2, k3, k4⟩ := go false
          refine ⟨g', ?_, k2, k3, k4⟩
          have hd : decide ((0 : Int) ≤ (fC F x : Int) + (-δ.toInt) ∧ (fC F x : Int) + (-δ.toInt) ≤ 9999) = false := by
            cases hq : decide ((0 : Int) ≤ (fC F x : Int) + (-δ.toInt) ∧ (fC F x : Int) + (-δ.toInt) ≤ 9999) with
            | false => rfl
            | true => exact absurd (hdec.mp hq) hc
          rw [hd, Bool.false_and, Bool.and_false]
          rw [Bool.false_and] at k1
          exact k1
theorem P_send {σ : aS} (d : Nat) (h : rMo g σ) (ho : a_ok σ) (x y z : Int32) : SimM (am_call (d + 9) 189 [.inr (.inr (29, 0)), .inl x, .inl y, .inl z] g) g (o_send σ x y z) := by
  have h0 := h.put131 0
  rw [cM_send, eM_send_0]
  unfold o_send
  rcases tw2_cs _ ho.1.1 x y with ⟨h1, h2⟩ | ⟨a, b, ha, hb, rfl, rfl, h3⟩
  · rw [h1, M_areTowns_f (d + 5) h0.2.1.2.2.2 ho.1.1 h2, bi_some, if_pos rfl]; exact ⟨_, rfl, h0, m131⟩
  · rw [h3, M_areTowns_t (d + 5) h0.2.1.2.2.2 ho.1.1 (isT_n ho.1.1 ha) (isT_n ho.1.1 hb), bi_some, if_neg q_110]
    dsimp only
    by_cases ez : -9999 ≤ z ∧ z ≤ 9999
    · have hz := q_rng ez
      rw [M_isIn_t (d + 7) _ ez, bi_some, if_neg q_110, if_pos ez, M_areTogether (d + 4) h0.2.1 ho.1 ha hb, bi_some]
      by_cases er : f_r (fP (aF σ)) a = f_r (fP (aF σ)) b
      · obtain ⟨g1, t1, t2, t3, t4⟩ := h0.try1 (d + 7) ho
        obtain ⟨g2, k1, k2, k3⟩ := M_walks (d + 2) t2 ho.1 ha hb
        have hw2 := wf_walk ho.1 ha hb
        have hN2 : fN (f_walk (aF σ) a b) = fN (aF σ) := wk_N
        have hal := hw2.al (t := b) (by rw [hN2]; exact hb)
        obtain ⟨g3, l1, l2, l3, l4⟩ := P_send_loop d hw2 (nI a) (nI b) hz 99999 b g2 0 true (by rw [hN2]; exact hb) (by omega) k2.2.1 (fun t ht => k2.p ht) (fun t ht => k2.c (f_a_lt hw2.2.1 (by rw [hN2]; exact hb) ht))
        have hup := walk_up ho.1 ha hb er
        rw [hup] at l1 l2 l3
        have hmm : ∀ w : Nat, w ∈ (f_way (fP (aF σ)) a b).tail.reverse ↔ w ∈ (f_way (fP (aF σ)) a b).tail := fun w => List.mem_reverse
        have hkw : f_kw ((f_way (fP (aF σ)) a b).tail.reverse.map (fC (f_walk (aF σ) a b))) (-z.toInt) 0 = f_kw (wsC (aF σ) a b) (-z.toInt) 0 := by
          rw [List.map_reverse, kw_rev, walk_wsC ho.1 ha hb er]
        have hlen : 0 + (f_way (fP (aF σ)) a b).tail.reverse.length = (f_way (fP (aF σ)) a b).length - 1 := by rw [List.length_reverse, List.length_tail]; omega
        rw [hkw, Bool.true_and, hlen] at l1
        have hM := t4 g3 (k3.tr l4)
        have hfr : m_fr sMd g (am_put g3 139 0 (0 : Int32)) := ((m131.tr t3).tr (m_p139 _)).tr (k3.tr l4).p139
        rw [if_pos er, if_neg q_110, t1, bv_some, k1, bi_some, if_pos er]
        by_cases ek : f_kw (wsC (aF σ) a b) (-z.toInt) 0 = true
        · rw [if_pos ek]
          rw [ek] at l1
          have hin := kw_tail ek (walk_wsC ho.1 ha hb er)
          have hk1 : rMk (am_put g3 139 0 (0 : Int32)) 1 (f_wC (f_walk (aF σ) a b) (f_upd (fC (f_walk (aF σ) a b)) (f_way (fP (aF σ)) a b).tail (-z.toInt))) := by
            refine rMk.p139 0 ⟨?_, fun t ht => ?_⟩
            · rw [l3 120 (by omega) (fun z hz => by have := f_way_lt ho.1.2.1 ho.1.1 ha hb z (List.mem_of_mem_tail ((hmm z).mp hz)); have := ho.1.1; omega)]
              exact k2.1.1
            · have ht : t < fN (f_walk (aF σ) a b) := ht
              have h24 := hw2.1
              have hzl : ∀ z ∈ (f_way (fP (aF σ)) a b).tail.reverse, z < fN (aF σ) := fun z hz => f_way_lt ho.1.2.1 ho.1.1 ha hb z (List.mem_of_mem_tail ((hmm z).mp hz))
              have h24' := ho.1.1
              obtain ⟨b1, b2, b3, b4, b5⟩ := k2.1.2 t ht
              have e0 := l3 t (by omega) (fun z hz => by have := hzl z hz; omega)
              have e1 := l3 (24 + t) (by omega) (fun z hz => by have := hzl z hz; omega)
              have e3 := l3 (48 + t) (by omega) (fun z hz => by have := hzl z hz; omega)
              have e4 := l3 (96 + t) (by omega) (fun z hz => by have := hzl z hz; omega)
              refine ⟨e0.trans b1, e1.trans b2, e3.trans b3, ?_, e4.trans b5⟩
              show g3 32 0 (121 * 1 + (72 + t)) = eM ((fP (f_walk (aF σ) a b) t).map fun _ => f_upd (fC (f_walk (aF σ) a b)) (f_way (fP (aF σ)) a b).tail (-z.toInt) t)
              by_cases hm : t ∈ (f_way (fP (aF σ)) a b).tail
              · rw [l2 t ((hmm t).mpr hm), f_upd_pos hm]
                have hr2 := hin t hm
                obtain ⟨k, hk⟩ := List.mem_iff_getElem?.mp hm
                rw [List.getElem?_tail] at hk
                obtain ⟨u, hu⟩ : ∃ u, (f_way (fP (aF σ)) a b)[k]? = some u := ⟨_, List.getElem?_eq_getElem (by have := (List.getElem?_eq_some_iff.mp hk).1; omega)⟩
                rw [way_up ho.1 ha hb er hu hk]
                show _ = nI (((fC (f_walk (aF σ) a b) t : Nat) : Int) + -z.toInt).toNat
                rw [q_eq, nI_toInt (by omega), q_subInt (by have := hw2.2.2.2 t ht (by rw [way_up ho.1 ha hb er hu hk]; simp); omega) hz]
                omega
              · rw [l3 (72 + t) (by omega) (fun z hz q => hm (by rw [show t = z by omega]; exact (hmm z).mp hz)), f_upd_neg hm]
                exact b4
          obtain ⟨g4, g5, m1, m2, m3, m4⟩ := hM.commit (d + 6) ho hk1 hN2
          unfold exR at l1
          rw [if_neg b01_t, m1, bv_some, m2, bv_some] at l1
          exact ⟨g5, l1, m3, hfr.tr m4⟩
        · rw [if_neg ek]
          have ek' : f_kw (wsC (aF σ) a b) (-z.toInt) 0 = false := by
            cases hq : f_kw (wsC (aF σ) a b) (-z.toInt) 0 with
            | false => rfl
            | true => exact absurd hq ek
          rw [ek'] at l1
          exact ⟨_, l1, hM, hfr⟩
      · rw [if_neg er, if_pos rfl, if_neg er]; exact ⟨_, rfl, h0, m131⟩
    · rw [M_isIn_f (d + 7) _ ez, bi_some, if_pos rfl, if_neg ez]; exact ⟨_, rfl, h0, m131⟩
end MR
