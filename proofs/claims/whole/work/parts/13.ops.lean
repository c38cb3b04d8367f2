/-! ===== what is done to a forest ===== -/
/-- along a way up each one's preferred becomes the one beneath -/
def p_set (q : Nat → Option Nat) : List Nat → Nat → Option Nat
  | x :: y :: r => p_set (uo q y (some x)) (y :: r)
  | _ => q
/-- how many don't prefer the one beneath -/
def p_cnt (q : Nat → Option Nat) : List Nat → Nat
  | x :: y :: r => (if q y = some x then 0 else 1) + p_cnt q (y :: r)
  | _ => 0
def f_touch (F : fF) (t : Nat) : fF := (fN F, fP F, p_set (uo (fQ F) t none) (f_a (fP F) t), fL F, fC F, fV F, fS F + nI (p_cnt (fQ F) (f_a (fP F) t)))
def r_one (F : fF) (x : Nat) (lo : Option Nat) (ml mc : Nat) : fF := (fN F, uo (fP F) x lo, uo (fQ F) x (fP F x), uo (fL F) x ml, uo (fC F) x mc, fV F, fS F)
def r_rev (F : fF) (lo : Option Nat) (ml mc : Nat) : List Nat → fF
  | [] => F
  | x :: r => r_rev (r_one F x lo ml mc) (some x) (fL F x) (fC F x) r
def f_reroot (F : fF) (t : Nat) : fF := r_rev (f_touch F t) none 0 0 (f_a (fP F) t)
def f_walk (F : fF) (a b : Nat) : fF := f_touch (f_reroot F a) b
def f_hang (F : fF) (a b l c : Nat) : fF := (fN F, uo (fP F) a (some b), fQ F, uo (fL F) a l, uo (fC F) a c, fV F, fS F)
def f_free (F : fF) (a b : Nat) : fF := (fN F, uo (fP F) b none, uo (fQ F) a none, fL F, fC F, fV F, fS F)
def f_link (F : fF) (a b l c : Nat) : fF := f_hang (f_walk F a b) a b l c
def f_cut (F : fF) (a b : Nat) : fF := f_free (f_walk F a b) a b
/-- a list each of which has the next one as parent, the last none -/
def p_ch (par : Nat → Option Nat) : List Nat → Prop
  | [] => True
  | x :: r => par x = r.head? ∧ p_ch par r
theorem f_a_hd (par : Nat → Option Nat) (t : Nat) : ∃ r, f_a par t = t :: r := ⟨_, rfl⟩
theorem f_a_head? (par : Nat → Option Nat) (t : Nat) : (f_a par t).head? = some t := rfl
theorem p_set_as (q par : Nat → Option Nat) (x y : Nat) : p_set q (x :: f_a par y) = p_set (uo q y (some x)) (f_a par y) := by
  obtain ⟨r, e⟩ := f_a_hd par y
  rw [e, p_set]
theorem p_cnt_as (q par : Nat → Option Nat) (x y : Nat) : p_cnt q (x :: f_a par y) = (if q y = some x then 0 else 1) + p_cnt q (f_a par y) := by
  obtain ⟨r, e⟩ := f_a_hd par y
  rw [e, p_cnt]
theorem p_cnt_cg {q q' : Nat → Option Nat} : ∀ (L : List Nat), (∀ z ∈ L.tail, q z = q' z) → p_cnt q L = p_cnt q' L
  | [], _ => rfl
  | [_], _ => rfl
  | x :: y :: r, h => by
    rw [p_cnt, p_cnt, h y (by simp), p_cnt_cg (y :: r) (fun z hz => h z (by simp at hz ⊢; exact Or.inr hz))]
theorem uo_same {α : Type} {f : Nat → α} {k : Nat} {x : α} (h : f k = x) : uo f k x = f := funext fun j => by
  unfold uo
  split
  · rename_i e; rw [e, h]
  · rfl
theorem f_a_ch {n : Nat} {par : Nat → Option Nat} (h : f_ok n par) (hn : n ≤ 24) : ∀ t, t < n → p_ch par (f_a par t) := by
  refine f_ind h fun t ht ih => ?_
  cases hp : par t with
  | none => rw [f_a_none h hn ht hp]; exact ⟨hp, trivial⟩
  | some p => rw [f_a_some h hn ht hp]; exact ⟨by rw [hp]; rfl, ih p hp⟩
theorem f_a_tail {n : Nat} {par : Nat → Option Nat} (h : f_ok n par) {y : Nat} (hy : y < n) : ∀ z ∈ (f_a par y).tail, z ≠ y := by
  intro z hz e
  subst e
  have hnd := f_a_nd h hy
  obtain ⟨r, e⟩ := f_a_hd par z
  rw [e] at hnd hz
  exact (List.nodup_cons.mp hnd).1 hz
section RC
variable {g : am_G} {i : Nat} {F : fF}
theorem rC.setQ (h : rC g i F) {y : Nat} (o : Option Nat) : rC (am_sto g 3 i y (eC o)) i (fN F, fP F, uo (fQ F) y o, fL F, fC F, fV F, fS F) := by
  refine ⟨h.1, h.2.1, fun t ht => ?_⟩
  obtain ⟨h1, h2, h3, h4⟩ := h.2.2 t ht
  refine ⟨h1, ?_, h3, h4⟩
  rw [m_sto]
  show _ = eC (uo (fQ F) y o t)
  unfold uo
  split
  · rfl
  · exact h2
theorem rC.setS (h : rC g i F) (s : Int32) : rC (am_put g 103 i s) i (fN F, fP F, fQ F, fL F, fC F, fV F, s) := by
  refine ⟨h.1, m_put _ _ _ _ _, fun t ht => ?_⟩
  exact h.2.2 t ht
theorem rC.one (h : rC g i F) {x : Nat} (lo : Option Nat) {ml mc : Nat} {x4 x5 : Int32} (hlo : lo ≠ none → x4 = nI ml ∧ x5 = nI mc) :
    rC (am_sto (am_sto (am_sto (am_sto g 2 i x (eC lo)) 4 i x x4) 5 i x x5) 3 i x (eC (fP F x))) i (r_one F x lo ml mc) := by
  refine ⟨h.1, h.2.1, fun t ht => ?_⟩
  obtain ⟨h1, h2, h3, h4⟩ := h.2.2 t ht
  have e2 : am_sto (am_sto (am_sto (am_sto g 2 i x (eC lo)) 4 i x x4) 5 i x x5) 3 i x (eC (fP F x)) 2 i t = if t = x then eC lo else g 2 i t := by
    rw [m_sto_ne (by simp), m_sto_ne (by simp), m_sto_ne (by simp), m_sto]
  have e3 : am_sto (am_sto (am_sto (am_sto g 2 i x (eC lo)) 4 i x x4) 5 i x x5) 3 i x (eC (fP F x)) 3 i t = if t = x then eC (fP F x) else g 3 i t := by
    rw [m_sto, m_sto_ne (by simp), m_sto_ne (by simp), m_sto_ne (by simp)]
  have e4 : am_sto (am_sto (am_sto (am_sto g 2 i x (eC lo)) 4 i x x4) 5 i x x5) 3 i x (eC (fP F x)) 4 i t = if t = x then x4 else g 4 i t := by
    rw [m_sto_ne (by simp), m_sto_ne (by simp), m_sto, m_sto_ne (by simp)]
  have e5 : am_sto (am_sto (am_sto (am_sto g 2 i x (eC lo)) 4 i x x4) 5 i x x5) 3 i x (eC (fP F x)) 5 i t = if t = x then x5 else g 5 i t := by
    rw [m_sto_ne (by simp), m_sto, m_sto_ne (by simp), m_sto_ne (by simp)]
  have e6 : am_sto (am_sto (am_sto (am_sto g 2 i x (eC lo)) 4 i x x4) 5 i x x5) 3 i x (eC (fP F x)) 6 i t = g 6 i t := by
    rw [m_sto_ne (by simp), m_sto_ne (by simp), m_sto_ne (by simp), m_sto_ne (by simp)]
  rw [e2, e3, e4, e5, e6]
  show (if t = x then eC lo else g 2 i t) = eC (uo (fP F) x lo t) ∧ (if t = x then eC (fP F x) else g 3 i t) = eC (uo (fQ F) x (fP F x) t) ∧ (uo (fP F) x lo t ≠ none → (if t = x then x4 else g 4 i t) = nI (uo (fL F) x ml t) ∧ (if t = x then x5 else g 5 i t) = nI (uo (fC F) x mc t)) ∧ g 6 i t = fV F t
  by_cases e : t = x
  · subst e
    simp only [if_true, uo_eq]
    exact ⟨trivial, trivial, hlo, h4⟩
  · simp only [if_neg e, uo_ne e]
    exact ⟨h1, h2, h3, h4⟩
theorem sF_in {c : Nat} (h : 2 ≤ c ∧ c ≤ 7 ∨ c = 102 ∨ c = 103) : sF i c i := ⟨rfl, h⟩
theorem C_touch_loop (ct : am_T) (x1 : Int32) : ∀ (k x step : Nat) (F : fF) (g : am_G), rC g i F → fN F ≤ 24 → f_ok (fN F) (fP F) → (∀ y p, y < fN F → fQ F y = some p → p < 2 ^ 31) → x < fN F → step + (f_a (fP F) x).length ≤ 24 → (f_a (fP F) x).length ≤ k →
    ∃ g', am_run ct 5 k 14 [some (.inr (.inr (1, i))), some (.inl x1), some (.inl (nI x)), some (.inl (eC (fP F x))), some (.inl (nI step))] [] g = some (none, g') ∧
      rC g' i (fN F, fP F, p_set (fQ F) (f_a (fP F) x), fL F, fC F, fV F, fS F + nI (p_cnt (fQ F) (f_a (fP F) x))) ∧ m_fr (sF i) g g'
  | 0, x, step, F, g, h, hn, ho, hq, hx, h1, h2 => by have := f_a_pos (fP F) x; omega
  | k + 1, x, step, F, g, h, hn, ho, hq, hx, h1, h2 => by
    have hl := f_a_pos (fP F) x
    rw [eF_touchAt_14, if_neg (q_s24 (by omega))]
    cases hp : fP F x with
    | none =>
      rw [f_a_none ho hn hx hp, eC_none, if_pos rfl]
      refine ⟨g, rfl, ?_, m_fr.rf⟩
      have e : fS F + nI 0 = fS F := Int32.add_zero _
      show rC g i (fN F, fP F, fQ F, fL F, fC F, fV F, fS F + nI 0)
      rw [e]
      exact h
    | some y =>
      have hy := ho.1 x y hx hp
      have hy31 := q24 hn hy
      rw [f_a_some ho hn hx hp] at h1 h2 ⊢
      rw [List.length_cons] at h1 h2
      rw [eC_some, if_neg (q_ne1 hy31), q_c24 hn hy, cond_true, cond_true, cond_true, cond_true, nI_clamp hy31, h.q hy, h.p hy, p_set_as, p_cnt_as]
      by_cases e : fQ F y = some x
      · rw [if_pos ((eC_inj (fun p hp => hq y p hy hp) (q24 hn hx)).mpr e), nI_1]
        obtain ⟨g', h5, h6, h7⟩ := C_touch_loop ct x1 k y (step + 1) F g h hn ho hq hy (by omega) (by omega)
        refine ⟨g', h5, ?_, h7⟩
        rw [uo_same e, if_pos e, Nat.zero_add]
        exact h6
      · rw [if_neg (fun q => e ((eC_inj (fun p hp => hq y p hy hp) (q24 hn hx)).mp q)), nI_1]
        have hg1 := (h.setQ (y := y) (some x)).setS (fS F + 1)
        have es : am_sto g 3 i y (nI x) 103 i 0 = fS F := by rw [m_sto_ne (by simp)]; exact h.2.1
        have ep : am_put (am_sto g 3 i y (nI x)) 103 i (fS F + 1) 2 i y = eC (fP F y) := by
          rw [m_put_ne (by simp), m_sto_ne (by simp)]; exact h.p hy
        rw [es, ep]
        obtain ⟨g', h5, h6, h7⟩ := C_touch_loop ct x1 k y (step + 1) _ _ hg1 hn ho (fun z p hz hzp => by
          by_cases ez : z = y
          · subst ez
            have : some x = some p := by rw [← hzp]; exact (uo_eq _ _ _).symm
            cases this
            exact q24 hn hx
          · exact hq z p hz (by rw [← hzp]; exact (uo_ne ez).symm)) hy (by show step + 1 + (f_a (fP F) y).length ≤ 24; omega) (by show (f_a (fP F) y).length ≤ k; omega)
        refine ⟨g', h5, ?_, ((m_fr.rf.sto (sF_in (by omega))).put (sF_in (by omega))).tr h7⟩
        have ec : p_cnt (uo (fQ F) y (some x)) (f_a (fP F) y) = p_cnt (fQ F) (f_a (fP F) y) := p_cnt_cg _ (fun z hz => uo_ne (f_a_tail ho hy z hz))
        have h6 : rC g' i (fN F, fP F, p_set (uo (fQ F) y (some x)) (f_a (fP F) y), fL F, fC F, fV F, fS F + 1 + nI (p_cnt (uo (fQ F) y (some x)) (f_a (fP F) y))) := h6
        rw [ec, Int32.add_assoc, q_n1, nI_add] at h6
        rw [if_neg e]
        exact h6
theorem C_touchAt (d : Nat) (h : rC g i F) (hw : f_wf F) {t : Nat} (ht : t < fN F) : ∃ g', am_call (d + 1) 5 [.inr (.inr (1, i)), .inl (nI t)] g = some (none, g') ∧ rC g' i (f_touch F t) ∧ m_fr (sF i) g g' := by
  have hl := hw.al ht
  have h31 := q24 hw.1 ht
  have e : am_sto g 3 i t (-1) 2 i t = eC (fP F t) := by rw [m_sto_ne (by simp)]; exact h.p ht
  rw [cF_touchAt, eF_touchAt_0, q_c24 hw.1 ht, cond_true, cond_true, nI_clamp h31, e]
  obtain ⟨g', h5, h6, h7⟩ := C_touch_loop (am_call d) (nI t) 99999 t 0 _ _ (h.setQ (y := t) none) hw.1 hw.2.1 (fun z p hz hzp => by
    by_cases ez : z = t
    · subst ez
      have : none = some p := by rw [← hzp]; exact (uo_eq _ _ _).symm
      cases this
    · exact hw.q31 hz p (by rw [← hzp]; exact (uo_ne ez).symm)) ht (by show 0 + (f_a (fP F) t).length ≤ 24; omega) (by show (f_a (fP F) t).length ≤ 99999; omega)
  refine ⟨g', h5, ?_, (m_fr.rf.sto (sF_in (by omega))).tr h7⟩
  have ec : p_cnt (uo (fQ F) t none) (f_a (fP F) t) = p_cnt (fQ F) (f_a (fP F) t) := p_cnt_cg _ (fun z hz => uo_ne (f_a_tail hw.2.1 ht z hz))
  have h6 : rC g' i (fN F, fP F, p_set (uo (fQ F) t none) (f_a (fP F) t), fL F, fC F, fV F, fS F + nI (p_cnt (uo (fQ F) t none) (f_a (fP F) t))) := h6
  rw [ec] at h6
  exact h6
theorem p_ch_uo {par : Nat → Option Nat} {x : Nat} {v : Option Nat} : ∀ {r : List Nat}, x ∉ r → p_ch par r → p_ch (uo par x v) r
  | [], _, _ => trivial
  | y :: r, hx, h => ⟨by rw [uo_ne (fun e => hx (by rw [e]; exact List.mem_cons_self))]; exact h.1, p_ch_uo (fun q => hx (List.mem_cons_of_mem _ q)) h.2⟩
theorem C_rev_loop (ct : am_T) (x1 : Int32) : ∀ (k : Nat) (R : List Nat) (step : Nat) (F : fF) (g : am_G) (lo : Option Nat) (ml mc : Nat) (x4 x5 : Int32) (o7 o8 o9 : Option am_V), rC g i F → fN F ≤ 24 → R.Nodup → (∀ x ∈ R, x < fN F) → p_ch (fP F) R → (R ≠ [] → lo ≠ none → x4 = nI ml ∧ x5 = nI mc) → step + R.length ≤ 24 → R.length < k →
    ∃ g', am_run ct 6 k 13 [some (.inr (.inr (1, i))), some (.inl x1), some (.inl (eC lo)), some (.inl (eC R.head?)), some (.inl x4), some (.inl x5), some (.inl (nI step)), o7, o8, o9] [] g = some (none, g') ∧ rC g' i (r_rev F lo ml mc R) ∧ m_fr (sF i) g g'
  | 0, R, step, F, g, lo, ml, mc, x4, x5, o7, o8, o9, h, hn, hd, hr, hc, hlo, h1, h2 => by omega
  | k + 1, [], step, F, g, lo, ml, mc, x4, x5, o7, o8, o9, h, hn, hd, hr, hc, hlo, h1, h2 => by
    refine ⟨g, ?_, h, m_fr.rf⟩
    rw [eF_rerootAt_13]
    split
    · rfl
    · rw [List.head?_nil, eC_none, if_pos rfl]
  | k + 1, x :: r, step, F, g, lo, ml, mc, x4, x5, o7, o8, o9, h, hn, hd, hr, hc, hlo, h1, h2 => by
    have hx := hr x List.mem_cons_self
    have h31 := q24 hn hx
    rw [List.length_cons] at h1 h2
    obtain ⟨hd1, hd2⟩ := List.nodup_cons.mp hd
    have e0 : (x :: r).head? = some x := rfl
    rw [eF_rerootAt_13, if_neg (q_s24 (by omega)), e0, eC_some, if_neg (q_ne1 h31), q_c24 hn hx, nI_clamp h31, h.p hx, hc.1, nI_1]
    simp only [cond_true]
    have h' := h.one (x := x) lo (hlo (by simp))
    rw [hc.1] at h'
    obtain ⟨g', h5, h6, h7⟩ := C_rev_loop ct x1 k r (step + 1) (r_one F x lo ml mc) _ (some x) (fL F x) (fC F x) (g 4 i x) (g 5 i x) (some (.inl (eC r.head?))) (some (.inl (g 4 i x))) (some (.inl (g 5 i x))) h' hn hd2 (fun y hy => hr y (List.mem_cons_of_mem _ hy)) (p_ch_uo hd1 hc.2) (fun hne _ => by
      have hpx : fP F x ≠ none := by
        rw [hc.1]
        cases r with
        | nil => exact absurd rfl hne
        | cons y r => simp
      exact ⟨h.l hx hpx, h.c hx hpx⟩) (by omega) (by omega)
    exact ⟨g', h5, h6, (((((m_fr.rf.sto (sF_in (by omega))).sto (sF_in (by omega))).sto (sF_in (by omega))).sto (sF_in (by omega)))).tr h7⟩
theorem C_rerootAt (d : Nat) (h : rC g i F) (hw : f_wf F) {t : Nat} (ht : t < fN F) : ∃ g', am_call (d + 2) 6 [.inr (.inr (1, i)), .inl (nI t)] g = some (none, g') ∧ rC g' i (f_reroot F t) ∧ m_fr (sF i) g g' := by
  have hl := hw.al ht
  obtain ⟨g1, h1, h2, h3⟩ := C_touchAt d h hw ht
  rw [cF_rerootAt, eF_rerootAt_0, h1, bv_some]
  obtain ⟨g', h5, h6, h7⟩ := C_rev_loop (am_call (d + 1)) (nI t) 99999 (f_a (fP F) t) 0 (f_touch F t) g1 none 0 0 0 0 none none none h2 hw.1 (f_a_nd hw.2.1 ht) (fun x hx => f_a_lt hw.2.1 ht hx) (f_a_ch hw.2.1 hw.1 t ht) (fun _ hq => absurd rfl hq) (by omega) (by omega)
  exact ⟨g', h5, h6, h3.tr h7⟩
end RC
