/-! ===== Forest, on ===== -/
/-- a loop over t .. t+m-1 -/
def fo {β : Type} (f : β → Nat → β) : β → Nat → Nat → β
  | b, _, 0 => b
  | b, t, m + 1 => fo f (f b t) (t + 1) m
/-- the first one -/
def ff (p : Nat → Bool) : Nat → Nat → Option Nat
  | _, 0 => none
  | t, m + 1 => if p t then some t else ff p (t + 1) m
theorem fo_cg {β : Type} {f f' : β → Nat → β} : ∀ {m : Nat} {b : β} {t : Nat}, (∀ b j, t ≤ j → j < t + m → f b j = f' b j) → fo f b t m = fo f' b t m
  | 0, _, _, _ => rfl
  | m + 1, b, t, h => by
    rw [fo, fo, h b t (Nat.le_refl _) (by omega)]
    exact fo_cg (fun b j h1 h2 => h b j (by omega) (by omega))
theorem ff_cg {p p' : Nat → Bool} : ∀ {m t : Nat}, (∀ j, t ≤ j → j < t + m → p j = p' j) → ff p t m = ff p' t m
  | 0, _, _ => rfl
  | m + 1, t, h => by
    rw [ff, ff, h t (Nat.le_refl _) (by omega), ff_cg (fun j h1 h2 => h j (by omega) (by omega))]
theorem ff_lt {p : Nat → Bool} : ∀ {m t x : Nat}, ff p t m = some x → t ≤ x ∧ x < t + m ∧ p x = true
  | 0, _, _, h => by cases h
  | m + 1, t, x, h => by
    rw [ff] at h
    by_cases hp : p t = true
    · rw [if_pos hp] at h
      cases h
      exact ⟨Nat.le_refl _, by omega, hp⟩
    · rw [if_neg hp] at h
      obtain ⟨h1, h2, h3⟩ := ff_lt h
      exact ⟨by omega, by omega, h3⟩
theorem for_loop {β R : Type} (run : Nat → β → Nat → R) (n : Nat) (step : β → Nat → β) (fin : β → R) (hs : ∀ k b t, t < n → run (k + 1) b t = run k (step b t) (t + 1)) (hx : ∀ k b, run (k + 1) b n = fin b) : ∀ (m t : Nat) (b : β) (k : Nat), t + m = n → m < k → run k b t = fin (fo step b t m)
  | 0, t, b, k, h, hk => by
    obtain ⟨k, rfl⟩ : ∃ k', k = k' + 1 := ⟨k - 1, by omega⟩
    have e : t = n := by omega
    subst e
    exact hx k b
  | m + 1, t, b, k, h, hk => by
    obtain ⟨k, rfl⟩ : ∃ k', k = k' + 1 := ⟨k - 1, by omega⟩
    rw [hs k b t (by omega), fo]
    exact for_loop run n step fin hs hx m (t + 1) (step b t) k (by omega) (by omega)
theorem for_find {R : Type} (run : Nat → Nat → R) (n : Nat) (p : Nat → Bool) (hit : Nat → R) (fin : R) (hs : ∀ k t, t < n → run (k + 1) t = if p t then hit t else run k (t + 1)) (hx : ∀ k, run (k + 1) n = fin) : ∀ (m t k : Nat), t + m = n → m < k → run k t = (match ff p t m with
    | none => fin
    | some x => hit x)
  | 0, t, k, h, hk => by
    obtain ⟨k, rfl⟩ : ∃ k', k = k' + 1 := ⟨k - 1, by omega⟩
    have e : t = n := by omega
    subst e
    exact hx k
  | m + 1, t, k, h, hk => by
    obtain ⟨k, rfl⟩ : ∃ k', k = k' + 1 := ⟨k - 1, by omega⟩
    rw [hs k t (by omega), ff]
    by_cases hp : p t = true
    · rw [if_pos hp, if_pos hp]
    · rw [if_neg hp, if_neg hp]
      exact for_find run n p hit fin hs hx m (t + 1) k (by omega) (by omega)
theorem q_sub_le {a b : Nat} (h : a ≤ b) (hb : b < 2 ^ 30) : nI a - nI b ≤ 0 := by
  rw [q_le, pk_sub_toInt (by omega) hb]
  show (a : Int) - b ≤ (0 : Int32).toInt
  rw [Int32.toInt_zero]
  omega
/-- where two ways up meet -/
def f_m (par : Nat → Option Nat) (a b : Nat) : Option Nat := (f_a par a).find? (fun x => decide (x ∈ f_a par b))
section FO
variable {n : Nat} {par : Nat → Option Nat}
theorem f_d_none (h : f_ok n par) (hn : n ≤ 24) {t : Nat} (ht : t < n) (hp : par t = none) : f_d par t = 0 := by
  unfold f_d; rw [f_a_none h hn ht hp]; rfl
theorem f_d_some (h : f_ok n par) (hn : n ≤ 24) {t p : Nat} (ht : t < n) (hp : par t = some p) : f_d par t = f_d par p + 1 := by
  unfold f_d
  rw [f_a_some h hn ht hp, List.length_cons]
  have := f_a_pos par p
  omega
theorem f_d_le (h : f_ok n par) (hn : n ≤ 24) {t z : Nat} (ht : t < n) (hz : z ∈ f_a par t) : f_d par z ≤ f_d par t := by
  obtain ⟨pre, e⟩ := f_a_suf h hn t ht z hz
  unfold f_d
  rw [e, List.length_append]
  omega
theorem f_m_self (a : Nat) : f_m par a a = some a := by
  unfold f_m
  obtain ⟨r, e⟩ := f_a_hd par a
  rw [e, List.find?_cons]
  simp
theorem f_m_skip (h : f_ok n par) (hn : n ≤ 24) {a b p : Nat} (ha : a < n) (hp : par a = some p) (hab : a ∉ f_a par b) : f_m par a b = f_m par p b := by
  unfold f_m
  rw [f_a_some h hn ha hp, List.find?_cons]
  simp [hab]
theorem find_cg {l : List Nat} {p q : Nat → Bool} (h : ∀ x ∈ l, p x = q x) : l.find? p = l.find? q := by
  induction l with
  | nil => rfl
  | cons a l ih =>
    rw [List.find?_cons, List.find?_cons, h a List.mem_cons_self, ih (fun x hx => h x (List.mem_cons_of_mem _ hx))]
theorem f_m_skip2 (h : f_ok n par) (hn : n ≤ 24) {a b p : Nat} (hb : b < n) (hp : par b = some p) (hab : b ∉ f_a par a) : f_m par a b = f_m par a p := by
  unfold f_m
  refine find_cg fun x hx => ?_
  rw [f_a_some h hn hb hp]
  have : ¬ x = b := fun e => hab (by rw [← e]; exact hx)
  simp [this]
theorem f_m_md (h : f_ok n par) {a b m : Nat} {A B : List Nat} (hm : f_md par a b m A B) : f_m par a b = some m := by
  unfold f_m
  rw [hm.1]
  obtain ⟨r, e⟩ := f_a_hd par m
  have h1 : ∀ A : List Nat, (∀ x ∈ A, x ∉ f_a par b) → (A ++ f_a par m).find? (fun x => decide (x ∈ f_a par b)) = some m := by
    intro A
    induction A with
    | nil =>
      intro _
      rw [List.nil_append, e, List.find?_cons]
      simp [hm.mem.2]
    | cons x A ih =>
      intro hA
      rw [List.cons_append, List.find?_cons]
      have := hA x List.mem_cons_self
      simp only [this, decide_false]
      exact ih (fun y hy => hA y (List.mem_cons_of_mem _ hy))
  exact h1 A hm.2.2.1
theorem f_m_none (h : f_ok n par) (hn : n ≤ 24) {a b : Nat} (ha : a < n) (hb : b < n) (hr : f_r par a ≠ f_r par b) : f_m par a b = none := by
  unfold f_m
  rw [List.find?_eq_none]
  intro x hx hxb
  have hxb : x ∈ f_a par b := of_decide_eq_true hxb
  exact hr ((f_r_up h hn a ha x hx).symm.trans (f_r_up h hn b hb x hxb))
theorem f_m_lt (h : f_ok n par) {a b m : Nat} (ha : a < n) (hm : f_m par a b = some m) : m < n := f_a_lt h ha (List.mem_of_find?_eq_some hm)
theorem f_m_cl (h : f_ok n par) (hn : n ≤ 24) {b : Nat} (hb : b < n) : ∀ (k a : Nat), a < n → f_d par a = f_d par b + k → f_m par a b = f_m par (f_cl par k a) b ∧ f_cl par k a < n ∧ f_d par (f_cl par k a) = f_d par b
  | 0, a, ha, e => ⟨rfl, ha, e⟩
  | k + 1, a, ha, e => by
    cases hp : par a with
    | none => rw [f_d_none h hn ha hp] at e; omega
    | some p =>
      have hpn := h.1 a p ha hp
      rw [f_d_some h hn ha hp] at e
      obtain ⟨h1, h2, h3⟩ := f_m_cl h hn hb k p hpn (by omega)
      rw [f_cl, hp]
      refine ⟨?_, h2, h3⟩
      rw [f_m_skip h hn ha hp (fun hab => ?_)]
      · exact h1
      · have := f_d_le h hn hb hab
        rw [f_d_some h hn ha hp] at this
        omega
theorem f_m_cl2 (h : f_ok n par) (hn : n ≤ 24) {a : Nat} (ha : a < n) : ∀ (k b : Nat), b < n → f_d par b = f_d par a + k → f_m par a b = f_m par a (f_cl par k b) ∧ f_cl par k b < n ∧ f_d par (f_cl par k b) = f_d par a
  | 0, b, hb, e => ⟨rfl, hb, e⟩
  | k + 1, b, hb, e => by
    cases hp : par b with
    | none => rw [f_d_none h hn hb hp] at e; omega
    | some p =>
      have hpn := h.1 b p hb hp
      rw [f_d_some h hn hb hp] at e
      obtain ⟨h1, h2, h3⟩ := f_m_cl2 h hn ha k p hpn (by omega)
      rw [f_cl, hp]
      refine ⟨?_, h2, h3⟩
      rw [f_m_skip2 h hn hb hp (fun hab => ?_)]
      · exact h1
      · have := f_d_le h hn ha hab
        rw [f_d_some h hn hb hp] at this
        omega
end FO
section RC
variable {g : am_G} {i : Nat} {F : fF}
theorem C_walkFrom (d : Nat) (h : rC g i F) (hw : f_wf F) {a b : Nat} (ha : a < fN F) (hb : b < fN F) : ∃ g', am_call (d + 3) 7 [.inr (.inr (1, i)), .inl (nI a), .inl (nI b)] g = some (none, g') ∧ rC g' i (f_walk F a b) ∧ m_fr (sF i) g g' := by
  obtain ⟨g1, h1, h2, h3⟩ := C_rerootAt d h hw ha
  obtain ⟨g2, h4, h5, h6⟩ := C_touchAt (d + 1) h2 (wf_reroot hw ha) (t := b) (by rw [rr_N.1]; exact hb)
  rw [cF_walkFrom, eF_walkFrom_0, h1, bv_some, h4, bv_some]
  exact ⟨g2, rfl, h5, h3.tr h6⟩
theorem rC.hang (h : rC g i F) {a b l c : Nat} : rC (am_sto (am_sto (am_sto g 2 i a (nI b)) 4 i a (nI l)) 5 i a (nI c)) i (f_hang F a b l c) := by
  refine ⟨h.1, h.2.1, fun t ht => ?_⟩
  obtain ⟨h1, h2, h3, h4⟩ := h.2.2 t ht
  have e2 : am_sto (am_sto (am_sto g 2 i a (nI b)) 4 i a (nI l)) 5 i a (nI c) 2 i t = if t = a then nI b else g 2 i t := by
    rw [m_sto_ne (by simp), m_sto_ne (by simp), m_sto]
  have e3 : am_sto (am_sto (am_sto g 2 i a (nI b)) 4 i a (nI l)) 5 i a (nI c) 3 i t = g 3 i t := by
    rw [m_sto_ne (by simp), m_sto_ne (by simp), m_sto_ne (by simp)]
  have e4 : am_sto (am_sto (am_sto g 2 i a (nI b)) 4 i a (nI l)) 5 i a (nI c) 4 i t = if t = a then nI l else g 4 i t := by
    rw [m_sto_ne (by simp), m_sto, m_sto_ne (by simp)]
  have e5 : am_sto (am_sto (am_sto g 2 i a (nI b)) 4 i a (nI l)) 5 i a (nI c) 5 i t = if t = a then nI c else g 5 i t := by
    rw [m_sto, m_sto_ne (by simp), m_sto_ne (by simp)]
  have e6 : am_sto (am_sto (am_sto g 2 i a (nI b)) 4 i a (nI l)) 5 i a (nI c) 6 i t = g 6 i t := by
    rw [m_sto_ne (by simp), m_sto_ne (by simp), m_sto_ne (by simp)]
  rw [e2, e3, e4, e5, e6]
  show (if t = a then nI b else g 2 i t) = eC (uo (fP F) a (some b) t) ∧ g 3 i t = eC (fQ F t) ∧ (uo (fP F) a (some b) t ≠ none → (if t = a then nI l else g 4 i t) = nI (uo (fL F) a l t) ∧ (if t = a then nI c else g 5 i t) = nI (uo (fC F) a c t)) ∧ g 6 i t = fV F t
  by_cases e : t = a
  · subst e
    simp only [if_true, uo_eq, eC_some]
    exact ⟨trivial, h2, fun _ => ⟨trivial, trivial⟩, h4⟩
  · simp only [if_neg e, uo_ne e]
    exact ⟨h1, h2, h3, h4⟩
theorem C_linkUnder (d : Nat) (h : rC g i F) (hw : f_wf F) {a b : Nat} (ha : a < fN F) (hb : b < fN F) (l c : Nat) : ∃ g', am_call (d + 4) 8 [.inr (.inr (1, i)), .inl (nI a), .inl (nI b), .inl (nI l), .inl (nI c)] g = some (none, g') ∧ rC g' i (f_link F a b l c) ∧ m_fr (sF i) g g' := by
  obtain ⟨g1, h1, h2, h3⟩ := C_walkFrom d h hw ha hb
  rw [cF_linkUnder, eF_linkUnder_0, h1, bv_some, q_c24 hw.1 ha, cond_true, cond_true, cond_true, nI_clamp (q24 hw.1 ha)]
  exact ⟨_, rfl, h2.hang, ((h3.sto (sF_in (by omega))).sto (sF_in (by omega))).sto (sF_in (by omega))⟩
theorem rC.free (h : rC g i F) {a b : Nat} {x y : Int32} : rC (am_sto (am_sto (am_sto (am_sto g 2 i b (-1)) 4 i b x) 5 i b y) 3 i a (-1)) i (f_free F a b) := by
  refine ⟨h.1, h.2.1, fun t ht => ?_⟩
  obtain ⟨h1, h2, h3, h4⟩ := h.2.2 t ht
  have e2 : am_sto (am_sto (am_sto (am_sto g 2 i b (-1)) 4 i b x) 5 i b y) 3 i a (-1) 2 i t = if t = b then -1 else g 2 i t := by
    rw [m_sto_ne (by simp), m_sto_ne (by simp), m_sto_ne (by simp), m_sto]
  have e3 : am_sto (am_sto (am_sto (am_sto g 2 i b (-1)) 4 i b x) 5 i b y) 3 i a (-1) 3 i t = if t = a then -1 else g 3 i t := by
    rw [m_sto, m_sto_ne (by simp), m_sto_ne (by simp), m_sto_ne (by simp)]
  have e4 : am_sto (am_sto (am_sto (am_sto g 2 i b (-1)) 4 i b x) 5 i b y) 3 i a (-1) 4 i t = if t = b then x else g 4 i t := by
    rw [m_sto_ne (by simp), m_sto_ne (by simp), m_sto, m_sto_ne (by simp)]
  have e5 : am_sto (am_sto (am_sto (am_sto g 2 i b (-1)) 4 i b x) 5 i b y) 3 i a (-1) 5 i t = if t = b then y else g 5 i t := by
    rw [m_sto_ne (by simp), m_sto, m_sto_ne (by simp), m_sto_ne (by simp)]
  have e6 : am_sto (am_sto (am_sto (am_sto g 2 i b (-1)) 4 i b x) 5 i b y) 3 i a (-1) 6 i t = g 6 i t := by
    rw [m_sto_ne (by simp), m_sto_ne (by simp), m_sto_ne (by simp), m_sto_ne (by simp)]
  rw [e2, e3, e4, e5, e6]
  show (if t = b then -1 else g 2 i t) = eC (uo (fP F) b none t) ∧ (if t = a then -1 else g 3 i t) = eC (uo (fQ F) a none t) ∧ (uo (fP F) b none t ≠ none → (if t = b then x else g 4 i t) = nI (fL F t) ∧ (if t = b then y else g 5 i t) = nI (fC F t)) ∧ g 6 i t = fV F t
  refine ⟨?_, ?_, fun hq => ?_, h4⟩
  · by_cases e : t = b
    · subst e; rw [if_pos rfl, uo_eq]; rfl
    · rw [if_neg e, uo_ne e]; exact h1
  · by_cases e : t = a
    · subst e; rw [if_pos rfl, uo_eq]; rfl
    · rw [if_neg e, uo_ne e]; exact h2
  · by_cases e : t = b
    · subst e; rw [uo_eq] at hq; exact absurd rfl hq
    · rw [uo_ne e] at hq; rw [if_neg e, if_neg e]; exact h3 hq
theorem C_cutBetween (d : Nat) (h : rC g i F) (hw : f_wf F) {a b : Nat} (ha : a < fN F) (hb : b < fN F) : ∃ g', am_call (d + 4) 9 [.inr (.inr (1, i)), .inl (nI a), .inl (nI b)] g = some (none, g') ∧ rC g' i (f_cut F a b) ∧ m_fr (sF i) g g' := by
  obtain ⟨g1, h1, h2, h3⟩ := C_walkFrom d h hw ha hb
  rw [cF_cutBetween, eF_cutBetween_0, h1, bv_some, q_c24 hw.1 ha, q_c24 hw.1 hb, cond_true, cond_true, cond_true, cond_true, nI_clamp (q24 hw.1 ha), nI_clamp (q24 hw.1 hb)]
  exact ⟨_, rfl, h2.free, (((h3.sto (sF_in (by omega))).sto (sF_in (by omega))).sto (sF_in (by omega))).sto (sF_in (by omega))⟩
theorem C_meet_loop (ct : am_T) (h : rC g i F) (hw : f_wf F) (x1 x2 x3 x4 : Int32) : ∀ (k x y step : Nat), x < fN F → y < fN F → f_d (fP F) x = f_d (fP F) y → step + f_d (fP F) x + 1 ≤ 24 → f_d (fP F) x + 2 ≤ k →
    am_run ct 16 k 24 [some (.inr (.inr (1, i))), some (.inl x1), some (.inl x2), some (.inl x3), some (.inl x4), some (.inl (nI x)), some (.inl (nI y)), some (.inl (nI step))] [] g = some (some (.inl (eC (f_m (fP F) x y))), g)
  | 0, x, y, step, hx, hy, he, h1, h2 => by omega
  | k + 1, x, y, step, hx, hy, he, h1, h2 => by
    have hx31 := q24 hw.1 hx
    have hy31 := q24 hw.1 hy
    rw [eF_meetingOf_24, if_neg (q_s24 (by omega))]
    by_cases e : x = y
    · subst e
      rw [if_pos rfl, f_m_self]
      rfl
    · have hxy : x ∉ f_a (fP F) y := by
        intro hin
        obtain ⟨pre, e2⟩ := f_a_suf hw.2.1 hw.1 y hy x hin
        have e3 := congrArg List.length e2
        rw [List.length_append] at e3
        have l1 := f_a_pos (fP F) x
        have l2 := f_a_pos (fP F) y
        unfold f_d at he
        have : pre = [] := List.length_eq_zero_iff.mp (by omega)
        subst this
        obtain ⟨r1, q1⟩ := f_a_hd (fP F) x
        obtain ⟨r2, q2⟩ := f_a_hd (fP F) y
        rw [q1, q2, List.nil_append] at e2
        exact e (List.cons.inj e2).1.symm
      rw [if_neg (by rw [nI_eq hx31 hy31]; exact e), if_neg (q_ne1 hx31), if_neg (q_ne1 hy31), q_c24 hw.1 hx, q_c24 hw.1 hy, cond_true, cond_true, nI_clamp hx31, nI_clamp hy31, h.p hx, h.p hy, nI_1]
      cases hp : fP F x with
      | none =>
        cases hq : fP F y with
        | some q => rw [f_d_none hw.2.1 hw.1 hx hp, f_d_some hw.2.1 hw.1 hy hq] at he; omega
        | none =>
          obtain ⟨k, rfl⟩ : ∃ k', k = k' + 1 := ⟨k - 1, by omega⟩
          have em : f_m (fP F) x y = none := by
            unfold f_m
            rw [hw.an hx hp, List.find?_cons]
            simp [hxy]
          rw [em, eC_none, eF_meetingOf_24]
          by_cases h5 : (24 : Int32) ≤ nI (step + 1)
          · rw [if_pos h5]
          · rw [if_neg h5, if_pos rfl]
      | some p =>
        cases hq : fP F y with
        | none => rw [f_d_some hw.2.1 hw.1 hx hp, f_d_none hw.2.1 hw.1 hy hq] at he; omega
        | some q =>
          have hpn := hw.p hx hp
          have hqn := hw.p hy hq
          rw [f_d_some hw.2.1 hw.1 hx hp] at he h1 h2
          rw [f_d_some hw.2.1 hw.1 hy hq] at he
          have hyp : y ∉ f_a (fP F) p := fun hin => by
            have := f_d_le hw.2.1 hw.1 hpn hin
            rw [f_d_some hw.2.1 hw.1 hy hq] at this
            omega
          rw [f_m_skip hw.2.1 hw.1 hx hp hxy, f_m_skip2 hw.2.1 hw.1 hy hq hyp]
          exact C_meet_loop ct h hw x1 x2 x3 x4 k p q (step + 1) hpn hqn (by omega) (by omega) (by omega)
theorem f_d_lt (hw : f_wf F) {t : Nat} (ht : t < fN F) : f_d (fP F) t < 24 := by
  have h1 := hw.al ht
  have h2 := f_a_pos (fP F) t
  unfold f_d
  omega
theorem C_meetingOf (d : Nat) (h : rC g i F) (hw : f_wf F) {a b : Nat} (ha : a < fN F) (hb : b < fN F) : am_call (d + 2) 16 [.inr (.inr (1, i)), .inl (nI a), .inl (nI b)] g = some (some (.inl (eC (f_m (fP F) a b))), g) := by
  have hda := f_d_lt hw ha
  have hdb := f_d_lt hw hb
  rw [cF_meetingOf, eF_meetingOf_0, C_depthOf d h hw ha, bi_some, C_depthOf d h hw hb, bi_some]
  rcases Nat.le_total (f_d (fP F) b) (f_d (fP F) a) with hle | hle
  · rw [pk_sub hle, C_climb d h hw ha (by omega), bi_some, C_climb_neg d h hw hb (q_sub_le hle (by omega)), bi_some]
    obtain ⟨h1, h2, h3⟩ := f_m_cl hw.2.1 hw.1 hb (f_d (fP F) a - f_d (fP F) b) a ha (by omega)
    rw [h1]
    exact C_meet_loop _ h hw _ _ _ _ 99999 _ b 0 h2 hb h3 (by omega) (by omega)
  · rw [C_climb_neg d h hw ha (q_sub_le hle (by omega)), bi_some, pk_sub hle, C_climb d h hw hb (by omega), bi_some]
    obtain ⟨h1, h2, h3⟩ := f_m_cl2 hw.2.1 hw.1 ha (f_d (fP F) b - f_d (fP F) a) b hb (by omega)
    rw [h1]
    exact C_meet_loop _ h hw _ _ _ _ 99999 a _ 0 ha h2 h3.symm (by omega) (by omega)
end RC
