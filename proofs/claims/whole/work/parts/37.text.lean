/-! ===== a text: what its lines do ===== -/
/-- towns, names, seed, whether it was told -/
abbrev tS : Type := fF × List Int32 × Int32 × Bool
abbrev tR : Type := (Nat × Nat) ⊕ (tS × tk)
def isKw (x : Int32) : Bool := decide (x = 412560384) || (decide (x = 620220416) || (decide (x = 642945024) || (decide (x = 643453317) || (decide (x = 687508736) || decide (x = 687585280)))))
def t_nm (u : tk) : Bool := decide (u.1 = 1) && !isKw u.2.2.2
def t_end (T : Nat → Int32) (n p : Nat) (k : tk → tR) : tR := if (lx T n p).1 = 4 then k (lx T n (lx T n p).2.2.1) else .inl (1, (lx T n p).2.1)
def t_tw (T : Nat → Int32) (n : Nat) (L : List Int32) (p : Nat) (k : Nat → tk → tR) : tR :=
  if t_nm (lx T n p) = true then (match n_find L (lx T n p).2.2.2 with
    | none => .inl (4, (lx T n p).2.1)
    | some a => k a (lx T n p)) else .inl (1, (lx T n p).2.1)
def t_nb (T : Nat → Int32) (n p : Nat) (lo hi : Int32) (k : tk → tR) : tR :=
  if (lx T n p).1 = 2 then (if lo ≤ (lx T n p).2.2.2 ∧ (lx T n p).2.2.2 ≤ hi then k (lx T n p) else .inl (2, (lx T n p).2.1)) else .inl (1, (lx T n p).2.1)
def t_town (T : Nat → Int32) (n : Nat) (s : tS) (t : tk) : tR :=
  if 24 ≤ s.2.1.length then .inl (2, t.2.1)
  else if t_nm (lx T n t.2.2.1) = true then
    (if n_find s.2.1 (lx T n t.2.2.1).2.2.2 = none then
      (if (lx T n (lx T n t.2.2.1).2.2.1).1 = 2 ∨ (lx T n (lx T n t.2.2.1).2.2.1).1 = 3 then
        (if -9999 ≤ (lx T n (lx T n t.2.2.1).2.2.1).2.2.2 ∧ (lx T n (lx T n t.2.2.1).2.2.1).2.2.2 ≤ 9999 then
          t_end T n (lx T n (lx T n t.2.2.1).2.2.1).2.2.1 (fun u => .inr ((f_add s.1 (lx T n (lx T n t.2.2.1).2.2.1).2.2.2, s.2.1 ++ [(lx T n t.2.2.1).2.2.2], s.2.2.1, s.2.2.2), u))
        else .inl (2, (lx T n (lx T n t.2.2.1).2.2.1).2.1))
      else .inl (1, (lx T n (lx T n t.2.2.1).2.2.1).2.1))
    else .inl (3, (lx T n t.2.2.1).2.1))
  else .inl (1, (lx T n t.2.2.1).2.1)
def tl_link (T : Nat → Int32) (n : Nat) (s : tS) (t : tk) : tR :=
  t_tw T n s.2.1 t.2.2.1 (fun a u => t_tw T n s.2.1 u.2.2.1 (fun b w =>
    if f_r (fP s.1) a = f_r (fP s.1) b then .inl (3, w.2.1)
    else t_nb T n w.2.2.1 1 9999 (fun l => t_nb T n l.2.2.1 1 9999 (fun c => t_end T n c.2.2.1 (fun z => .inr ((f_link s.1 a b l.2.2.2.toNatClampNeg c.2.2.2.toNatClampNeg, s.2), z))))))
def t_deed (T : Nat → Int32) (n : Nat) (s : tS) (t : tk) : tR :=
  t_tw T n s.2.1 t.2.2.1 (fun a u => t_end T n u.2.2.1 (fun z => .inr ((if t.2.2.2 = 620220416 then f_reroot s.1 a else if t.2.2.2 = 687508736 then f_touch s.1 a else f_wQ s.1 (f_settle s.1 a).2, s.2), z)))
def t_seed (T : Nat → Int32) (n : Nat) (s : tS) (t : tk) : tR :=
  if s.2.2.2 = true then .inl (3, t.2.1)
  else t_nb T n t.2.2.1 0 99999 (fun l => t_end T n l.2.2.1 (fun z => .inr ((s.1, s.2.1, l.2.2.2, true), z)))
def t_line (T : Nat → Int32) (n : Nat) (s : tS) (t : tk) : tR :=
  if t.1 = 1 then
    (if t.2.2.2 = 412560384 then tl_link T n s t
    else if t.2.2.2 = 620220416 then t_deed T n s t
    else if t.2.2.2 = 642945024 then t_seed T n s t
    else if t.2.2.2 = 643453317 then t_deed T n s t
    else if t.2.2.2 = 687508736 then t_deed T n s t
    else if t.2.2.2 = 687585280 then t_town T n s t
    else .inl (1, t.2.1))
  else .inl (1, t.2.1)
/-- all lines: a fault, or what was told and how many lines -/
def t_all (T : Nat → Int32) (n : Nat) : Nat → tS → tk → Nat → (Nat × Nat) ⊕ (tS × Nat)
  | 0, s, _, c => .inr (s, c)
  | m + 1, s, t, c => if t.1 = 0 then .inr (s, c) else (match t_line T n s t with
    | .inl e => .inl e
    | .inr (s', t') => t_all T n m s' t' (c + 1))
def tS0 : tS := ((0, fun _ => none, fun _ => none, fun _ => 0, fun _ => 0, fun _ => 0, 0), [], 0, false)
def t_text (T : Nat → Int32) (n : Nat) : (Nat × Nat) ⊕ (tS × Nat) := t_all T n 701 tS0 (lx T n 0) 0
def tS_ok (s : tS) : Prop := f_wf s.1 ∧ fN s.1 = s.2.1.length
theorem wf_add {F : fF} (hw : f_wf F) (hn : fN F < 24) (v : Int32) : f_wf (f_add F v) := by
  obtain ⟨h1, ⟨h2, dd, h3⟩, h4, h5⟩ := hw
  have hp : ∀ t p, t < fN F + 1 → uo (fP F) (fN F) none t = some p → t < fN F ∧ fP F t = some p := fun t p ht hp => by
    by_cases e : t = fN F
    · subst e; rw [uo_eq] at hp; cases hp
    · rw [uo_ne e] at hp; exact ⟨by omega, hp⟩
  refine ⟨hn, ⟨fun t p ht hpp => ?_, dd, fun t p ht hpp => ?_⟩, fun t c ht hq => ?_, fun t ht hq => ?_⟩
  · obtain ⟨a, b⟩ := hp t p ht hpp
    exact Nat.lt_succ_of_lt (h2 t p a b)
  · obtain ⟨a, b⟩ := hp t p ht hpp
    exact h3 t p a b
  · have ht : t < fN F + 1 := ht
    have hq : uo (fQ F) (fN F) none t = some c := hq
    by_cases e : t = fN F
    · subst e; rw [uo_eq] at hq; cases hq
    · rw [uo_ne e] at hq
      obtain ⟨a, b⟩ := h4 t c (by omega) hq
      refine ⟨Nat.lt_succ_of_lt a, ?_⟩
      show uo (fP F) (fN F) none c = some t
      rw [uo_ne (by omega)]; exact b
  · have ht : t < fN F + 1 := ht
    have hq : uo (fP F) (fN F) none t ≠ none := hq
    by_cases e : t = fN F
    · subst e; rw [uo_eq] at hq; exact absurd rfl hq
    · rw [uo_ne e] at hq
      exact h5 t (by omega) hq
theorem wf_settle {F : fF} (hw : f_wf F) (x : Nat) : f_wf (f_wQ F (f_settle F x).2) := by
  refine wf_wQ hw ?_
  have key : ∀ (m t : Nat) (b : Nat × (Nat → Option Nat)), (∀ t c, t < fN F → b.2 t = some c → c < fN F ∧ fP F c = some t) → ∀ z c, z < fN F → (fo (f_sstep F x) b t m).2 z = some c → c < fN F ∧ fP F c = some z := by
    intro m
    induction m with
    | zero => intro t b hb; exact hb
    | succ m ih =>
      intro t b hb
      rw [fo]
      refine ih (t + 1) _ ?_
      unfold f_sstep
      split
      · split
        · exact hb
        · intro z c hz hq
          by_cases e : z = t
          · subst e
            have hq : uo b.2 z (f_hv F z) z = some c := hq
            rw [uo_eq] at hq
            exact f_hv_some hq
          · have hq : uo b.2 t (f_hv F t) z = some c := hq
            rw [uo_ne e] at hq
            exact hb z c hz hq
      · exact hb
  exact key (fN F) 0 (0, fQ F) hw.2.2.1
theorem q_clamp {x : Int32} {lo hi : Nat} (hl : lo < 2 ^ 31) (hh : hi < 2 ^ 31) (h : nI lo ≤ x ∧ x ≤ nI hi) : x = nI x.toNatClampNeg ∧ lo ≤ x.toNatClampNeg ∧ x.toNatClampNeg ≤ hi := by
  obtain ⟨c, h1, h2, h3⟩ := q_btw hh h hl
  rw [h3, nI_clamp (by omega)]
  exact ⟨rfl, h1, h2⟩
/-- what a line leaves is sound, and lies further on -/
theorem t_end_ok {T : Nat → Int32} {n p : Nat} (hp : p ≤ n) {s s' : tS} {t' : tk} (h : t_end T n p (fun z => .inr (s, z)) = .inr (s', t')) : s' = s ∧ p < t'.2.1 ∧ t'.2.2.1 ≤ n ∧ (t'.1 = 0 ↔ t'.2.1 = n) ∧ t'.2.1 ≤ t'.2.2.1 := by
  unfold t_end at h
  obtain ⟨a1, a2, a3, a4, a5⟩ := lx_pos T hp
  split at h
  · rename_i e
    cases h
    obtain ⟨b1, b2, b3, b4, b5⟩ := lx_pos T (n := n) (p := (lx T n p).2.2.1) a3
    have := a5 (by rw [e]; omega)
    exact ⟨rfl, by omega, b3, b4, by omega⟩
  · cases h
theorem t_tw_ok {T : Nat → Int32} {n p : Nat} {L : List Int32} (hp : p ≤ n) {k : Nat → tk → tR} {r : tS × tk} (h : t_tw T n L p k = .inr r) : ∃ a, n_find L (lx T n p).2.2.2 = some a ∧ a < L.length ∧ k a (lx T n p) = .inr r ∧ p ≤ (lx T n p).2.2.1 ∧ (lx T n p).2.2.1 ≤ n := by
  unfold t_tw at h
  obtain ⟨a1, a2, a3, a4, a5⟩ := lx_pos T hp
  split at h
  · cases hf : n_find L (lx T n p).2.2.2 with
    | none => rw [hf] at h; cases h
    | some a => rw [hf] at h; exact ⟨a, rfl, n_find_lt hf, h, by omega, a3⟩
  · cases h
theorem t_nb_ok {T : Nat → Int32} {n p : Nat} {lo hi : Int32} (hp : p ≤ n) {k : tk → tR} {r : tS × tk} (h : t_nb T n p lo hi k = .inr r) : (lo ≤ (lx T n p).2.2.2 ∧ (lx T n p).2.2.2 ≤ hi) ∧ k (lx T n p) = .inr r ∧ p ≤ (lx T n p).2.2.1 ∧ (lx T n p).2.2.1 ≤ n := by
  unfold t_nb at h
  obtain ⟨a1, a2, a3, a4, a5⟩ := lx_pos T hp
  split at h
  · split at h
    · rename_i e; exact ⟨e, h, by omega, a3⟩
    · cases h
  · cases h
theorem t_line_ok {T : Nat → Int32} {n : Nat} {s s' : tS} {t t' : tk} (hs : tS_ok s) (ht : t.2.2.1 ≤ n) (ht0 : t.2.1 ≤ t.2.2.1) (h : t_line T n s t = .inr (s', t')) : tS_ok s' ∧ t.2.1 < t'.2.1 ∧ t'.2.2.1 ≤ n ∧ (t'.1 = 0 ↔ t'.2.1 = n) ∧ t'.2.1 ≤ t'.2.2.1 := by
  obtain ⟨hw, hl⟩ := hs
  have deed : t_deed T n s t = .inr (s', t') → tS_ok s' ∧ t.2.1 < t'.2.1 ∧ t'.2.2.1 ≤ n ∧ (t'.1 = 0 ↔ t'.2.1 = n) ∧ t'.2.1 ≤ t'.2.2.1 := by
    intro h
    unfold t_deed at h
    obtain ⟨a, h1, h2, h3, h4, h5⟩ := t_tw_ok ht h
    obtain ⟨rfl, k1, k2, k3, k4⟩ := t_end_ok h5 h3
    have ha : a < fN s.1 := by rw [hl]; exact h2
    refine ⟨?_, by omega, k2, k3, k4⟩
    split
    · exact ⟨wf_reroot hw ha, by rw [← hl]; exact rr_N.1⟩
    · split
      · exact ⟨wf_touch hw ha, hl⟩
      · exact ⟨wf_settle hw a, hl⟩
  unfold t_line at h
  split at h
  · split at h
    · unfold tl_link at h
      obtain ⟨a, h1, h2, h3, h4, h5⟩ := t_tw_ok ht h
      obtain ⟨b, i1, i2, i3, i4, i5⟩ := t_tw_ok h5 h3
      split at i3
      · cases i3
      · rename_i hr
        obtain ⟨j1, j2, j3, j4⟩ := t_nb_ok i5 i3
        obtain ⟨l1, l2, l3, l4⟩ := t_nb_ok j4 j2
        obtain ⟨rfl, k1, k2, k3, k4⟩ := t_end_ok l4 l2
        have c1 := q_clamp (lo := 1) (hi := 9999) (by omega) (by omega) j1
        have c2 := q_clamp (lo := 1) (hi := 9999) (by omega) (by omega) l1
        refine ⟨⟨wf_link hw (by rw [hl]; exact h2) (by rw [hl]; exact i2) hr c1.2 c2.2.2, ?_⟩, by omega, k2, k3, k4⟩
        show fN (f_walk s.1 a b) = s.2.1.length
        rw [wk_N]; exact hl
    · split at h
      · exact deed h
      · split at h
        · unfold t_seed at h
          split at h
          · cases h
          · obtain ⟨l1, l2, l3, l4⟩ := t_nb_ok ht h
            obtain ⟨rfl, k1, k2, k3, k4⟩ := t_end_ok l4 l2
            exact ⟨⟨hw, hl⟩, by omega, k2, k3, k4⟩
        · split at h
          · exact deed h
          · split at h
            · exact deed h
            · split at h
              · unfold t_town at h
                split at h
                · cases h
                · rename_i h24
                  obtain ⟨a1, a2, a3, a4, a5⟩ := lx_pos T ht
                  obtain ⟨b1, b2, b3, b4, b5⟩ := lx_pos T a3
                  split at h
                  · split at h
                    · split at h
                      · split at h
                        · obtain ⟨rfl, k1, k2, k3, k4⟩ := t_end_ok b3 h
                          refine ⟨⟨wf_add hw (by omega) _, ?_⟩, by omega, k2, k3, k4⟩
                          show fN s.1 + 1 = (s.2.1 ++ [_]).length
                          rw [List.length_append, hl]; rfl
                        · cases h
                      · cases h
                    · cases h
                  · cases h
              · cases h
  · cases h
