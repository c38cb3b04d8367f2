/-! ===== forests behind what is done ===== -/
theorem p_set_out (q : Nat → Option Nat) {z : Nat} : ∀ (L : List Nat) (q : Nat → Option Nat), z ∉ L.tail → p_set q L z = q z
  | [], _, _ => rfl
  | [_], _, _ => rfl
  | x :: y :: r, q, h => by
    rw [p_set, p_set_out q (y :: r) _ (fun hz => h (by simp at hz ⊢; exact Or.inr hz)), uo_ne (fun e => h (by simp [e]))]
theorem p_set_in {x y : Nat} {B : List Nat} : ∀ (A : List Nat) (q : Nat → Option Nat), (A ++ x :: y :: B).Nodup → p_set q (A ++ x :: y :: B) y = some x
  | [], q, h => by
    show p_set q (x :: y :: B) y = some x
    rw [p_set, p_set_out q (y :: B) _ (fun hz => ?_), uo_eq]
    simp only [List.nil_append, List.nodup_cons] at h
    exact h.2.1 hz
  | [a], q, h => by
    show p_set q (a :: x :: y :: B) y = some x
    rw [p_set]
    exact p_set_in [] _ (List.nodup_cons.mp h).2
  | a :: b :: A, q, h => by
    show p_set q (a :: b :: (A ++ x :: y :: B)) y = some x
    rw [p_set]
    exact p_set_in (b :: A) _ (List.nodup_cons.mp h).2
theorem rv_N : ∀ (L : List Nat) (F : fF) (lo : Option Nat) (ml mc : Nat), fN (r_rev F lo ml mc L) = fN F ∧ fV (r_rev F lo ml mc L) = fV F ∧ fS (r_rev F lo ml mc L) = fS F
  | [], _, _, _, _ => ⟨rfl, rfl, rfl⟩
  | x :: r, F, lo, ml, mc => rv_N r (r_one F x lo ml mc) (some x) (fL F x) (fC F x)
theorem rv_out {z : Nat} : ∀ (L : List Nat) (F : fF) (lo : Option Nat) (ml mc : Nat), z ∉ L → fP (r_rev F lo ml mc L) z = fP F z ∧ fQ (r_rev F lo ml mc L) z = fQ F z ∧ fL (r_rev F lo ml mc L) z = fL F z ∧ fC (r_rev F lo ml mc L) z = fC F z
  | [], _, _, _, _, _ => ⟨rfl, rfl, rfl, rfl⟩
  | x :: r, F, lo, ml, mc, h => by
    have hx : z ≠ x := fun e => h (by rw [e]; exact List.mem_cons_self)
    obtain ⟨h1, h2, h3, h4⟩ := rv_out r (r_one F x lo ml mc) (some x) (fL F x) (fC F x) (fun q => h (List.mem_cons_of_mem _ q))
    rw [r_rev]
    exact ⟨h1.trans (uo_ne hx), h2.trans (uo_ne hx), h3.trans (uo_ne hx), h4.trans (uo_ne hx)⟩
theorem rv_hd {y : Nat} {r : List Nat} (F : fF) (lo : Option Nat) (ml mc : Nat) (h : (y :: r).Nodup) : fP (r_rev F lo ml mc (y :: r)) y = lo ∧ fQ (r_rev F lo ml mc (y :: r)) y = fP F y ∧ fL (r_rev F lo ml mc (y :: r)) y = ml ∧ fC (r_rev F lo ml mc (y :: r)) y = mc := by
  obtain ⟨h1, h2, h3, h4⟩ := rv_out r (r_one F y lo ml mc) (some y) (fL F y) (fC F y) (List.nodup_cons.mp h).1
  rw [r_rev]
  exact ⟨h1.trans (uo_eq _ _ _), h2.trans (uo_eq _ _ _), h3.trans (uo_eq _ _ _), h4.trans (uo_eq _ _ _)⟩
theorem rv_adj {x y : Nat} {B : List Nat} : ∀ (A : List Nat) (F : fF) (lo : Option Nat) (ml mc : Nat), (A ++ x :: y :: B).Nodup → fP (r_rev F lo ml mc (A ++ x :: y :: B)) y = some x ∧ fL (r_rev F lo ml mc (A ++ x :: y :: B)) y = fL F x ∧ fC (r_rev F lo ml mc (A ++ x :: y :: B)) y = fC F x
  | [], F, lo, ml, mc, h => by
    rw [List.nil_append, r_rev]
    obtain ⟨h1, -, h3, h4⟩ := rv_hd (r_one F x lo ml mc) (some x) (fL F x) (fC F x) (List.nodup_cons.mp h).2
    exact ⟨h1, h3, h4⟩
  | a :: A, F, lo, ml, mc, h => by
    obtain ⟨hn, hd⟩ := List.nodup_cons.mp h
    rw [List.cons_append, r_rev]
    obtain ⟨h1, h3, h4⟩ := rv_adj A (r_one F a lo ml mc) (some a) (fL F a) (fC F a) hd
    have hx : x ≠ a := fun e => hn (by rw [← e]; simp)
    exact ⟨h1, h3.trans (uo_ne hx), h4.trans (uo_ne hx)⟩
theorem rv_q {z : Nat} : ∀ (L : List Nat) (F : fF) (lo : Option Nat) (ml mc : Nat), L.Nodup → z ∈ L → fQ (r_rev F lo ml mc L) z = fP F z
  | [], _, _, _, _, _, h => by cases h
  | x :: r, F, lo, ml, mc, hn, h => by
    by_cases e : z = x
    · subst e
      exact (rv_hd F lo ml mc hn).2.1
    · have hr : z ∈ r := (List.mem_cons.mp h).resolve_left e
      rw [r_rev, rv_q r _ _ _ _ (List.nodup_cons.mp hn).2 hr]
      exact uo_ne e
theorem p_ch_app {par : Nat → Option Nat} : ∀ (A : List Nat) {w : Nat} {r : List Nat}, p_ch par (A ++ w :: r) → par w = r.head?
  | [], _, _, h => h.1
  | _ :: A, _, _, h => p_ch_app A h.2
section FO
variable {n : Nat} {par : Nat → Option Nat}
theorem f_a_adj (h : f_ok n par) (hn : n ≤ 24) {t x y : Nat} (ht : t < n) (hx : x ∈ f_a par t) (hp : par x = some y) : ∃ A B, f_a par t = A ++ x :: y :: B := by
  obtain ⟨pre, e⟩ := f_a_suf h hn t ht x hx
  have hxn := f_a_lt h ht hx
  obtain ⟨r, e2⟩ := f_a_hd par y
  exact ⟨pre, r, by rw [e, f_a_some h hn hxn hp, e2]⟩
theorem f_a_prev (h : f_ok n par) (hn : n ≤ 24) : ∀ t, t < n → ∀ x ∈ f_a par t, x = t ∨ ∃ w ∈ f_a par t, par w = some x := by
  refine f_ind h fun t ht ih x hx => ?_
  cases hp : par t with
  | none =>
    rw [f_a_none h hn ht hp] at hx
    exact Or.inl (by simpa using hx)
  | some p =>
    rw [f_a_some h hn ht hp] at hx ⊢
    rcases List.mem_cons.mp hx with rfl | hx
    · exact Or.inl rfl
    · right
      rcases ih p hp x hx with rfl | ⟨w, hw, e⟩
      · exact ⟨t, List.mem_cons_self, hp⟩
      · exact ⟨w, List.mem_cons_of_mem _ hw, e⟩
theorem f_r_of (h : f_ok n par) (hn : n ≤ 24) {t x : Nat} (ht : t < n) (hx : x ∈ f_a par t) (hp : par x = none) : f_r par t = x := by
  rw [← f_r_up h hn t ht x hx, f_r_none h hn (f_a_lt h ht hx) hp]
end FO
section WF
variable {F : fF} {t : Nat}
theorem wf_touch (hw : f_wf F) (ht : t < fN F) : f_wf (f_touch F t) := by
  refine ⟨hw.1, hw.2.1, fun z c hz hc => ?_, hw.2.2.2⟩
  have hc : p_set (uo (fQ F) t none) (f_a (fP F) t) z = some c := hc
  have hnd := f_a_nd hw.2.1 ht
  by_cases hin : z ∈ (f_a (fP F) t).tail
  · have hzt : z ≠ t := f_a_tail hw.2.1 ht z hin
    obtain ⟨w, hw1, hw2⟩ := (f_a_prev hw.2.1 hw.1 t ht z (List.mem_of_mem_tail hin)).resolve_left hzt
    obtain ⟨A, B, e⟩ := f_a_adj hw.2.1 hw.1 ht hw1 hw2
    rw [e] at hc hnd
    rw [p_set_in A _ hnd] at hc
    cases hc
    exact ⟨f_a_lt hw.2.1 ht hw1, hw2⟩
  · rw [p_set_out (uo (fQ F) t none) _ _ hin] at hc
    by_cases e : z = t
    · subst e
      rw [uo_eq] at hc
      cases hc
    · rw [uo_ne e] at hc
      exact hw.2.2.1 z c hz hc
theorem rr_N : fN (f_reroot F t) = fN F ∧ fV (f_reroot F t) = fV F ∧ fS (f_reroot F t) = fS (f_touch F t) := rv_N _ _ _ _ _
theorem rr_hd (hw : f_wf F) (ht : t < fN F) : fP (f_reroot F t) t = none := by
  unfold f_reroot
  have hnd := f_a_nd hw.2.1 ht
  obtain ⟨r, e⟩ := f_a_hd (fP F) t
  rw [e] at hnd ⊢
  exact (rv_hd _ _ _ _ hnd).1
theorem rr_adj (hw : f_wf F) (ht : t < fN F) {x y : Nat} (hx : x ∈ f_a (fP F) t) (hp : fP F x = some y) : fP (f_reroot F t) y = some x ∧ fL (f_reroot F t) y = fL F x ∧ fC (f_reroot F t) y = fC F x := by
  unfold f_reroot
  have hnd := f_a_nd hw.2.1 ht
  obtain ⟨A, B, e⟩ := f_a_adj hw.2.1 hw.1 ht hx hp
  rw [e] at hnd ⊢
  exact rv_adj A _ _ _ _ hnd
theorem rr_out (hw : f_wf F) (ht : t < fN F) {x : Nat} (hx : x ∉ f_a (fP F) t) : fP (f_reroot F t) x = fP F x ∧ fQ (f_reroot F t) x = fQ F x ∧ fL (f_reroot F t) x = fL F x ∧ fC (f_reroot F t) x = fC F x := by
  unfold f_reroot
  obtain ⟨h1, h2, h3, h4⟩ := rv_out _ (f_touch F t) none 0 0 hx
  refine ⟨h1, h2.trans ?_, h3, h4⟩
  show p_set (uo (fQ F) t none) (f_a (fP F) t) x = fQ F x
  rw [p_set_out (fQ F) _ _ (fun h => hx (List.mem_of_mem_tail h)), uo_ne (fun e => hx (by rw [e]; exact f_a_self _ _))]
theorem rr_q (hw : f_wf F) (ht : t < fN F) {x : Nat} (hx : x ∈ f_a (fP F) t) : fQ (f_reroot F t) x = fP F x := rv_q _ _ _ _ _ (f_a_nd hw.2.1 ht) hx
theorem idx_app {x y : Nat} {B : List Nat} : ∀ (A : List Nat), (A ++ x :: y :: B).Nodup → (A ++ x :: y :: B).idxOf x < (A ++ x :: y :: B).idxOf y
  | [], h => by
    have hne : ¬ x = y := fun e => by subst e; simp at h
    have e : (x == y) = false := beq_eq_false_iff_ne.mpr hne
    simp [List.idxOf_cons, e]
  | a :: A, h => by
    obtain ⟨hn, hd⟩ := List.nodup_cons.mp h
    have hx : ¬ a = x := fun e => hn (by rw [e]; simp)
    have hy : ¬ a = y := fun e => hn (by rw [e]; simp)
    have ih := idx_app A hd
    rw [List.cons_append, List.idxOf_cons, List.idxOf_cons]
    simp only [beq_eq_false_iff_ne.mpr hx, beq_eq_false_iff_ne.mpr hy, cond_false]
    omega
theorem ok_reroot (hw : f_wf F) (ht : t < fN F) : f_ok (fN F) (fP (f_reroot F t)) := by
  have hnd := f_a_nd hw.2.1 ht
  have hl := hw.al ht
  obtain ⟨hlt, d, hd⟩ := hw.2.1
  have cs : ∀ x, x ∈ f_a (fP F) t → x = t ∨ ∃ w ∈ f_a (fP F) t, fP F w = some x := f_a_prev hw.2.1 hw.1 t ht
  refine ⟨fun x p hx hp => ?_, fun x => if x ∈ f_a (fP F) t then (f_a (fP F) t).idxOf x else 1000 + d x, fun x p hx hp => ?_⟩
  · by_cases hin : x ∈ f_a (fP F) t
    · rcases cs x hin with rfl | ⟨w, hw1, hw2⟩
      · rw [rr_hd hw ht] at hp; cases hp
      · rw [(rr_adj hw ht hw1 hw2).1] at hp
        cases hp
        exact f_a_lt hw.2.1 ht hw1
    · rw [(rr_out hw ht hin).1] at hp
      exact hlt x p hx hp
  · by_cases hin : x ∈ f_a (fP F) t
    · rcases cs x hin with rfl | ⟨w, hw1, hw2⟩
      · rw [rr_hd hw ht] at hp; cases hp
      · rw [(rr_adj hw ht hw1 hw2).1] at hp
        cases hp
        simp only [if_pos hin, if_pos hw1]
        obtain ⟨A, B, e⟩ := f_a_adj hw.2.1 hw.1 ht hw1 hw2
        rw [e] at hnd ⊢
        exact idx_app A hnd
    · rw [(rr_out hw ht hin).1] at hp
      simp only [if_neg hin]
      by_cases hpin : p ∈ f_a (fP F) t
      · simp only [if_pos hpin]
        have := List.idxOf_lt_length_of_mem hpin
        omega
      · simp only [if_neg hpin]
        have := hd x p hx hp
        omega
theorem wf_reroot (hw : f_wf F) (ht : t < fN F) : f_wf (f_reroot F t) := by
  have eN : fN (f_reroot F t) = fN F := rr_N.1
  have cs : ∀ x, x ∈ f_a (fP F) t → x = t ∨ ∃ w ∈ f_a (fP F) t, fP F w = some x := f_a_prev hw.2.1 hw.1 t ht
  refine ⟨by rw [eN]; exact hw.1, by rw [eN]; exact ok_reroot hw ht, fun z c hz hc => ?_, fun x hx hp => ?_⟩
  · rw [eN] at hz ⊢
    by_cases hin : z ∈ f_a (fP F) t
    · rw [rr_q hw ht hin] at hc
      exact ⟨hw.p hz hc, (rr_adj hw ht hin hc).1⟩
    · rw [(rr_out hw ht hin).2.1] at hc
      obtain ⟨h1, h2⟩ := hw.2.2.1 z c hz hc
      refine ⟨h1, ?_⟩
      rw [(rr_out hw ht (fun hcin => hin ?_)).1]
      · exact h2
      · refine f_a_tr hw.2.1 hw.1 ht hcin ?_
        rw [hw.as h1 h2]
        exact List.mem_cons_of_mem _ (f_a_self _ _)
  · rw [eN] at hx
    by_cases hin : x ∈ f_a (fP F) t
    · rcases cs x hin with rfl | ⟨w, hw1, hw2⟩
      · exact absurd (rr_hd hw ht) hp
      · obtain ⟨-, h2, h3⟩ := rr_adj hw ht hw1 hw2
        rw [h2, h3]
        exact hw.2.2.2 w (f_a_lt hw.2.1 ht hw1) (by rw [hw2]; simp)
    · obtain ⟨h1, -, h3, h4⟩ := rr_out hw ht hin
      rw [h1] at hp
      rw [h3, h4]
      exact hw.2.2.2 x hx hp
/-- above one of the way, behind rerooting -/
theorem rr_a_in (hw : f_wf F) (ht : t < fN F) : ∀ (m : Nat) (pre : List Nat) (x : Nat), pre.length = m → x < fN F → f_a (fP F) t = pre ++ f_a (fP F) x → f_a (fP (f_reroot F t)) x = x :: pre.reverse := by
  intro m
  induction m with
  | zero =>
    intro pre x hm hx e
    have : pre = [] := List.length_eq_zero_iff.mp hm
    subst this
    obtain ⟨r1, e1⟩ := f_a_hd (fP F) t
    obtain ⟨r2, e2⟩ := f_a_hd (fP F) x
    rw [e1, e2, List.nil_append] at e
    cases e
    exact f_a_none (ok_reroot hw ht) hw.1 ht (rr_hd hw ht)
  | succ m ih =>
    intro pre x hm hx e
    have hne : pre ≠ [] := fun q => by rw [q] at hm; cases hm
    obtain ⟨pre', w, rfl⟩ : ∃ pre' w, pre = pre' ++ [w] := ⟨pre.dropLast, pre.getLast hne, (List.dropLast_concat_getLast hne).symm⟩
    have e3 : f_a (fP F) t = pre' ++ w :: f_a (fP F) x := by rw [e]; simp
    have hpw : fP F w = some x := by
      have h1 := f_a_ch hw.2.1 hw.1 t ht
      rw [e3] at h1
      rw [p_ch_app pre' h1]
      rfl
    have hwin : w ∈ f_a (fP F) t := by rw [e3]; simp
    have hwn := f_a_lt hw.2.1 ht hwin
    have h4 := ih pre' w (by simpa using hm) hwn (by rw [e3, hw.as hwn hpw])
    rw [f_a_some (ok_reroot hw ht) hw.1 hx (rr_adj hw ht hwin hpw).1, h4]
    simp
end WF
/-- where two ways up come together -/
def f_md (par : Nat → Option Nat) (a b m : Nat) (A B : List Nat) : Prop := f_a par a = A ++ f_a par m ∧ f_a par b = B ++ f_a par m ∧ (∀ x ∈ A, x ∉ f_a par b) ∧ ∀ x ∈ B, x ∉ f_a par a
theorem f_md_ex {n : Nat} {par : Nat → Option Nat} (h : f_ok n par) (hn : n ≤ 24) {b : Nat} (hb : b < n) : ∀ a, a < n → f_r par a = f_r par b → ∃ m A B, f_md par a b m A B := by
  refine f_ind h fun a ha ih hr => ?_
  by_cases hin : a ∈ f_a par b
  · obtain ⟨B, e⟩ := f_a_suf h hn b hb a hin
    refine ⟨a, [], B, rfl, e, fun x hx => (by cases hx), fun x hx hxa => ?_⟩
    have hnd := f_a_nd h hb
    rw [e] at hnd
    exact (List.nodup_append.mp hnd).2.2 x hx x hxa rfl
  · cases hp : par a with
    | none =>
      exfalso
      rw [f_r_none h hn ha hp] at hr
      exact hin (by rw [hr]; exact (f_r_lt h hn b hb).2.2)
    | some p =>
      obtain ⟨m, A, B, h1, h2, h3, h4⟩ := ih p hp (by rw [← hr, f_r_some h hn ha hp])
      refine ⟨m, a :: A, B, by rw [f_a_some h hn ha hp, h1]; rfl, h2, fun x hx => ?_, fun x hx hxa => ?_⟩
      · rcases List.mem_cons.mp hx with rfl | hx
        · exact hin
        · exact h3 x hx
      · rw [f_a_some h hn ha hp] at hxa
        rcases List.mem_cons.mp hxa with rfl | hxa
        · exact hin (by rw [h2]; exact List.mem_append_left _ hx)
        · exact h4 x hx hxa
theorem f_md.symm {par : Nat → Option Nat} {a b m : Nat} {A B : List Nat} (h : f_md par a b m A B) : f_md par b a m B A := ⟨h.2.1, h.1, h.2.2.2, h.2.2.1⟩
theorem f_md.mem {par : Nat → Option Nat} {a b m : Nat} {A B : List Nat} (h : f_md par a b m A B) : m ∈ f_a par a ∧ m ∈ f_a par b := ⟨by rw [h.1]; exact List.mem_append_right _ (f_a_self _ _), by rw [h.2.1]; exact List.mem_append_right _ (f_a_self _ _)⟩
section WF
variable {F : fF} {a b : Nat}
/-- above any town of the tree, behind rerooting -/
theorem rr_a (hw : f_wf F) (ha : a < fN F) {m : Nat} : ∀ (B A : List Nat) (b : Nat), b < fN F → f_md (fP F) a b m A B → f_a (fP (f_reroot F a)) b = B ++ m :: A.reverse
  | [], A, b, hb, h => by
    have hmn := f_a_lt hw.2.1 ha h.mem.1
    have e : b = m := by
      have := h.2.1
      obtain ⟨r1, e1⟩ := f_a_hd (fP F) b
      obtain ⟨r2, e2⟩ := f_a_hd (fP F) m
      rw [e1, e2, List.nil_append] at this
      exact (List.cons.inj this).1
    subst e
    exact rr_a_in hw ha A.length A b rfl hb h.1
  | x :: B, A, b, hb, h => by
    have h2 := h.2.1
    obtain ⟨r1, e1⟩ := f_a_hd (fP F) b
    have e : x = b := by
      rw [e1, List.cons_append] at h2
      exact (List.cons.inj h2).1.symm
    subst e
    have hx : x ∉ f_a (fP F) a := h.2.2.2 x List.mem_cons_self
    cases hp : fP F x with
    | none =>
      exfalso
      rw [hw.an hb hp, List.cons_append] at h2
      have h3 := (List.cons.inj h2).2
      have h4 := f_a_pos (fP F) m
      have h5 := congrArg List.length h3
      rw [List.length_append, List.length_nil] at h5
      omega
    | some p =>
      have hpn := hw.p hb hp
      rw [hw.as hb hp, List.cons_append] at h2
      have h2 := (List.cons.inj h2).2
      rw [f_a_some (ok_reroot hw ha) hw.1 hb (by rw [(rr_out hw ha hx).1]; exact hp), rr_a hw ha B A p hpn ⟨h.1, h2, fun y hy hyp => h.2.2.1 y hy (by rw [hw.as hb hp]; exact List.mem_cons_of_mem _ hyp), fun y hy => h.2.2.2 y (List.mem_cons_of_mem _ hy)⟩]
      rfl
/-- another tree stays -/
theorem rr_other (hw : f_wf F) (ha : a < fN F) : ∀ b, b < fN F → f_r (fP F) a ≠ f_r (fP F) b → f_a (fP (f_reroot F a)) b = f_a (fP F) b := by
  refine f_ind hw.2.1 fun b hb ih hr => ?_
  have hb2 : b ∉ f_a (fP F) a := fun q => hr (f_r_up hw.2.1 hw.1 a ha b q).symm
  cases hp : fP F b with
  | none => rw [hw.an hb hp]; exact f_a_none (ok_reroot hw ha) hw.1 hb (by rw [(rr_out hw ha hb2).1]; exact hp)
  | some p => rw [hw.as hb hp, f_a_some (ok_reroot hw ha) hw.1 hb (by rw [(rr_out hw ha hb2).1]; exact hp), ih p hp (by rw [← f_r_some hw.2.1 hw.1 hb hp]; exact hr)]
theorem rr_root (hw : f_wf F) (ha : a < fN F) (hb : b < fN F) (hr : f_r (fP F) a = f_r (fP F) b) : f_r (fP (f_reroot F a)) b = a := by
  obtain ⟨m, A, B, h⟩ := f_md_ex hw.2.1 hw.1 hb a ha hr
  refine f_r_of (ok_reroot hw ha) hw.1 hb ?_ (rr_hd hw ha)
  rw [rr_a hw ha B A b hb h]
  have h1 := h.1
  obtain ⟨r1, e1⟩ := f_a_hd (fP F) a
  cases A with
  | nil =>
    obtain ⟨r2, e2⟩ := f_a_hd (fP F) m
    rw [e1, e2, List.nil_append] at h1
    rw [(List.cons.inj h1).1]
    simp
  | cons x A =>
    rw [e1, List.cons_append] at h1
    rw [(List.cons.inj h1).1]
    simp
theorem rr_root2 (hw : f_wf F) (ha : a < fN F) (hb : b < fN F) (hr : f_r (fP F) a ≠ f_r (fP F) b) : f_r (fP (f_reroot F a)) b = f_r (fP F) b := by
  unfold f_r
  rw [rr_other hw ha b hb hr]
theorem wk_N : fN (f_walk F a b) = fN F := rr_N.1
theorem wf_walk (hw : f_wf F) (ha : a < fN F) (hb : b < fN F) : f_wf (f_walk F a b) := wf_touch (wf_reroot hw ha) (by rw [rr_N.1]; exact hb)
theorem wf_link (hw : f_wf F) (ha : a < fN F) (hb : b < fN F) (hr : f_r (fP F) a ≠ f_r (fP F) b) {l c : Nat} (hl : 1 ≤ l ∧ l ≤ 9999) (hc : c ≤ 9999) : f_wf (f_link F a b l c) := by
  have hG := wf_walk hw ha hb
  have hok := ok_reroot hw ha
  have hlt : ∀ x p, x < fN F → fP (f_reroot F a) x = some p → p < fN F := hok.1
  obtain ⟨d, hd⟩ := hok.2
  have eN : fN (f_link F a b l c) = fN F := wk_N (b := b)
  have eP : fP (f_link F a b l c) = uo (fP (f_reroot F a)) a (some b) := rfl
  have hroot := rr_hd hw ha
  refine ⟨by rw [eN]; exact hw.1, ?_, fun z q hz hq => ?_, fun x hx hp => ?_⟩
  · rw [eN, eP]
    refine ⟨fun x p hx hp => ?_, fun x => if f_r (fP (f_reroot F a)) x = a then d x + d b + 1 else d x, fun x p hx hp => ?_⟩
    · by_cases e : x = a
      · subst e; rw [uo_eq] at hp; cases hp; exact hb
      · rw [uo_ne e] at hp; exact hlt x p hx hp
    · by_cases e : x = a
      · subst e
        rw [uo_eq] at hp
        cases hp
        have h1 : ¬ f_r (fP (f_reroot F x)) b = x := by
          rw [rr_root2 hw ha hb hr]
          intro q
          exact hr (by rw [q]; exact (f_r_up hw.2.1 hw.1 b hb x (by rw [← q]; exact (f_r_lt hw.2.1 hw.1 b hb).2.2)).trans q)
        have h2 : f_r (fP (f_reroot F x)) x = x := f_r_none (ok_reroot hw ha) hw.1 ha hroot
        simp only [if_neg h1, if_pos h2]
        omega
      · rw [uo_ne e] at hp
        have h1 := f_r_some (ok_reroot hw ha) hw.1 hx hp
        have h2 := hd x p hx hp
        simp only [h1]
        split <;> omega
  · obtain ⟨h1, h2⟩ := hG.2.2.1 z q (by rw [wk_N]; rw [eN] at hz; exact hz) hq
    rw [wk_N] at h1
    refine ⟨by rw [eN]; exact h1, ?_⟩
    rw [eP, uo_ne (fun e => ?_)]
    · exact h2
    · subst e
      have h2 : fP (f_reroot F q) q = some z := h2
      rw [hroot] at h2
      cases h2
  · by_cases e : x = a
    · subst e
      have e1 : fL (f_link F x b l c) x = l := uo_eq _ _ _
      have e2 : fC (f_link F x b l c) x = c := uo_eq _ _ _
      rw [e1, e2]
      exact ⟨hl.1, hl.2, hc⟩
    · have e1 : fL (f_link F a b l c) x = fL (f_walk F a b) x := uo_ne e
      have e2 : fC (f_link F a b l c) x = fC (f_walk F a b) x := uo_ne e
      rw [e1, e2]
      refine hG.2.2.2 x (by rw [wk_N]; rw [eN] at hx; exact hx) ?_
      rw [eP, uo_ne e] at hp
      exact hp
/-- a link's two ends: behind rerooting at one it is the parent of the other -/
theorem rr_link (hw : f_wf F) (ha : a < fN F) (hb : b < fN F) (h : fP F a = some b ∨ fP F b = some a) : fP (f_reroot F a) b = some a := by
  rcases h with h | h
  · exact (rr_adj hw ha (f_a_self _ _) h).1
  · have hnd := f_a_nd hw.2.1 hb
    rw [hw.as hb h] at hnd
    rw [(rr_out hw ha (List.nodup_cons.mp hnd).1).1]
    exact h
theorem wf_cut (hw : f_wf F) (ha : a < fN F) (hb : b < fN F) (h : fP F a = some b ∨ fP F b = some a) : f_wf (f_cut F a b) := by
  have hG := wf_walk hw ha hb
  have hl := rr_link hw ha hb h
  have eN : fN (f_cut F a b) = fN F := wk_N (b := b)
  have eP : fP (f_cut F a b) = uo (fP (f_reroot F a)) b none := rfl
  have eQ : fQ (f_cut F a b) = uo (fQ (f_walk F a b)) a none := rfl
  obtain ⟨h1, d, h2⟩ := ok_reroot hw ha
  refine ⟨by rw [eN]; exact hw.1, ?_, fun z q hz hq => ?_, fun x hx hp => ?_⟩
  · rw [eN, eP]
    refine ⟨fun x p hx hp => ?_, d, fun x p hx hp => ?_⟩
    · by_cases e : x = b
      · subst e; rw [uo_eq] at hp; cases hp
      · rw [uo_ne e] at hp; exact h1 x p hx hp
    · by_cases e : x = b
      · subst e; rw [uo_eq] at hp; cases hp
      · rw [uo_ne e] at hp; exact h2 x p hx hp
  · rw [eN] at hz ⊢
    by_cases e : z = a
    · subst e; rw [eQ, uo_eq] at hq; cases hq
    · rw [eQ, uo_ne e] at hq
      obtain ⟨h3, h4⟩ := hG.2.2.1 z q (by rw [wk_N]; exact hz) hq
      rw [wk_N] at h3
      refine ⟨h3, ?_⟩
      have h4 : fP (f_reroot F a) q = some z := h4
      rw [eP, uo_ne (fun e2 => ?_)]
      · exact h4
      · subst e2
        have h4 : fP (f_reroot F a) q = some z := h4
        rw [hl] at h4
        cases h4
        exact e rfl
  · have e1 : ¬ x = b := fun e => by subst e; rw [eP, uo_eq] at hp; exact hp rfl
    rw [eP, uo_ne e1] at hp
    exact hG.2.2.2 x (by rw [wk_N]; rw [eN] at hx; exact hx) hp
end WF
