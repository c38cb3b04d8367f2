/-! ===== how far ===== -/
section FR
variable {n : Nat} {par : Nat → Option Nat} {w : Nat → Nat}
theorem up_hd {m p : Nat} {A R : List Nat} (h : f_a par p = A ++ f_a par m) : ∃ r, A ++ m :: R = p :: r := by
  cases A with
  | nil =>
    have h1 := congrArg List.head? h
    rw [List.nil_append, f_a_head?, f_a_head?] at h1
    cases h1
    exact ⟨R, rfl⟩
  | cons y A =>
    have h1 := congrArg List.head? h
    rw [f_a_head?] at h1
    cases h1
    exact ⟨A ++ m :: R, rfl⟩
theorem up_cons (h : f_ok n par) (hn : n ≤ 24) {a m x : Nat} {A : List Nat} (ha : a < n) (e : f_a par a = x :: A ++ f_a par m) : x = a ∧ ∃ p, p < n ∧ par a = some p ∧ f_a par p = A ++ f_a par m := by
  have h1 := congrArg List.head? e
  rw [f_a_head?] at h1
  cases h1
  refine ⟨rfl, ?_⟩
  cases hp : par a with
  | none =>
    rw [f_a_none h hn ha hp] at e
    injection e with _ e
    have h3 := (List.nil_eq_append_iff.mp e).2
    have h4 := f_a_self par m
    rw [h3] at h4
    cases h4
  | some p =>
    rw [f_a_some h hn ha hp] at e
    injection e with _ e
    exact ⟨p, h.1 a p ha hp, rfl, e⟩
theorem f_ws_up (h : f_ok n par) (hn : n ≤ 24) {m : Nat} {R : List Nat} : ∀ (A : List Nat) (a : Nat), a < n → f_a par a = A ++ f_a par m → f_ws par w (A ++ m :: R) = A.map w ++ f_ws par w (m :: R)
  | [], a, _, _ => rfl
  | x :: A, a, ha, e => by
    obtain ⟨rfl, p, hp1, hp2, hp3⟩ := up_cons h hn ha e
    have ih := f_ws_up h hn (R := R) A p hp1 hp3
    obtain ⟨r, er⟩ := up_hd (R := R) hp3
    rw [List.cons_append, List.map_cons, List.cons_append, ← ih, er, f_ws]
    unfold f_lw
    rw [if_pos hp2]
theorem f_ws_snoc {x y : Nat} : ∀ (L : List Nat), f_ws par w (L ++ [y, x]) = f_ws par w (L ++ [y]) ++ [w (f_lw par y x)]
  | [] => rfl
  | [a] => rfl
  | a :: b :: L => by
    have := f_ws_snoc (x := x) (y := y) (b :: L)
    rw [List.cons_append, List.cons_append, List.cons_append, List.cons_append, f_ws, f_ws]
    rw [List.cons_append, List.cons_append] at this
    rw [this]
    rfl
theorem lw_sym (h : f_ok n par) {x y : Nat} (hx : x < n) (hy : y < n) (hk : f_lk par x y) : f_lw par x y = f_lw par y x := by
  obtain ⟨_, d, hd⟩ := h
  unfold f_lw
  by_cases h1 : par x = some y <;> by_cases h2 : par y = some x
  · have := hd x y hx h1
    have := hd y x hy h2
    omega
  · rw [if_pos h1, if_neg h2]
  · rw [if_neg h1, if_pos h2]
  · rcases hk with h | h
    · exact absurd h h1
    · exact absurd h h2
theorem f_ws_rev (h : f_ok n par) : ∀ (L : List Nat), (∀ x ∈ L, x < n) → f_lks par L → f_ws par w L.reverse = (f_ws par w L).reverse
  | [], _, _ => rfl
  | [x], _, _ => rfl
  | x :: y :: r, hL, hk => by
    have ih := f_ws_rev h (y :: r) (fun z hz => hL z (List.mem_cons_of_mem _ hz)) hk.2
    rw [List.reverse_cons, List.reverse_cons, List.append_assoc]
    rw [List.reverse_cons] at ih
    show f_ws par w (r.reverse ++ [y, x]) = _
    rw [f_ws_snoc, ih, f_ws, List.reverse_cons, lw_sym h (hL x List.mem_cons_self) (hL y (List.mem_cons_of_mem _ List.mem_cons_self)) hk.1]
theorem f_ws_way (h : f_ok n par) (hn : n ≤ 24) {a b m : Nat} {A B : List Nat} (ha : a < n) (hb : b < n) (hm : f_md par a b m A B) : f_ws par w (f_way par a b) = A.map w ++ (B.map w).reverse := by
  rw [f_way_md h hm, f_ws_up h hn A a ha hm.1]
  congr 1
  have hB : f_lks par (B ++ [m]) := by
    have h1 := f_way_lks h hn hb ha
    rw [f_way_md h hm.symm] at h1
    exact f_lks_pre (B ++ [m]) (B := A.reverse) (by rw [List.append_assoc]; exact h1)
  have hlt : ∀ x ∈ B ++ [m], x < n := fun x hx => by
    rw [List.mem_append, List.mem_singleton] at hx
    rcases hx with hx | rfl
    · exact f_a_lt h hb (by rw [hm.2.1]; exact List.mem_append_left _ hx)
    · exact f_a_lt h hb hm.mem.2
  have h2 := f_ws_rev (w := w) h (B ++ [m]) hlt hB
  rw [List.reverse_append] at h2
  show f_ws par w ([m].reverse ++ B.reverse) = _
  rw [h2, f_ws_up h hn B b hb hm.2.1]
  show (B.map w ++ []).reverse = _
  rw [List.append_nil]
end FR
def f_D (F : fF) (a b : Nat) : Nat := (f_ws (fP F) (fL F) (f_way (fP F) a b)).sum
theorem sum_rv : ∀ (l : List Nat), l.reverse.sum = l.sum
  | [] => rfl
  | x :: r => by
    rw [List.reverse_cons, List.sum_append, sum_rv r, List.sum_cons, List.sum_cons, List.sum_nil]
    omega
section FD
variable {F : fF}
theorem f_D_md (hw : f_wf F) {a b m : Nat} {A B : List Nat} (ha : a < fN F) (hb : b < fN F) (hm : f_md (fP F) a b m A B) : f_D F a b = (A.map (fL F)).sum + (B.map (fL F)).sum := by
  unfold f_D
  rw [f_ws_way hw.2.1 hw.1 ha hb hm, List.sum_append, sum_rv]
theorem f_D_sym (hw : f_wf F) {a b : Nat} (ha : a < fN F) (hb : b < fN F) (hr : f_r (fP F) a = f_r (fP F) b) : f_D F a b = f_D F b a := by
  obtain ⟨m, A, B, hm⟩ := f_md_ex hw.2.1 hw.1 hb a ha hr
  rw [f_D_md hw ha hb hm, f_D_md hw hb ha hm.symm]
  omega
theorem f_D_self (hw : f_wf F) {a : Nat} (ha : a < fN F) : f_D F a a = 0 := by
  rw [f_D_md hw ha ha (m := a) (A := []) (B := []) ⟨rfl, rfl, fun x hx => (by cases hx), fun x hx => (by cases hx)⟩]
  rfl
theorem f_D_up (hw : f_wf F) {t o p : Nat} (ht : t < fN F) (ho : o < fN F) (hr : f_r (fP F) t = f_r (fP F) o) (hp : fP F t = some p) (hto : t ∉ f_a (fP F) o) : f_D F t o = f_D F p o + fL F t := by
  obtain ⟨m, A, B, hm⟩ := f_md_ex hw.2.1 hw.1 ho t ht hr
  cases A with
  | nil =>
    have h1 := congrArg List.head? hm.1
    rw [List.nil_append, f_a_head?, f_a_head?] at h1
    cases h1
    exact absurd hm.mem.2 hto
  | cons x A =>
    obtain ⟨rfl, p', hp1, hp2, hp3⟩ := up_cons hw.2.1 hw.1 ht hm.1
    rw [hp] at hp2
    cases hp2
    have hm2 : f_md (fP F) p o m A B := ⟨hp3, hm.2.1, fun z hz => hm.2.2.1 z (List.mem_cons_of_mem _ hz), fun z hz q => hm.2.2.2 z hz (by rw [hw.as ht hp]; exact List.mem_cons_of_mem _ q)⟩
    rw [f_D_md hw ht ho hm, f_D_md hw hp1 ho hm2, List.map_cons, List.sum_cons]
    omega
theorem sum_le {k : Nat} : ∀ (l : List Nat), (∀ v ∈ l, v ≤ k) → l.sum ≤ k * l.length
  | [], _ => Nat.zero_le _
  | x :: r, h => by
    have := sum_le r (fun v hv => h v (List.mem_cons_of_mem _ hv))
    have := h x List.mem_cons_self
    rw [List.sum_cons, List.length_cons, Nat.mul_add]
    omega
theorem f_ws_le (hw : f_wf F) : ∀ (L : List Nat), (∀ x ∈ L, x < fN F) → f_lks (fP F) L → ∀ v ∈ f_ws (fP F) (fL F) L, 1 ≤ v ∧ v ≤ 9999
  | [], _, _, v, hv => by cases hv
  | [x], _, _, v, hv => by cases hv
  | x :: y :: r, hL, hk, v, hv => by
    rw [f_ws, List.mem_cons] at hv
    rcases hv with rfl | hv
    · have hlw := f_lw_lt (par := fP F) (hL x List.mem_cons_self) (hL y (List.mem_cons_of_mem _ List.mem_cons_self))
      have := hw.2.2.2 _ hlw (f_lw_ne hk.1)
      exact ⟨this.1, this.2.1⟩
    · exact f_ws_le hw (y :: r) (fun z hz => hL z (List.mem_cons_of_mem _ hz)) hk.2 v hv
theorem f_D_le (hw : f_wf F) {a b : Nat} (ha : a < fN F) (hb : b < fN F) : f_D F a b ≤ 239976 := by
  have h1 := sum_le (k := 9999) (f_ws (fP F) (fL F) (f_way (fP F) a b)) (fun v hv => (f_ws_le hw _ (f_way_lt hw.2.1 hw.1 ha hb) (f_way_lks hw.2.1 hw.1 ha hb) v hv).2)
  rw [f_ws_len] at h1
  have h2 := (f_way_nd hw ha hb).2
  unfold f_D
  have : 9999 * ((f_way (fP F) a b).length - 1) ≤ 9999 * 24 := Nat.mul_le_mul_left _ (by omega)
  omega
theorem fm_split {f : Nat → List Nat} {x : Nat} {B : List Nat} : ∀ (l A : List Nat), l.flatMap f = A ++ x :: B → ∃ K1 c K2 A' B', l = K1 ++ c :: K2 ∧ f c = A' ++ x :: B' ∧ A = K1.flatMap f ++ A' ∧ B = B' ++ K2.flatMap f
  | [], A, h => by
    rw [List.flatMap_nil] at h
    cases A <;> cases h
  | a :: r, A, h => by
    rw [List.flatMap_cons] at h
    rcases List.append_eq_append_iff.mp h with ⟨A', h1, h2⟩ | ⟨C, h1, h2⟩
    · obtain ⟨K1, c, K2, A2, B2, e1, e2, e3, e4⟩ := fm_split r A' h2
      refine ⟨a :: K1, c, K2, A2, B2, by rw [e1]; rfl, e2, ?_, e4⟩
      rw [h1, e3, List.flatMap_cons, List.append_assoc]
    · cases C with
      | nil =>
        obtain ⟨K1, c, K2, A2, B2, e1, e2, e3, e4⟩ := fm_split r [] h2.symm
        refine ⟨a :: K1, c, K2, A2, B2, by rw [e1]; rfl, e2, ?_, e4⟩
        rw [List.flatMap_cons, List.append_assoc, ← e3, h1, List.append_nil, List.append_nil]
      | cons y C =>
        injection h2 with e1 e2
        subst e1
        exact ⟨[], a, r, A, C, rfl, h1, rfl, e2⟩
/-- in the order of a tree a parent is ahead -/
theorem f_or_par (hw : f_wf F) : ∀ R, R < fN F → ∀ A t B, f_or F R = A ++ t :: B → t = R ∨ ∃ p ∈ A, fP F t = some p := f_dn hw fun R hR ih A t B e => by
  rw [f_or_eq hw hR] at e
  cases A with
  | nil =>
    injection e with e1 e2
    exact Or.inl e1.symm
  | cons a A =>
    injection e with e1 e2
    subst e1
    obtain ⟨K1, c, K2, A', B', k1, k2, k3, k4⟩ := fm_split _ _ e2
    have hc : c ∈ f_kd F R := by rw [k1]; exact List.mem_append_right _ List.mem_cons_self
    obtain ⟨hc1, hc2⟩ := (f_kd_mem hw hR).mp hc
    rcases ih c hc1 hc2 A' t B' k2 with rfl | ⟨p, hp, hp2⟩
    · exact Or.inr ⟨R, List.mem_cons_self, hc2⟩
    · exact Or.inr ⟨p, List.mem_cons_of_mem _ (by rw [k3]; exact List.mem_append_right _ hp), hp2⟩
/-- whose parents are ahead, all above are ahead -/
theorem pre_up (hw : f_wf F) {R : Nat} {L : List Nat} (hR : fP F R = none) (hL : ∀ A t B, L = A ++ t :: B → t = R ∨ ∃ p ∈ A, fP F t = some p) (hLn : ∀ x ∈ L, x < fN F) : ∀ (m : Nat) (A : List Nat) (o : Nat) (B : List Nat), A.length = m → L = A ++ o :: B → ∀ x ∈ f_a (fP F) o, x ∈ A ++ [o] := by
  intro m
  induction m using Nat.strongRecOn with
  | _ m ih =>
    intro A o B hA e x hx
    have ho : o < fN F := hLn o (by rw [e]; exact List.mem_append_right _ List.mem_cons_self)
    rcases hL A o B e with rfl | ⟨p, hp, hp2⟩
    · rw [hw.an ho hR, List.mem_singleton] at hx
      rw [hx]
      exact List.mem_append_right _ (List.mem_singleton.mpr rfl)
    · rw [hw.as ho hp2, List.mem_cons] at hx
      rcases hx with rfl | hx
      · exact List.mem_append_right _ (List.mem_singleton.mpr rfl)
      · obtain ⟨A1, A2, rfl⟩ := List.append_of_mem hp
        have := ih A1.length (by rw [← hA, List.length_append, List.length_cons]; omega) A1 p (A2 ++ o :: B) rfl (by rw [e, List.append_assoc, List.cons_append]) x hx
        refine List.mem_append_left _ ?_
        rw [List.mem_append, List.mem_singleton] at this
        rcases this with h | rfl
        · exact List.mem_append_left _ h
        · exact List.mem_append_right _ List.mem_cons_self
end FD
