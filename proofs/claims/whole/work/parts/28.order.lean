/-! ===== the order of a tree ===== -/
/-- those of t .. t+m-1 that are so -/
def fl (p : Nat → Bool) : Nat → Nat → List Nat
  | _, 0 => []
  | t, m + 1 => if p t then t :: fl p (t + 1) m else fl p (t + 1) m
theorem fl_mem {p : Nat → Bool} {x : Nat} : ∀ (m t : Nat), x ∈ fl p t m ↔ t ≤ x ∧ x < t + m ∧ p x = true
  | 0, t => by
    rw [fl]
    exact ⟨fun h => (by cases h), fun h => (by omega)⟩
  | m + 1, t => by
    rw [fl]
    by_cases hp : p t = true
    · rw [if_pos hp, List.mem_cons, fl_mem m (t + 1)]
      constructor
      · rintro (rfl | h)
        · exact ⟨Nat.le_refl _, by omega, hp⟩
        · exact ⟨by omega, by omega, h.2.2⟩
      · intro h
        by_cases e : x = t
        · exact Or.inl e
        · exact Or.inr ⟨by omega, by omega, h.2.2⟩
    · rw [if_neg hp, fl_mem m (t + 1)]
      constructor
      · intro h
        exact ⟨by omega, by omega, h.2.2⟩
      · intro h
        by_cases e : x = t
        · subst e; exact absurd h.2.2 hp
        · exact ⟨by omega, by omega, h.2.2⟩
theorem fl_nd {p : Nat → Bool} : ∀ (m t : Nat), (fl p t m).Nodup
  | 0, t => List.nodup_nil
  | m + 1, t => by
    rw [fl]
    by_cases hp : p t = true
    · rw [if_pos hp, List.nodup_cons]
      refine ⟨fun h => ?_, fl_nd m (t + 1)⟩
      have := (fl_mem m (t + 1)).mp h
      omega
    · rw [if_neg hp]
      exact fl_nd m (t + 1)
theorem fl_head {p : Nat → Bool} : ∀ (m t : Nat), (fl p t m).head? = ff p t m
  | 0, t => rfl
  | m + 1, t => by
    rw [fl, ff]
    by_cases hp : p t = true
    · rw [if_pos hp, if_pos hp]; rfl
    · rw [if_neg hp, if_neg hp]
      exact fl_head m (t + 1)
theorem fl_split {p : Nat → Bool} {c : Nat} {K2 : List Nat} : ∀ (m t : Nat) (K1 : List Nat), fl p t m = K1 ++ c :: K2 → K2 = fl p (c + 1) (t + m - (c + 1))
  | 0, t, K1, h => by
    rw [fl] at h
    cases K1 <;> cases h
  | m + 1, t, K1, h => by
    rw [fl] at h
    by_cases hp : p t = true
    · rw [if_pos hp] at h
      cases K1 with
      | nil =>
        injection h with h1 h2
        subst h1
        rw [← h2]
        congr 1
        omega
      | cons a K1 =>
        injection h with h1 h2
        rw [fl_split m (t + 1) K1 h2]
        congr 1
        omega
    · rw [if_neg hp] at h
      rw [fl_split m (t + 1) K1 h]
      congr 1
      omega
theorem fl_rev {p : Nat → Bool} {m t : Nat} : (fl p t (m + 1)).reverse = (fl p (t + 1) m).reverse ++ (if p t then [t] else []) := by
  rw [fl]
  by_cases hp : p t = true
  · rw [if_pos hp, if_pos hp, List.reverse_cons]
  · rw [if_neg hp, if_neg hp, List.append_nil]
theorem fm_cg {α β : Type} {f g : α → List β} : ∀ (l : List α), (∀ x ∈ l, f x = g x) → l.flatMap f = l.flatMap g
  | [], _ => rfl
  | x :: r, h => by
    rw [List.flatMap_cons, List.flatMap_cons, h x (List.mem_cons_self), fm_cg r (fun y hy => h y (List.mem_cons_of_mem _ hy))]
/-- the children of a town in order: the preferred one ahead -/
def f_pk (F : fF) (t : Nat) : Nat → Bool := fun x => decide (fP F x = some t ∧ fQ F t ≠ some x)
def f_kd (F : fF) (t : Nat) : List Nat := (fQ F t).toList ++ fl (f_pk F t) 0 (fN F)
def pr (F : fF) : Nat → Nat → List Nat
  | 0, _ => []
  | k + 1, t => t :: (f_kd F t).flatMap (pr F k)
def f_or (F : fF) (t : Nat) : List Nat := pr F 24 t
section OR
variable {F : fF}
theorem f_kd_mem (hw : f_wf F) {t x : Nat} (ht : t < fN F) : x ∈ f_kd F t ↔ x < fN F ∧ fP F x = some t := by
  unfold f_kd
  rw [List.mem_append, fl_mem, Option.mem_toList]
  constructor
  · rintro (h | h)
    · exact hw.2.2.1 t x ht h
    · have := of_decide_eq_true h.2.2
      exact ⟨by omega, this.1⟩
  · intro h
    by_cases e : fQ F t = some x
    · exact Or.inl e
    · exact Or.inr ⟨by omega, by omega, decide_eq_true ⟨h.2, e⟩⟩
theorem f_kd_nd (t : Nat) : (f_kd F t).Nodup := by
  unfold f_kd
  cases e : fQ F t with
  | none => exact fl_nd _ _
  | some q =>
    show (q :: fl (f_pk F t) 0 (fN F)).Nodup
    rw [List.nodup_cons]
    refine ⟨fun h => ?_, fl_nd _ _⟩
    have := of_decide_eq_true ((fl_mem _ _).mp h).2.2
    exact this.2 e
theorem kd_d (hw : f_wf F) {t x : Nat} (hx : x < fN F) (hp : fP F x = some t) : f_d (fP F) x = f_d (fP F) t + 1 := f_d_some hw.2.1 hw.1 hx hp
theorem pr_cg (hw : f_wf F) : ∀ (k k' t : Nat), t < fN F → 24 ≤ k + f_d (fP F) t → 24 ≤ k' + f_d (fP F) t → pr F k t = pr F k' t
  | 0, k', t, ht, h, _ => by have := f_d_lt hw ht; omega
  | k + 1, 0, t, ht, _, h => by have := f_d_lt hw ht; omega
  | k + 1, k' + 1, t, ht, h, h' => by
    rw [pr, pr]
    congr 1
    refine fm_cg _ fun c hc => ?_
    obtain ⟨h1, h2⟩ := (f_kd_mem hw ht).mp hc
    have := kd_d hw h1 h2
    exact pr_cg hw k k' c h1 (by omega) (by omega)
theorem f_or_eq (hw : f_wf F) {t : Nat} (ht : t < fN F) : f_or F t = t :: (f_kd F t).flatMap (f_or F) := by
  unfold f_or
  rw [show pr F 24 t = t :: (f_kd F t).flatMap (pr F 23) from rfl]
  congr 1
  refine fm_cg _ fun c hc => ?_
  obtain ⟨h1, h2⟩ := (f_kd_mem hw ht).mp hc
  have := kd_d hw h1 h2
  exact pr_cg hw 23 24 c h1 (by omega) (by omega)
theorem f_dn (hw : f_wf F) {P : Nat → Prop} (hs : ∀ t, t < fN F → (∀ c, c < fN F → fP F c = some t → P c) → P t) : ∀ t, t < fN F → P t := by
  have key : ∀ (k t : Nat), t < fN F → 24 ≤ k + f_d (fP F) t → P t := by
    intro k
    induction k with
    | zero => intro t ht h; have := f_d_lt hw ht; omega
    | succ k ih =>
      intro t ht h
      exact hs t ht fun c hc hp => ih c hc (by have := kd_d hw hc hp; omega)
  exact fun t ht => key 24 t ht (by omega)
theorem f_or_mem1 (hw : f_wf F) : ∀ t, t < fN F → ∀ x ∈ f_or F t, x < fN F ∧ t ∈ f_a (fP F) x := f_dn hw fun t ht ih x hx => by
  rw [f_or_eq hw ht, List.mem_cons, List.mem_flatMap] at hx
  rcases hx with rfl | ⟨c, hc, hx⟩
  · exact ⟨ht, f_a_self _ _⟩
  · obtain ⟨h1, h2⟩ := (f_kd_mem hw ht).mp hc
    obtain ⟨h3, h4⟩ := ih c h1 h2 x hx
    refine ⟨h3, f_a_tr hw.2.1 hw.1 h3 h4 ?_⟩
    rw [hw.as h1 h2]
    exact List.mem_cons_of_mem _ (f_a_self _ _)
theorem f_or_self (hw : f_wf F) {t : Nat} (ht : t < fN F) : t ∈ f_or F t := by
  rw [f_or_eq hw ht]
  exact List.mem_cons_self
theorem f_or_kid (hw : f_wf F) : ∀ t, t < fN F → ∀ p x, p ∈ f_or F t → x < fN F → fP F x = some p → x ∈ f_or F t := f_dn hw fun t ht ih p x hp hx hxp => by
  rw [f_or_eq hw ht, List.mem_cons, List.mem_flatMap] at hp ⊢
  rcases hp with rfl | ⟨c, hc, hp⟩
  · exact Or.inr ⟨x, (f_kd_mem hw ht).mpr ⟨hx, hxp⟩, f_or_self hw hx⟩
  · obtain ⟨h1, h2⟩ := (f_kd_mem hw ht).mp hc
    exact Or.inr ⟨c, hc, ih c h1 h2 p x hp hx hxp⟩
theorem f_or_mem2 (hw : f_wf F) {t : Nat} (ht : t < fN F) : ∀ x, x < fN F → t ∈ f_a (fP F) x → x ∈ f_or F t := f_ind hw.2.1 fun x hx ih ha => by
  cases hp : fP F x with
  | none =>
    rw [hw.an hx hp, List.mem_singleton] at ha
    subst ha
    exact f_or_self hw ht
  | some p =>
    rw [hw.as hx hp, List.mem_cons] at ha
    rcases ha with rfl | ha
    · exact f_or_self hw ht
    · exact f_or_kid hw t ht p x (ih p hp ha) hx hp
theorem f_a_d (hw : f_wf F) : ∀ x, x < fN F → ∀ c c', c ∈ f_a (fP F) x → c' ∈ f_a (fP F) x → f_d (fP F) c = f_d (fP F) c' → c = c' := f_ind hw.2.1 fun x hx ih c c' hc hc' e => by
  cases hp : fP F x with
  | none =>
    rw [hw.an hx hp, List.mem_singleton] at hc hc'
    rw [hc, hc']
  | some p =>
    have hd := kd_d hw hx hp
    rw [hw.as hx hp, List.mem_cons] at hc hc'
    rcases hc with rfl | hc <;> rcases hc' with rfl | hc'
    · rfl
    · have := f_d_le hw.2.1 hw.1 (hw.p hx hp) hc'
      omega
    · have := f_d_le hw.2.1 hw.1 (hw.p hx hp) hc
      omega
    · exact ih p hp c c' hc hc' e
theorem f_or_nd (hw : f_wf F) : ∀ t, t < fN F → (f_or F t).Nodup := f_dn hw fun t ht ih => by
  rw [f_or_eq hw ht, List.nodup_cons]
  constructor
  · intro h
    rw [List.mem_flatMap] at h
    obtain ⟨c, hc, h⟩ := h
    obtain ⟨h1, h2⟩ := (f_kd_mem hw ht).mp hc
    have h3 := (f_or_mem1 hw c h1 t h).2
    have h4 := f_d_le hw.2.1 hw.1 ht h3
    have := kd_d hw h1 h2
    omega
  · unfold List.Nodup
    rw [List.pairwise_flatMap]
    refine ⟨fun c hc => ?_, ?_⟩
    · obtain ⟨h1, h2⟩ := (f_kd_mem hw ht).mp hc
      exact ih c h1 h2
    · refine List.Pairwise.imp_of_mem ?_ (f_kd_nd (F := F) t)
      intro c c' hc hc' hne x hx y hy e
      subst e
      obtain ⟨h1, h2⟩ := (f_kd_mem hw ht).mp hc
      obtain ⟨h1', h2'⟩ := (f_kd_mem hw ht).mp hc'
      have h3 := f_or_mem1 hw c h1 x hx
      have h4 := f_or_mem1 hw c' h1' x hy
      exact hne (f_a_d hw x h3.1 c c' h3.2 h4.2 (by rw [kd_d hw h1 h2, kd_d hw h1' h2']))
theorem f_or_len (hw : f_wf F) {t : Nat} (ht : t < fN F) : (f_or F t).length ≤ fN F := nd_len (f_or_nd hw t ht) fun x hx => (f_or_mem1 hw t ht x hx).1
theorem f_or_pos (hw : f_wf F) {t : Nat} (ht : t < fN F) : 0 < (f_or F t).length := List.length_pos_of_mem (f_or_self hw ht)
end OR
