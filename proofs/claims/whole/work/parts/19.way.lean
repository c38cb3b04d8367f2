/-! ===== ways ===== -/
def f_way (par : Nat → Option Nat) (a b : Nat) : List Nat := match f_m par a b with
  | none => []
  | some m => (f_a par a).takeWhile (fun x => decide (x ≠ m)) ++ m :: ((f_a par b).takeWhile (fun x => decide (x ≠ m))).reverse
theorem tw_app {m : Nat} {r : List Nat} : ∀ (A : List Nat), m ∉ A → (A ++ m :: r).takeWhile (fun x => decide (x ≠ m)) = A
  | [], _ => by simp [List.takeWhile_cons]
  | x :: A, h => by
    have hx : x ≠ m := fun e => h (by rw [e]; exact List.mem_cons_self)
    rw [List.cons_append, List.takeWhile_cons]
    simp only [hx, ne_eq, not_false_eq_true, decide_true, if_true]
    rw [tw_app A (fun q => h (List.mem_cons_of_mem _ q))]
section FO
variable {n : Nat} {par : Nat → Option Nat}
theorem f_way_md (h : f_ok n par) {a b m : Nat} {A B : List Nat} (hm : f_md par a b m A B) : f_way par a b = A ++ m :: B.reverse := by
  unfold f_way
  rw [f_m_md h hm]
  obtain ⟨r, e⟩ := f_a_hd par m
  have hA : m ∉ A := fun q => hm.2.2.1 m q hm.mem.2
  have hB : m ∉ B := fun q => hm.2.2.2 m q hm.mem.1
  show (f_a par a).takeWhile _ ++ m :: ((f_a par b).takeWhile _).reverse = _
  rw [hm.1, hm.2.1, e, tw_app A hA, tw_app B hB]
theorem f_way_none (h : f_ok n par) (hn : n ≤ 24) {a b : Nat} (ha : a < n) (hb : b < n) (hr : f_r par a ≠ f_r par b) : f_way par a b = [] := by
  unfold f_way
  rw [f_m_none h hn ha hb hr]
theorem f_md_len (h : f_ok n par) {a b m : Nat} {A B : List Nat} (hm : f_md par a b m A B) : f_d par a = A.length + f_d par m ∧ f_d par b = B.length + f_d par m := by
  have h1 := congrArg List.length hm.1
  have h2 := congrArg List.length hm.2.1
  rw [List.length_append] at h1 h2
  have := f_a_pos par m
  unfold f_d
  omega
theorem f_md_ch (h : f_ok n par) (hn : n ≤ 24) {a b m : Nat} {A B : List Nat} (ha : a < n) (hm : f_md par a b m A B) : ∀ (A1 : List Nat) (x : Nat) (A2 : List Nat), A = A1 ++ x :: A2 → par x = some ((A2 ++ [m]).headD 0) := by
  intro A1 x A2 e
  have h1 := f_a_ch h hn a ha
  rw [hm.1, e, List.append_assoc, List.cons_append] at h1
  rw [p_ch_app A1 h1]
  obtain ⟨r, e2⟩ := f_a_hd par m
  cases A2 with
  | nil => rw [List.nil_append, e2]; rfl
  | cons y A2 => rfl
end FO
/-- two towns with a link between them -/
def f_lk (par : Nat → Option Nat) (x y : Nat) : Prop := par x = some y ∨ par y = some x
def f_lw (par : Nat → Option Nat) (x y : Nat) : Nat := if par x = some y then x else y
/-- a row of towns, each linked to the next -/
def f_lks (par : Nat → Option Nat) : List Nat → Prop
  | x :: y :: r => f_lk par x y ∧ f_lks par (y :: r)
  | _ => True
/-- what lies on the links of a row -/
def f_ws (par : Nat → Option Nat) (w : Nat → Nat) : List Nat → List Nat
  | x :: y :: r => w (f_lw par x y) :: f_ws par w (y :: r)
  | _ => []
theorem f_ws_len (par : Nat → Option Nat) (w : Nat → Nat) : ∀ L : List Nat, (f_ws par w L).length = L.length - 1
  | [] => rfl
  | [_] => rfl
  | x :: y :: r => by
    rw [f_ws, List.length_cons, f_ws_len par w (y :: r)]
    simp
theorem f_lks_app {par : Nat → Option Nat} : ∀ (A : List Nat) {x y : Nat} {B : List Nat}, f_lks par (A ++ x :: y :: B) → f_lk par x y
  | [], _, _, _, h => h.1
  | [_], _, _, _, h => h.2.1
  | _ :: a :: A, _, _, _, h => f_lks_app (a :: A) h.2
theorem f_lks_at {par : Nat → Option Nat} {L : List Nat} (h : f_lks par L) {k x y : Nat} (hx : L[k]? = some x) (hy : L[k + 1]? = some y) : f_lk par x y := by
  induction L generalizing k with
  | nil => simp at hx
  | cons a L ih =>
    cases L with
    | nil => simp at hy
    | cons b L =>
      cases k with
      | zero =>
        simp at hx hy
        subst hx; subst hy
        exact h.1
      | succ k => exact ih h.2 (by simpa using hx) (by simpa using hy)
theorem f_ws_at {par : Nat → Option Nat} {w : Nat → Nat} {L : List Nat} {k x y : Nat} (hx : L[k]? = some x) (hy : L[k + 1]? = some y) : (f_ws par w L)[k]? = some (w (f_lw par x y)) := by
  induction L generalizing k with
  | nil => simp at hx
  | cons a L ih =>
    cases L with
    | nil => simp at hy
    | cons b L =>
      rw [f_ws]
      cases k with
      | zero =>
        simp at hx hy
        subst hx; subst hy
        rfl
      | succ k => exact ih (by simpa using hx) (by simpa using hy)
theorem f_lks_ch {par : Nat → Option Nat} : ∀ (L : List Nat), p_ch par L → f_lks par L
  | [], _ => trivial
  | [_], _ => trivial
  | x :: y :: r, h => ⟨Or.inl h.1, f_lks_ch (y :: r) h.2⟩
theorem f_lks_snoc {par : Nat → Option Nat} : ∀ (L : List Nat) (x : Nat), f_lks par L → (∀ y, L.getLast? = some y → f_lk par y x) → f_lks par (L ++ [x])
  | [], x, _, _ => trivial
  | [a], x, _, h => ⟨h a rfl, trivial⟩
  | a :: b :: r, x, h, hl => ⟨h.1, f_lks_snoc (b :: r) x h.2 (fun y hy => hl y (by simpa using hy))⟩
theorem f_lks_rev {par : Nat → Option Nat} : ∀ (L : List Nat), f_lks par L → f_lks par L.reverse
  | [], _ => trivial
  | [_], _ => trivial
  | x :: y :: r, h => by
    rw [List.reverse_cons]
    refine f_lks_snoc _ x (f_lks_rev (y :: r) h.2) (fun z hz => ?_)
    rw [List.getLast?_reverse] at hz
    cases hz
    exact h.1.symm
theorem f_lks_join {par : Nat → Option Nat} {m : Nat} {R : List Nat} : ∀ (A : List Nat), f_lks par (A ++ [m]) → f_lks par (m :: R) → f_lks par (A ++ m :: R)
  | [], _, h => h
  | [a], h1, h2 => ⟨h1.1, h2⟩
  | a :: b :: A, h1, h2 => ⟨h1.1, f_lks_join (b :: A) h1.2 h2⟩
theorem f_lks_pre {par : Nat → Option Nat} : ∀ (A : List Nat) {B : List Nat}, f_lks par (A ++ B) → f_lks par A
  | [], _, _ => trivial
  | [_], _, _ => trivial
  | _ :: b :: A, _, h => ⟨h.1, f_lks_pre (b :: A) h.2⟩
theorem f_way_lks {n : Nat} {par : Nat → Option Nat} (h : f_ok n par) (hn : n ≤ 24) {a b : Nat} (ha : a < n) (hb : b < n) : f_lks par (f_way par a b) := by
  by_cases hr : f_r par a = f_r par b
  · obtain ⟨m, A, B, hm⟩ := f_md_ex h hn hb a ha hr
    rw [f_way_md h hm]
    obtain ⟨r, e⟩ := f_a_hd par m
    have h1 := f_lks_ch _ (f_a_ch h hn a ha)
    have h2 := f_lks_ch _ (f_a_ch h hn b hb)
    rw [hm.1, e, show A ++ m :: r = (A ++ [m]) ++ r by simp] at h1
    rw [hm.2.1, e, show B ++ m :: r = (B ++ [m]) ++ r by simp] at h2
    have h3 := f_lks_rev _ (f_lks_pre _ h2)
    rw [List.reverse_append] at h3
    exact f_lks_join A (f_lks_pre _ h1) h3
  · rw [f_way_none h hn ha hb hr]; trivial
theorem f_way_lt {n : Nat} {par : Nat → Option Nat} (h : f_ok n par) (hn : n ≤ 24) {a b : Nat} (ha : a < n) (hb : b < n) : ∀ x ∈ f_way par a b, x < n := by
  intro x hx
  by_cases hr : f_r par a = f_r par b
  · obtain ⟨m, A, B, hm⟩ := f_md_ex h hn hb a ha hr
    rw [f_way_md h hm] at hx
    rcases List.mem_append.mp hx with hx | hx
    · exact f_a_lt h ha (by rw [hm.1]; exact List.mem_append_left _ hx)
    · rcases List.mem_cons.mp hx with rfl | hx
      · exact f_a_lt h ha hm.mem.1
      · exact f_a_lt h hb (by rw [hm.2.1]; exact List.mem_append_left _ (List.mem_reverse.mp hx))
  · rw [f_way_none h hn ha hb hr] at hx; cases hx
/-- the way is the way up from b, turned over, once a is the root -/
theorem f_way_rr {F : fF} (hw : f_wf F) {a b : Nat} (ha : a < fN F) (hb : b < fN F) (hr : f_r (fP F) a = f_r (fP F) b) : f_a (fP (f_reroot F a)) b = (f_way (fP F) a b).reverse := by
  obtain ⟨m, A, B, hm⟩ := f_md_ex hw.2.1 hw.1 hb a ha hr
  rw [f_way_md hw.2.1 hm, rr_a hw ha B A b hb hm]
  simp
theorem f_way_nd {F : fF} (hw : f_wf F) {a b : Nat} (ha : a < fN F) (hb : b < fN F) : (f_way (fP F) a b).Nodup ∧ (f_way (fP F) a b).length ≤ 24 := by
  by_cases hr : f_r (fP F) a = f_r (fP F) b
  · have e := f_way_rr hw ha hb hr
    have h1 := f_a_nd (ok_reroot hw ha) hb
    have h2 := f_a_len (ok_reroot hw ha) hb
    rw [e] at h1 h2
    rw [List.length_reverse] at h2
    have := hw.1
    exact ⟨(List.reverse_perm _).nodup h1, by omega⟩
  · rw [f_way_none hw.2.1 hw.1 ha hb hr]
    exact ⟨List.nodup_nil, Nat.zero_le _⟩
/-- a Way object's memory -/
def rY (g : am_G) (w : Nat) (L : List Nat) : Prop := g 119 w 0 = nI L.length ∧ ∀ k x, L[k]? = some x → g 17 w k = nI x
def sY (w : Nat) : Nat → Nat → Prop := fun c j => j = w ∧ (c = 17 ∨ c = 119)
theorem rC.fr {g g' : am_G} {i : Nat} {F : fF} {S : Nat → Nat → Prop} (h : rC g i F) (hf : m_fr S g g') (hS : ∀ c, S c i → ¬ (2 ≤ c ∧ c ≤ 6 ∨ c = 102 ∨ c = 103)) : rC g' i F := h.cg fun c hc => hf c i (fun q => hS c q hc)
theorem rC.sY {g g' : am_G} {i w : Nat} {F : fF} (h : rC g i F) (hf : m_fr (sY w) g g') : rC g' i F := h.fr hf (fun c hc => by have := hc.2; omega)
theorem rY.fr {g g' : am_G} {w : Nat} {L : List Nat} {S : Nat → Nat → Prop} (h : rY g w L) (hf : m_fr S g g') (h1 : ¬ S 119 w) (h2 : ¬ S 17 w) : rY g' w L := by
  refine ⟨by rw [hf 119 w h1]; exact h.1, fun k x hk => by rw [hf 17 w h2]; exact h.2 k x hk⟩
theorem rY.sF {g g' : am_G} {w i : Nat} {L : List Nat} (h : rY g w L) (hf : m_fr (sF i) g g') : rY g' w L := h.fr hf (fun q => by have := q.2; omega) (fun q => by have := q.2; omega)
section RC
variable {g : am_G} {i w : Nat} {F : fF}
theorem C_lay_up (ct : am_T) (hw : f_wf F) (x2 x3 x4 x6 : Int32) {U T : Nat} (hU : U < T) (hT : T ≤ 24) : ∀ (W : List Nat) (k s : Nat) (g : am_G) (o : Option Nat), rC g i F → g 119 w 0 = nI T → s + W.length = U + 1 → (∀ x ∈ W, x < fN F) → (W ≠ [] → o = W.head?) → (∀ W1 x y W2, W = W1 ++ x :: y :: W2 → fP F x = some y) →
    ∃ g' , am_run ct 74 (k + 1 + W.length) 41 [some (.inr (.inr (16, w))), some (.inr (.inr (1, i))), some (.inl x2), some (.inl x3), some (.inl x4), some (.inl (nI U)), some (.inl x6), some (.inl (eC o)), some (.inl (nI s))] [] g
        = am_run ct 74 k 70 [some (.inr (.inr (16, w))), some (.inr (.inr (1, i))), some (.inl x2), some (.inl x3), some (.inl x4), some (.inl (nI U)), some (.inl x6), some (.inl x3), some (.inl (nI T - 1))] [] g' ∧
      m_fr (sY w) g g' ∧ g' 119 w 0 = nI T ∧ (∀ j x, W[j]? = some x → g' 17 w (s + j) = nI x) ∧ ∀ j, j < s → g' 17 w j = g 17 w j
  | [], k, s, g, o, h, ht, e, hr, ho, hc => by
    refine ⟨g, ?_, m_fr.rf, ht, fun j x hj => by simp at hj, fun _ _ => rfl⟩
    simp only [List.length_nil] at e ⊢
    rw [Nat.add_zero, eY_lay_41, if_pos (nI_lt (by omega) (by omega)), ht]
  | x :: W, k, s, g, o, h, ht, e, hr, ho, hc => by
    have hx := hr x List.mem_cons_self
    have hx31 := q24 hw.1 hx
    rw [List.length_cons] at e
    have e1 : k + 1 + (x :: W).length = (k + 1 + W.length) + 1 := by rw [List.length_cons]; omega
    have eo : o = some x := ho (by simp)
    subst eo
    have ep : am_sto g 17 w s (nI x) 2 i x = eC (fP F x) := by rw [m_sto_ne (by simp)]; exact h.p hx
    rw [e1, eY_lay_41, if_neg (nI_nlt (by omega) (by omega)), ht, if_neg (nI_ge (by omega) (by omega)), eC_some, if_neg (q_ne1 hx31), q_in (n := 24) (by omega) (by omega), q_c24 hw.1 hx, cond_true, cond_true, nI_clamp hx31, nI_clamp (by omega), ep, nI_1]
    have hf : m_fr (sY w) g (am_sto g 17 w s (nI x)) := m_fr.rf.sto ⟨rfl, Or.inl rfl⟩
    obtain ⟨g', h5, h6, h7, h8, h9⟩ := C_lay_up ct hw x2 x3 x4 x6 hU hT W k (s + 1) (am_sto g 17 w s (nI x)) (fP F x) (h.sY hf) (by rw [m_sto_ne (by simp)]; exact ht) (by omega) (fun y hy => hr y (List.mem_cons_of_mem _ hy)) (fun hne => by
      cases W with
      | nil => exact absurd rfl hne
      | cons y W => exact hc [] x y W rfl) (fun W1 a b W2 eW => hc (x :: W1) a b W2 (by rw [eW]; rfl))
    refine ⟨g', h5, hf.tr h6, h7, fun j y hj => ?_, fun j hj => ?_⟩
    · cases j with
      | zero =>
        simp at hj
        subst hj
        rw [Nat.add_zero, h9 s (by omega), m_sto, if_pos rfl]
      | succ j =>
        have := h8 j y (by simpa using hj)
        rw [show s + (j + 1) = s + 1 + j by omega]
        exact this
    · rw [h9 j (by omega), m_sto, if_neg (by omega)]
theorem C_lay_down (ct : am_T) (hw : f_wf F) (x2 x3 x4 x6 : Int32) {U : Nat} : ∀ (B : List Nat) (k : Nat) (g : am_G) (o : Option Nat), rC g i F → U + B.length < 24 → (∀ x ∈ B, x < fN F) → (B ≠ [] → o = B.head?) → (∀ W1 x y W2, B = W1 ++ x :: y :: W2 → fP F x = some y) →
    ∃ g', am_run ct 74 (k + 1 + B.length) 70 [some (.inr (.inr (16, w))), some (.inr (.inr (1, i))), some (.inl x2), some (.inl x3), some (.inl x4), some (.inl (nI U)), some (.inl x6), some (.inl (eC o)), some (.inl (nI (U + B.length)))] [] g = some (none, g') ∧
      m_fr (sY w) g g' ∧ g' 119 w = g 119 w ∧ (∀ j x, B.reverse[j]? = some x → g' 17 w (U + 1 + j) = nI x) ∧ ∀ j, (j ≤ U ∨ U + B.length < j) → g' 17 w j = g 17 w j
  | [], k, g, o, h, hl, hr, ho, hc => by
    refine ⟨g, ?_, m_fr.rf, rfl, fun j x hj => by simp at hj, fun _ _ => rfl⟩
    simp only [List.length_nil] at hl ⊢
    rw [show k + 1 + 0 = k + 1 from rfl, show U + 0 = U from rfl, eY_lay_70, if_pos (nI_le (Nat.le_refl _) (by omega))]
  | x :: B, k, g, o, h, hl, hr, ho, hc => by
    have hx := hr x List.mem_cons_self
    have hx31 := q24 hw.1 hx
    rw [List.length_cons] at hl
    have e1 : k + 1 + (x :: B).length = (k + 1 + B.length) + 1 := by rw [List.length_cons]; omega
    have e2 : U + (x :: B).length = U + B.length + 1 := by rw [List.length_cons]; omega
    have eo : o = some x := ho (by simp)
    subst eo
    have ep : am_sto g 17 w (U + B.length + 1) (nI x) 2 i x = eC (fP F x) := by rw [m_sto_ne (by simp)]; exact h.p hx
    rw [e1, e2, eY_lay_70, if_neg (nI_ge (by omega) (by omega)), eC_some, if_neg (q_ne1 hx31), q_in (k := U + B.length + 1) (n := 24) (by omega) (by omega), q_c24 hw.1 hx, cond_true, cond_true, nI_clamp hx31, nI_clamp (n := U + B.length + 1) (by omega), ep, pk_m1]
    have hf : m_fr (sY w) g (am_sto g 17 w (U + B.length + 1) (nI x)) := m_fr.rf.sto ⟨rfl, Or.inl rfl⟩
    obtain ⟨g', h5, h6, h7, h8, h9⟩ := C_lay_down ct hw x2 x3 x4 x6 (U := U) B k (am_sto g 17 w (U + B.length + 1) (nI x)) (fP F x) (h.sY hf) (by omega) (fun y hy => hr y (List.mem_cons_of_mem _ hy)) (fun hne => by
      cases B with
      | nil => exact absurd rfl hne
      | cons y B => exact hc [] x y B rfl) (fun W1 a b W2 eW => hc (x :: W1) a b W2 (by rw [eW]; rfl))
    refine ⟨g', h5, hf.tr h6, h7.trans (m_sto_ne (by simp)), fun j y hj => ?_, fun j hj => ?_⟩
    · rw [List.reverse_cons, List.getElem?_append, List.length_reverse] at hj
      by_cases hlt : j < B.length
      · rw [if_pos hlt] at hj
        exact h8 j y hj
      · rw [if_neg hlt] at hj
        have ej : j - B.length = 0 := by
          have h11 := (List.getElem?_eq_some_iff.mp hj).1
          simp at h11
          omega
        rw [ej] at hj
        simp at hj
        subst hj
        rw [h9 _ (Or.inr (by omega)), m_sto, if_pos (by omega)]
    · rw [h9 j (by omega), m_sto, if_neg (by omega)]
end RC
