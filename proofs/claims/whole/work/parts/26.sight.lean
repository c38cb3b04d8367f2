/-! ===== Sight, Gamble ===== -/
def f_look (F : fF) (L : List Nat) (sw : Int32) : List Int32 :=
  [nI (f_ws (fP F) (fL F) L).sum, eM ((f_dx (f_ws (fP F) (fL F) L)).1.map (fun _ => (f_dx (f_ws (fP F) (fL F) L)).2)), eM ((f_dx (f_ws (fP F) (fL F) L)).1.bind (fun k => L[k]?)), eM ((f_dx (f_ws (fP F) (fL F) L)).1.bind (fun k => L[k + 1]?)), eM (f_mn (f_ws (fP F) (fC F) L)), isum (L.map (fV F)), nI L.length, sw, eM (f_mn (f_ws (fP F) (fL F) L))]
def rS (g : am_G) (o : Option (List Int32)) : Prop := g 120 0 0 = b01 o.isSome ∧ ∀ l, o = some l → l.length = 9 ∧ ∀ (k : Nat) (x : Int32), l[k]? = some x → g 19 0 k = x
def sS : Nat → Nat → Prop := fun c j => j = 0 ∧ (c = 19 ∨ c = 120)
theorem rS.fr {g g' : am_G} {o : Option (List Int32)} {S : Nat → Nat → Prop} (h : rS g o) (hf : m_fr S g g') (h1 : ¬ S 19 0) (h2 : ¬ S 120 0) : rS g' o := by
  unfold rS
  rw [hf 19 0 h1, hf 120 0 h2]
  exact h
theorem nine {P : Nat → Int32 → Prop} {a0 a1 a2 a3 a4 a5 a6 a7 a8 : Int32} (h0 : P 0 a0) (h1 : P 1 a1) (h2 : P 2 a2) (h3 : P 3 a3) (h4 : P 4 a4) (h5 : P 5 a5) (h6 : P 6 a6) (h7 : P 7 a7) (h8 : P 8 a8) : ∀ (k : Nat) (x : Int32), [a0, a1, a2, a3, a4, a5, a6, a7, a8][k]? = some x → P k x := by
  intro k x hk
  match k with
  | 0 => cases hk; exact h0
  | 1 => cases hk; exact h1
  | 2 => cases hk; exact h2
  | 3 => cases hk; exact h3
  | 4 => cases hk; exact h4
  | 5 => cases hk; exact h5
  | 6 => cases hk; exact h6
  | 7 => cases hk; exact h7
  | 8 => cases hk; exact h8
  | k + 9 => cases hk
theorem z0 : (0 : Int32).toNatClampNeg = 0 := rfl
theorem z1 : (1 : Int32).toNatClampNeg = 1 := rfl
theorem z2 : (2 : Int32).toNatClampNeg = 2 := rfl
theorem z3 : (3 : Int32).toNatClampNeg = 3 := rfl
theorem z4 : (4 : Int32).toNatClampNeg = 4 := rfl
theorem z5 : (5 : Int32).toNatClampNeg = 5 := rfl
theorem z6 : (6 : Int32).toNatClampNeg = 6 := rfl
theorem z7 : (7 : Int32).toNatClampNeg = 7 := rfl
theorem z8 : (8 : Int32).toNatClampNeg = 8 := rfl
theorem y0 : am_in (0 : Int32) 9 = true := rfl
theorem y1 : am_in (1 : Int32) 9 = true := rfl
theorem y2 : am_in (2 : Int32) 9 = true := rfl
theorem y3 : am_in (3 : Int32) 9 = true := rfl
theorem y4 : am_in (4 : Int32) 9 = true := rfl
theorem y5 : am_in (5 : Int32) 9 = true := rfl
theorem y6 : am_in (6 : Int32) 9 = true := rfl
theorem y7 : am_in (7 : Int32) 9 = true := rfl
theorem y8 : am_in (8 : Int32) 9 = true := rfl
theorem C_look {g : am_G} {i w : Nat} {F : fF} (d : Nat) (h : rC g i F) (hw : f_wf F) {L : List Nat} (hY : rY g w L) (hL : ∀ x ∈ L, x < fN F) (hl : L.length ≤ 24) (hk : f_lks (fP F) L) (sw : Int32) :
    ∃ g', am_call (d + 5) 51 [.inr (.inr (18, 0)), .inr (.inr (1, i)), .inr (.inr (16, w)), .inl sw] g = some (none, g') ∧ rS g' (some (f_look F L sw)) ∧ m_fr sS g g' := by
  have hC : ∀ {g'}, m_fr sS g g' → rC g' i F := fun hf => h.fr hf (fun c hc => by have := hc.2; omega)
  have hYY : ∀ {g'}, m_fr sS g g' → rY g' w L := fun hf => hY.fr hf (fun q => by have := q.2; omega) (fun q => by have := q.2; omega)
  have f19 : ∀ {g' : am_G} {k : Nat} {x : Int32}, m_fr sS g g' → m_fr sS g (am_sto g' 19 0 k x) := fun hf => hf.sto ⟨rfl, by omega⟩
  have f1 : m_fr sS g (am_put g 120 0 1) := m_fr.rf.put ⟨rfl, by omega⟩
  have hwl := f_ws_len (fP F) (fL F) L
  rw [cS_look, eS_look_0, C_dearestLink (d + 1) h hw hY hL hl hk, bi_some, C_lengths (d + 1) (hC f1) hw (hYY f1) hL hl hk, bi_some, y0, cond_true, C_dearestLength d (hC (f19 f1)) hw (hYY (f19 f1)) hL hl hk, bi_some, y1, cond_true, y2, y3, cond_true]
  have f3 : ∀ {a b c : Int32} {x y z : Nat}, m_fr sS g (am_sto (am_sto (am_sto (am_sto (am_put g 120 0 1) 19 0 (0 : Int32).toNatClampNeg (nI (f_ws (fP F) (fL F) L).sum)) 19 0 x a) 19 0 y b) 19 0 z c) := f19 (f19 (f19 (f19 f1)))
  have hn : ∀ {g' : am_G} {k : Nat} {x : Int32}, (am_sto g' 19 0 k x) 119 w 0 = g' 119 w 0 := fun {g' k x} => by rw [m_sto_ne (by simp)]
  have hn17 : ∀ {g' : am_G} {k : Nat} {x : Int32}, (am_sto g' 19 0 k x) 17 w = g' 17 w := fun {g' k x} => by rw [m_sto_ne (by simp)]
  have hp17 : (am_put g 120 0 1) 17 w = g 17 w := by rw [m_put_ne (by simp)]
  have hp19 : (am_put g 120 0 1) 119 w = g 119 w := by rw [m_put_ne (by simp)]
  cases e : (f_dx (f_ws (fP F) (fL F) L)).1 with
  | none =>
    rw [eC_none, if_pos rfl, if_pos rfl, C_leastOf_5 (d + 1) (hC f3) hw (hYY f3) hL hl hk, bi_some, y4, cond_true, C_values (d + 3) (hC (f19 f3)) hw (hYY (f19 f3)) hL hl, bi_some, y5, y6, y7, cond_true, cond_true, cond_true, C_leastOf_4 (d + 1) (hC (f19 (f19 (f19 (f19 f3))))) hw (hYY (f19 (f19 (f19 (f19 f3))))) hL hl hk, bi_some, y8, cond_true]
    refine ⟨_, rfl, ⟨by simp only [m_sto_ne (show ¬ ((120 : Nat) = 19 ∧ (0 : Nat) = 0) by simp), m_put]; rfl, fun l hl2 => ?_⟩, f19 (f19 (f19 (f19 (f19 f3))))⟩
    cases hl2
    refine ⟨rfl, ?_⟩
    unfold f_look
    rw [e]
    simp only [hn, hn17, hp17, hp19, hY.1, z0, z1, z2, z3, z4, z5, z6, z7, z8]
    refine nine ?_ ?_ ?_ ?_ ?_ ?_ ?_ ?_ ?_ <;> simp [m_sto] <;> rfl
  | some k =>
    obtain ⟨h1, h2⟩ := f_dx_lt _ k e
    obtain ⟨x, y, hx, hy⟩ := get2 (L := L) (k := k) (by omega)
    rw [eC_some, if_neg (q_ne1 (by omega)), if_neg (q_ne1 (by omega)), nI_1, q_in (k := k) (n := 24) (by omega) (by omega), q_in (k := k + 1) (n := 24) (by omega) (by omega), cond_true, cond_true, C_leastOf_5 (d + 1) (hC f3) hw (hYY f3) hL hl hk, bi_some, y4, cond_true, C_values (d + 3) (hC (f19 f3)) hw (hYY (f19 f3)) hL hl, bi_some, y5, y6, y7, cond_true, cond_true, cond_true, C_leastOf_4 (d + 1) (hC (f19 (f19 (f19 (f19 f3))))) hw (hYY (f19 (f19 (f19 (f19 f3))))) hL hl hk, bi_some, y8, cond_true]
    refine ⟨_, rfl, ⟨by simp only [m_sto_ne (show ¬ ((120 : Nat) = 19 ∧ (0 : Nat) = 0) by simp), m_put]; rfl, fun l hl2 => ?_⟩, f19 (f19 (f19 (f19 (f19 f3))))⟩
    cases hl2
    refine ⟨rfl, ?_⟩
    unfold f_look
    rw [e]
    simp only [hn, hn17, hp17, hp19, hY.1, z0, z1, z2, z3, z4, z5, z6, z7, z8, nI_clamp (show k < 2 ^ 31 by omega), nI_clamp (show k + 1 < 2 ^ 31 by omega), hY.2 k x hx, hY.2 (k + 1) y hy, Option.bind_some, hx, hy]
    refine nine ?_ ?_ ?_ ?_ ?_ ?_ ?_ ?_ ?_ <;> simp [m_sto] <;> rfl
