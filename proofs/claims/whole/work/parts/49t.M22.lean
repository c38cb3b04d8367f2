/-! ===== the model: a line's body ===== -/
def lnB (g : am_G) (T : Nat → Int32) (n : Nat) (x : Int32) (r : tR) : Prop := (∃ e, r = .inl e ∧ bad g x e) ∨ (x = 1 ∧ ∃ p s', r = t_end T n p (fun z => .inr (s', z)) ∧ rKt g T n (lx T n p) ∧ rMb g s')
section MM
variable {g : am_G} {T : Nat → Int32} {n p : Nat} {s : tS} {t u : tk}
theorem rK0.cg {g' : am_G} (h : rK0 g T n p) (z : ∀ c, c = 30 ∨ c = 31 ∨ c = 134 ∨ c = 135 → g' c 0 = g c 0) : rK0 g' T n p := by
  obtain ⟨a1, a2, a3, a4, a5, a6⟩ := h
  exact ⟨by rw [z _ (by omega)]; exact a1, by rw [z _ (by omega)]; exact a2, a3, a4, fun k hk => by rw [z _ (by omega)]; exact a5 k hk, fun k hk => by rw [z _ (by omega)]; exact a6 k hk⟩
theorem rKt.cg {g' : am_G} (h : rKt g T n t) (z : ∀ c, c = 30 ∨ c = 31 ∨ (134 ≤ c ∧ c ≤ 138) → g' c 0 = g c 0) : rKt g' T n t := by
  obtain ⟨a1, a2, a3, a4, a5, a6⟩ := h
  exact ⟨a1.cg fun c hc => z c (by omega), by rw [z _ (by omega)]; exact a2, by rw [z _ (by omega)]; exact a3, fun q r => by rw [z _ (by omega)]; exact a4 q r, fun q r => by rw [z _ (by omega)]; exact a5 q r, fun q => by rw [z _ (by omega)]; exact a6 q⟩
theorem M_wrong' (d : Nat) (x : Int32) (k : Nat) (hx : x = nI k) {a : Nat} (h8 : g 138 0 0 = nI a) : ∃ g', am_call (d + 1) 135 [.inr (.inr (29, 0)), .inl x] g = some (some (.inl (0 : Int32)), g') ∧ bad g' 0 (k, a) ∧ m_fr sW g g' := by
  subst hx
  exact M_wrong d k h8
theorem M_townLine (d : Nat) (h : rKt g T n t) (hb : rMb g s) (hs : tS_ok s) : ∃ x g', am_call (d + 7) 159 [.inr (.inr (29, 0))] g = some (some (.inl x), g') ∧ mL g g' ∧ lnB g' T n x (t_town T n s t) := by
  have hl : s.2.1.length ≤ 24 := by rw [← hs.2]; exact hs.1.1
  rw [cM_townLine, eM_townLine_0, hb.2.2.1]
  unfold t_town
  by_cases e24 : 24 ≤ s.2.1.length
  · obtain ⟨g', k1, k2, k3⟩ := M_wrong' (d + 5) 2 2 rfl h.2.2.1
    rw [if_pos (show nI s.2.1.length = (24 : Int32) by rw [show s.2.1.length = 24 by omega]; rfl), k1, bi_some, if_pos e24]
    exact ⟨0, g', rfl, mL.W k3, Or.inl ⟨_, rfl, k2⟩⟩
  · rw [if_neg (show ¬ nI s.2.1.length = (24 : Int32) by rw [show (24 : Int32) = nI 24 from rfl, q_inj (by omega) (by omega)]; omega), if_neg e24]
    obtain ⟨g1, a1, a2, a3⟩ := M_token (d + 3) h.1
    have hb1 := hb.K a3
    have f1 : mL g g1 := mL.K a3
    rw [a1, bv_some, a2.2.1]
    generalize lx T n t.2.2.1 = u at a2 ⊢
    by_cases e : t_nm u = true
    · have e' : u.1 = 1 ∧ isKw u.2.2.2 = false := by
        unfold t_nm at e
        simpa using e
      rw [if_pos ((kM_nm u).mpr e), if_pos e, a2.2.2.2.1 e'.1 e'.2, hb1.2.2.1, P_nameAt34 (d + 5) hl hb1.2.2.2.1, bi_some]
      cases hf : n_find s.2.1 u.2.2.2 with
      | some a =>
        obtain ⟨g', k1, k2, k3⟩ := M_wrong' (d + 5) 3 3 rfl a2.2.2.1
        rw [eC_some, if_neg (q_nn (by have := n_find_lt hf; omega)), k1, bi_some, if_neg (by simp)]
        exact ⟨0, g', rfl, f1.tr (mL.W k3), Or.inl ⟨_, rfl, k2⟩⟩
      | none =>
        rw [if_pos (show eC none < 0 by decide), if_pos rfl, hb1.2.2.1, q_in (show s.2.1.length < 24 by omega) (by omega), cond_true, nI_clamp (by omega), a2.2.2.2.1 e'.1 e'.2]
        generalize hG : am_sto g1 34 0 s.2.1.length u.2.2.2 = G
        have zG : ∀ c, c ≠ 34 → G c 0 = g1 c 0 := fun c hc => by rw [← hG, m_sto_ne (fun q => hc q.1)]
        have zN : G 34 0 s.2.1.length = u.2.2.2 := by rw [← hG, m_sto, if_pos rfl]
        have fG : mL g1 G := ⟨fun c j q => by rw [← hG, m_sto_ne (fun r => q ⟨r.2, Or.inr (Or.inl r.1)⟩)], fun k _ => by rw [zG 32 (by omega)]⟩
        have hbG : rMb G s := by
          obtain ⟨⟨S, y1, y2⟩, b, c, d, e, f, i, j⟩ := hb1
          exact ⟨⟨S, by rw [zG _ (by omega)]; exact y1, fun t ht => by rw [zG _ (by omega)]; exact y2 t ht⟩, by rw [zG _ (by omega)]; exact b, by rw [zG _ (by omega)]; exact c, fun k x hk => by
            have := (List.getElem?_eq_some_iff.mp hk).1
            rw [← hG, m_sto, if_neg (by omega)]
            exact d k x hk, by rw [zG _ (by omega)]; exact e, by rw [zG _ (by omega)]; exact f, by rw [zG _ (by omega)]; exact i, by rw [zG _ (by omega)]; exact j⟩
        obtain ⟨g3, b1, b2, b3⟩ := M_token (d + 3) (a2.1.cg (g' := G) fun c hc => zG c (by omega))
        have hb3 := hbG.K b3
        have zN3 : g3 34 0 s.2.1.length = u.2.2.2 := by rw [b3 34 0 (fun r => by have := r.2; omega)]; exact zN
        have f3 : mL g g3 := (f1.tr fG).tr (mL.K b3)
        rw [b1, bv_some]
        generalize lx T n u.2.2.1 = w at b2 ⊢
        obtain ⟨x4, g4, c1, c2, c3⟩ := M_signed (d + 2) b2 hb3 (-9999) 9999
        have f4 := f3.tr (mL.W c2)
        rw [c1, bi_some]
        by_cases e2 : w.1 = 2 ∨ w.1 = 3
        · rw [if_pos e2] at c3
          rw [if_pos e2]
          by_cases e3 : -9999 ≤ w.2.2.2 ∧ w.2.2.2 ≤ 9999
          · rw [if_pos e3] at c3
            obtain ⟨c4, c5, c6, c7⟩ := c3
            have h39 := c7.2.1
            have h44 := c7.2.2.1
            have zN4 : g4 34 0 s.2.1.length = u.2.2.2 := by rw [c2 34 0 (fun r => by have := r.2; omega)]; exact zN3
            rw [if_neg (show ¬ x4 = 0 by rw [c4]; decide), if_pos e3, h44, M_free (d + 4) h39 (by omega) (show s.2.1.length < 24 by omega), bv_some]
            generalize hG5 : mst (mst (mst g4 3 s.2.1.length (-2)) 3 (48 + s.2.1.length) (-2)) 3 (72 + s.2.1.length) (-2) = g5
            have z5 : ∀ c j, ¬ (c = 32 ∧ j = 0) → g5 c j = g4 c j := fun c j q => by rw [← hG5, mst_o _ _ _ _ q, mst_o _ _ _ _ q, mst_o _ _ _ _ q]
            rw [z5 144 0 (by simp), h44, show (24 : Int32) = nI 24 from rfl, nI_add, M_lay (d + 5) (b := 3) (by rw [z5 139 0 (by simp)]; exact h39) (by omega) (show 24 + s.2.1.length < 121 by omega), bv_some, mst_o _ _ _ _ (by simp), mst_o _ _ _ _ (by simp), z5 144 0 (by simp), z5 147 0 (by simp), h44, c5, show (96 : Int32) = nI 96 from rfl, nI_add, M_lay (d + 5) (b := 3) (by rw [mst_o _ _ _ _ (by simp), z5 139 0 (by simp)]; exact h39) (by omega) (show 96 + s.2.1.length < 121 by omega), bv_some, mst_o _ _ _ _ (by simp), mst_o _ _ _ _ (by simp), z5 144 0 (by simp), h44, nI_1]
            generalize hG7 : mst (mst g5 3 (24 + s.2.1.length) (-2)) 3 (96 + s.2.1.length) w.2.2.2 = g7
            have z7 : ∀ c j, ¬ (c = 32 ∧ j = 0) → g7 c j = g4 c j := fun c j q => by rw [← hG7, mst_o _ _ _ _ q, mst_o _ _ _ _ q, z5 c j q]
            have B7 : mB 3 g4 g7 := by
              rw [← hG7, ← hG5]
              exact ((((mst_B _ (by omega) _).tr (mst_B _ (by omega) _)).tr (mst_B _ (by omega) _)).tr (mst_B _ (by omega) _)).tr (mst_B _ (by omega) _)
            have H : ∀ j, g7 32 0 (121 * 3 + j) = if j = 96 + s.2.1.length then w.2.2.2 else if j = 24 + s.2.1.length then -2 else if j = 72 + s.2.1.length then -2 else if j = 48 + s.2.1.length then -2 else if j = s.2.1.length then -2 else g4 32 0 (121 * 3 + j) := fun j => by
              rw [← hG7, mst_at, mst_at, ← hG5, mst_at, mst_at, mst_at]
            have hN := hs.2
            refine ⟨1, _, rfl, (f4.tr (mL.B B7)).tr (mL.put ⟨rfl, by omega⟩ (by omega) _), Or.inr ⟨rfl, w.2.2.1, (f_add s.1 w.2.2.2, s.2.1 ++ [u.2.2.2], s.2.2.1, s.2.2.2), rfl, c6.cg (fun c hc => by rw [m_put_ne (by omega), z7 c 0 (by omega)]), ?_⟩⟩
            obtain ⟨⟨S, y1, y2⟩, yb, yc, yd, ye, yf, yi, yj⟩ := c7
            have zz : ∀ c, c ≠ 144 → c ≠ 32 → am_put g7 144 0 (nI (s.2.1.length + 1)) c 0 = g4 c 0 := fun c h1 h2 => by rw [m_put_ne (by omega), z7 c 0 (by omega)]
            refine ⟨⟨S, ?_, fun t ht => ?_⟩, by rw [zz _ (by omega) (by omega)]; exact yb, by rw [m_put, List.length_append]; rfl, fun k x hk => ?_, by rw [zz _ (by omega) (by omega)]; exact ye, by rw [zz _ (by omega) (by omega)]; exact yf, by rw [zz _ (by omega) (by omega)]; exact yi, by rw [zz _ (by omega) (by omega)]; exact yj⟩
            · rw [m_put_ne (by simp), H, if_neg (by omega), if_neg (by omega), if_neg (by omega), if_neg (by omega), if_neg (by omega)]
              exact y1
            · have ht : t < fN s.1 + 1 := ht
              rw [m_put_ne (by simp)]
              by_cases et : t = s.2.1.length
              · have et' : t = fN s.1 := by omega
                have p1 : fP (f_sh (f_add s.1 w.2.2.2) S) t = none := by rw [et']; exact uo_eq _ _ _
                have p2 : fQ (f_sh (f_add s.1 w.2.2.2) S) t = none := by rw [et']; exact uo_eq _ _ _
                have p3 : fV (f_sh (f_add s.1 w.2.2.2) S) t = w.2.2.2 := by rw [et']; exact uo_eq _ _ _
                rw [p1, p2, p3]
                refine ⟨?_, ?_, ?_, ?_, ?_⟩
                · rw [H, if_neg (by omega), if_neg (by omega), if_neg (by omega), if_neg (by omega), if_pos et]; rfl
                · rw [H, if_neg (by omega), if_pos (by omega)]; rfl
                · rw [H, if_neg (by omega), if_neg (by omega), if_neg (by omega), if_pos (by omega)]; rfl
                · rw [H, if_neg (by omega), if_neg (by omega), if_pos (by omega)]; rfl
                · rw [H, if_pos (by omega)]
              · have et' : t ≠ fN s.1 := by omega
                have p1 : fP (f_sh (f_add s.1 w.2.2.2) S) t = fP s.1 t := uo_ne et'
                have p2 : fQ (f_sh (f_add s.1 w.2.2.2) S) t = fQ s.1 t := uo_ne et'
                have p3 : fV (f_sh (f_add s.1 w.2.2.2) S) t = fV s.1 t := uo_ne et'
                have p4 : fL (f_sh (f_add s.1 w.2.2.2) S) t = fL s.1 t := rfl
                have p5 : fC (f_sh (f_add s.1 w.2.2.2) S) t = fC s.1 t := rfl
                rw [p1, p2, p3, p4, p5]
                obtain ⟨r1, r2, r3, r4, r5⟩ := y2 t (show t < fN s.1 by omega)
                refine ⟨?_, ?_, ?_, ?_, ?_⟩
                · rw [H, if_neg (by omega), if_neg (by omega), if_neg (by omega), if_neg (by omega), if_neg (by omega)]; exact r1
                · rw [H, if_neg (by omega), if_neg (by omega), if_neg (by omega), if_neg (by omega), if_neg (by omega)]; exact r2
                · rw [H, if_neg (by omega), if_neg (by omega), if_neg (by omega), if_neg (by omega), if_neg (by omega)]; exact r3
                · rw [H, if_neg (by omega), if_neg (by omega), if_neg (by omega), if_neg (by omega), if_neg (by omega)]; exact r4
                · rw [H, if_neg (by omega), if_neg (by omega), if_neg (by omega), if_neg (by omega), if_neg (by omega)]; exact r5
            · have hk : (s.2.1 ++ [u.2.2.2])[k]? = some x := hk
              rw [zz _ (by omega) (by omega)]
              by_cases ek : k < s.2.1.length
              · rw [List.getElem?_append_left ek] at hk
                exact yd k x hk
              · have h2 := (List.getElem?_eq_some_iff.mp hk).1
                rw [List.length_append] at h2
                have h3 : k = s.2.1.length := by simp at h2; omega
                subst h3
                rw [zN4]
                simpa using hk
          · rw [if_neg e3] at c3
            rw [if_pos c3.1, if_neg e3]
            exact ⟨0, g4, rfl, f4, Or.inl ⟨_, rfl, ⟨rfl, c3.2⟩⟩⟩
        · rw [if_neg e2] at c3
          rw [if_pos c3.1, if_neg e2]
          exact ⟨0, g4, rfl, f4, Or.inl ⟨_, rfl, ⟨rfl, c3.2⟩⟩⟩
    · obtain ⟨g', k1, k2, k3⟩ := M_wrong' (d + 5) 1 1 rfl a2.2.2.1
      rw [if_neg (fun q => e ((kM_nm u).mp q)), if_neg e, k1, bi_some]
      exact ⟨0, g', rfl, f1.tr (mL.W k3), Or.inl ⟨_, rfl, k2⟩⟩
end MM
