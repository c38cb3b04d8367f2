/-! ===== the model: a line, and the text ===== -/
def rdR (g : am_G) (T : Nat → Int32) (n : Nat) (x : Int32) (r : tR) : Prop := match r with
  | .inl e => bad g x e
  | .inr q => x = 1 ∧ rMb g q.1 ∧ rKt g T n q.2
section MM
variable {g : am_G} {T : Nat → Int32} {n p : Nat} {s : tS} {t u : tk}
theorem ln_fin (d : Nat) {x : Int32} {r : tR} (h : lnB g T n x r) : ∃ x' g', (if x = 0 then (some (some (Sum.inl (0 : Int32) : am_V), g) : Option am_R) else (if (g 136 0 0) = (4 : Int32) then
          (am_bv (am_call (d + 7) 139 [.inr (.inr (29, 0))] g) (fun g8 =>
          some (some (.inl (1 : Int32)), g8)))
        else
          (am_bi (am_call (d + 7) 135 [.inr (.inr (29, 0)), .inl (1 : Int32)] g) (fun r9 g9 =>
          bif am_01 r9 then some (some (.inl r9), g9) else none)))) = some (some (.inl x'), g') ∧ mL g g' ∧ rdR g' T n x' r := by
  rcases h with ⟨e, rfl, h2⟩ | ⟨h1, p, s', rfl, h3, h4⟩
  · rw [if_pos h2.1]
    exact ⟨0, g, rfl, mL.rf, ⟨rfl, h2.2⟩⟩
  · rw [if_neg (show ¬ x = 0 by rw [h1]; decide), h3.2.1, t_end]
    generalize lx T n p = u at h3 ⊢
    by_cases e : u.1 = 4
    · obtain ⟨g', c1, c2, c3⟩ := M_token (d + 4) h3.1
      rw [if_pos ((kM_n u).2.2.1.mpr e), if_pos e, c1, bv_some]
      exact ⟨1, g', rfl, mL.K c3, ⟨rfl, h4.K c3, c2⟩⟩
    · obtain ⟨g', k1, k2, k3⟩ := M_wrong' (d + 6) 1 1 rfl h3.2.2.1
      rw [if_neg (fun q => e ((kM_n u).2.2.1.mp q)), if_neg e, k1, bi_some]
      exact ⟨0, g', rfl, mL.W k3, k2⟩
theorem isKw_cs {v : Int32} (h : isKw v = true) : v = 412560384 ∨ v = 620220416 ∨ v = 642945024 ∨ v = 643453317 ∨ v = 687508736 ∨ v = 687585280 := by
  unfold isKw at h
  simpa using h
theorem M_lineRead (d : Nat) (h : rKt g T n t) (hb : rMb g s) (hs : tS_ok s) (h142 : g 142 0 0 = nI (fN s.1)) : ∃ x g', am_call (d + 8) 162 [.inr (.inr (29, 0))] g = some (some (.inl x), g') ∧ mL g g' ∧ rdR g' T n x (t_line T n s t) := by
  rw [cM_lineRead, eM_lineRead_0, h.2.1]
  unfold t_line
  by_cases e : t.1 = 1 ∧ isKw t.2.2.2 = true
  · rw [if_pos ((kM_n t).2.2.2.2.mpr e), if_pos e.1, h.2.2.2.2.1 e.1 e.2]
    have h37 := h.2.2.2.2.1 e.1 e.2
    rcases isKw_cs e.2 with q | q | q | q | q | q
    · rw [q] at h37 ⊢
      rw [if_neg (show ¬ kwI 412560384 = 0 by decide), if_pos (show kwI 412560384 = 1 by decide), if_pos rfl]
      obtain ⟨x, g1, k1, k2, k3⟩ := M_linkLine d h hb hs h142
      obtain ⟨x', g2, j1, j2, j3⟩ := ln_fin d k3
      rw [k1, bi_some]
      exact ⟨x', g2, j1, k2.tr j2, j3⟩
    · have hd := M_deedLine d h hb hs h142 2 (by decide) (by rw [h37, q]; decide) (by rw [q]; decide) (by rw [q]; decide)
      rw [q, if_neg (show ¬ kwI 620220416 = 0 by decide), if_neg (show ¬ kwI 620220416 = 1 by decide), if_neg (show ¬ (620220416 : Int32) = 412560384 by decide), if_pos rfl]
      obtain ⟨x, g1, k1, k2, k3⟩ := hd
      obtain ⟨x', g2, j1, j2, j3⟩ := ln_fin d k3
      rw [k1, bi_some]
      exact ⟨x', g2, j1, k2.tr j2, j3⟩
    · have hd := M_seedLine d h hb (by rw [h37, q]; decide)
      rw [q, if_neg (show ¬ kwI 642945024 = 0 by decide), if_neg (show ¬ kwI 642945024 = 1 by decide), if_neg (show ¬ (642945024 : Int32) = 412560384 by decide), if_neg (show ¬ (642945024 : Int32) = 620220416 by decide), if_pos rfl]
      obtain ⟨x, g1, k1, k2, k3⟩ := hd
      obtain ⟨x', g2, j1, j2, j3⟩ := ln_fin d k3
      rw [k1, bi_some]
      exact ⟨x', g2, j1, k2.tr j2, j3⟩
    · have hd := M_deedLine d h hb hs h142 4 (by decide) (by rw [h37, q]; decide) (by rw [q]; decide) (by rw [q]; decide)
      rw [q, if_neg (show ¬ kwI 643453317 = 0 by decide), if_neg (show ¬ kwI 643453317 = 1 by decide), if_neg (show ¬ (643453317 : Int32) = 412560384 by decide), if_neg (show ¬ (643453317 : Int32) = 620220416 by decide), if_neg (show ¬ (643453317 : Int32) = 642945024 by decide), if_pos rfl]
      obtain ⟨x, g1, k1, k2, k3⟩ := hd
      obtain ⟨x', g2, j1, j2, j3⟩ := ln_fin d k3
      rw [k1, bi_some]
      exact ⟨x', g2, j1, k2.tr j2, j3⟩
    · have hd := M_deedLine d h hb hs h142 3 (by decide) (by rw [h37, q]; decide) (by rw [q]; decide) (by rw [q]; decide)
      rw [q, if_neg (show ¬ kwI 687508736 = 0 by decide), if_neg (show ¬ kwI 687508736 = 1 by decide), if_neg (show ¬ (687508736 : Int32) = 412560384 by decide), if_neg (show ¬ (687508736 : Int32) = 620220416 by decide), if_neg (show ¬ (687508736 : Int32) = 642945024 by decide), if_neg (show ¬ (687508736 : Int32) = 643453317 by decide), if_pos rfl]
      obtain ⟨x, g1, k1, k2, k3⟩ := hd
      obtain ⟨x', g2, j1, j2, j3⟩ := ln_fin d k3
      rw [k1, bi_some]
      exact ⟨x', g2, j1, k2.tr j2, j3⟩
    · have hd := M_townLine d h hb hs
      rw [q, if_pos (show kwI 687585280 = 0 by decide), if_neg (show ¬ (687585280 : Int32) = 412560384 by decide), if_neg (show ¬ (687585280 : Int32) = 620220416 by decide), if_neg (show ¬ (687585280 : Int32) = 642945024 by decide), if_neg (show ¬ (687585280 : Int32) = 643453317 by decide), if_neg (show ¬ (687585280 : Int32) = 687508736 by decide), if_pos rfl]
      obtain ⟨x, g1, k1, k2, k3⟩ := hd
      obtain ⟨x', g2, j1, j2, j3⟩ := ln_fin d k3
      rw [k1, bi_some]
      exact ⟨x', g2, j1, k2.tr j2, j3⟩
  · obtain ⟨g', k1, k2, k3⟩ := M_wrong' (d + 6) 1 1 rfl h.2.2.1
    rw [if_neg (fun q => e ((kM_n t).2.2.2.2.mp q)), k1, bi_some]
    refine ⟨0, g', rfl, mL.W k3, ?_⟩
    by_cases e1 : t.1 = 1
    · have e2 : ¬ isKw t.2.2.2 = true := fun q => e ⟨e1, q⟩
      have n1 : ∀ v : Int32, isKw v = true → ¬ t.2.2.2 = v := fun v hv q => e2 (by rw [q]; exact hv)
      rw [if_pos e1, if_neg (n1 _ (by decide)), if_neg (n1 _ (by decide)), if_neg (n1 _ (by decide)), if_neg (n1 _ (by decide)), if_neg (n1 _ (by decide)), if_neg (n1 _ (by decide))]
      exact k2
    · rw [if_neg e1]
      exact k2
end MM
