/-! ===== sound states stay sound ===== -/
section KP
variable {σ : aS}
theorem k_do (h : a_ok σ) {F' : fF} (hw : f_wf F') (hN : fN F' = fN (aF σ)) : a_ok (a_do σ F') := by
  obtain ⟨a, b, c, d, e, f, i, j⟩ := h
  refine ⟨hw, hN.trans b, fun G hG => ?_, fun G hG => ?_, e, f, ?_, j⟩
  · have hG : G ∈ h_push (aU σ) (aF σ) := hG
    have hG2 : G ∈ aU σ ∨ G = aF σ := by
      unfold h_push at hG
      split at hG
      · rcases List.mem_append.mp hG with q | q
        · exact Or.inl q
        · exact Or.inr (List.mem_singleton.mp q)
      · rcases List.mem_append.mp hG with q | q
        · exact Or.inl (List.mem_of_mem_tail q)
        · exact Or.inr (List.mem_singleton.mp q)
    show f_wf G ∧ fN G = fN F'
    rw [hN]
    rcases hG2 with q | q
    · exact c G q
    · rw [q]; exact ⟨a, rfl⟩
  · show f_wf G ∧ fN G = fN F'
    rw [hN]
    exact d G hG
  · show (h_push (aU σ) (aF σ)).length ≤ 20
    unfold h_push
    split
    · rw [List.length_append]; simp; omega
    · rw [List.length_append, List.length_tail]; simp; omega
theorem k_feed (h : a_ok σ) (a b c d e : Int32) : a_ok (o_feed σ a b c d e).2 := by
  unfold o_feed
  by_cases q : 680 < (aB σ).length
  · rw [if_pos q]; exact h
  · rw [if_neg q]
    obtain ⟨h1, h2, h3, h4, h5, h6, h7, h8⟩ := h
    refine ⟨h1, h2, h3, h4, h5, ?_, h7, h8⟩
    show (aB σ ++ (by4 a ++ (by4 b ++ (by4 c ++ (by4 d ++ by4 e))))).length ≤ 700
    rw [List.length_append]
    have : (by4 a ++ (by4 b ++ (by4 c ++ (by4 d ++ by4 e)))).length = 20 := rfl
    omega
theorem k_touch (h : a_ok σ) (x : Int32) : a_ok (o_touch σ x).2 := by
  unfold o_touch
  rcases tw_cs _ h.1.1 x with ⟨h1, -⟩ | ⟨t, ht, -, h1⟩
  · rw [h1]; exact h
  · rw [h1]; exact k_do h (wf_touch h.1 ht) rfl
theorem k_reroot (h : a_ok σ) (x : Int32) : a_ok (o_reroot σ x).2 := by
  unfold o_reroot
  rcases tw_cs _ h.1.1 x with ⟨h1, -⟩ | ⟨t, ht, -, h1⟩
  · rw [h1]; exact h
  · rw [h1]; exact k_do h (wf_reroot h.1 ht) rr_N.1
theorem k_rng {l : Int32} (h : 1 ≤ l ∧ l ≤ 9999) : 1 ≤ l.toNatClampNeg ∧ l.toNatClampNeg ≤ 9999 := (q_clamp (lo := 1) (hi := 9999) (by omega) (by omega) h).2
theorem k_link (h : a_ok σ) (x y l c : Int32) : a_ok (o_link σ x y l c).2 := by
  unfold o_link
  rcases tw2_cs _ h.1.1 x y with ⟨h1, -⟩ | ⟨a, b, ha, hb, -, -, h1⟩
  · rw [h1]; exact h
  · rw [h1]
    dsimp only
    by_cases e : (1 ≤ l ∧ l ≤ 9999) ∧ 1 ≤ c ∧ c ≤ 9999
    · rw [if_pos e]
      by_cases er : f_r (fP (aF σ)) a = f_r (fP (aF σ)) b
      · rw [if_pos er]; exact h
      · rw [if_neg er]
        exact k_do h (wf_link h.1 ha hb er (k_rng e.1) (k_rng e.2).2) (wk_N (b := b))
    · rw [if_neg e]; exact h
theorem k_cut (h : a_ok σ) (x y : Int32) : a_ok (o_cut σ x y).2 := by
  unfold o_cut
  rcases tw2_cs _ h.1.1 x y with ⟨h1, -⟩ | ⟨a, b, ha, hb, -, -, h1⟩
  · rw [h1]; exact h
  · rw [h1]
    dsimp only
    cases hf : f_lo (fP (aF σ)) a b with
    | none => exact h
    | some lo => exact k_do h (wf_cut h.1 ha hb (f_lo_lt ha hb hf).2.2) (wk_N (b := b))
theorem k_walk (h : a_ok σ) (x y : Int32) : a_ok (o_walk σ x y).2 := by
  unfold o_walk
  rcases tw2_cs _ h.1.1 x y with ⟨h1, -⟩ | ⟨a, b, ha, hb, -, -, h1⟩
  · rw [h1]; exact h
  · rw [h1]
    dsimp only
    by_cases er : f_r (fP (aF σ)) a = f_r (fP (aF σ)) b
    · rw [if_pos er]
      obtain ⟨h1, h2, h3, h4, h5, h6, h7, h8⟩ := k_do h (wf_walk h.1 ha hb) (wk_N (b := b))
      exact ⟨h1, h2, h3, h4, h5, h6, h7, fun l hl => by cases hl; rfl⟩
    · rw [if_neg er]; exact h
theorem k_meet (h : a_ok σ) (x y : Int32) : a_ok (o_meet σ x y).2 := by
  unfold o_meet
  rcases tw2_cs _ h.1.1 x y with ⟨h1, -⟩ | ⟨a, b, ha, hb, -, -, h1⟩
  · rw [h1]; exact h
  · rw [h1]
    dsimp only
    cases hf : f_m (fP (aF σ)) a b with
    | none => exact h
    | some m => exact k_do h (wf_touch (wf_touch h.1 ha) hb) rfl
theorem k_raise (h : a_ok σ) (x y d : Int32) : a_ok (o_raise σ x y d).2 := by
  unfold o_raise
  rcases tw2_cs _ h.1.1 x y with ⟨h1, -⟩ | ⟨a, b, ha, hb, -, -, h1⟩
  · rw [h1]; exact h
  · rw [h1]
    dsimp only
    by_cases e : -9999 ≤ d ∧ d ≤ 9999
    · rw [if_pos e]
      by_cases er : f_r (fP (aF σ)) a = f_r (fP (aF σ)) b
      · rw [if_pos er]
        by_cases ek : f_kw (wsL (aF σ) a b) d.toInt 1 = true
        · rw [if_pos ek]; exact k_do h (wf_raise h.1 ha hb er ek) (wk_N (b := b))
        · rw [if_neg ek]; exact h
      · rw [if_neg er]; exact h
    · rw [if_neg e]; exact h
theorem k_send (h : a_ok σ) (x y d : Int32) : a_ok (o_send σ x y d).2 := by
  unfold o_send
  rcases tw2_cs _ h.1.1 x y with ⟨h1, -⟩ | ⟨a, b, ha, hb, -, -, h1⟩
  · rw [h1]; exact h
  · rw [h1]
    dsimp only
    by_cases e : -9999 ≤ d ∧ d ≤ 9999
    · rw [if_pos e]
      by_cases er : f_r (fP (aF σ)) a = f_r (fP (aF σ)) b
      · rw [if_pos er]
        by_cases ek : f_kw (wsC (aF σ) a b) (-d.toInt) 0 = true
        · rw [if_pos ek]; exact k_do h (wf_send h.1 ha hb er ek) (wk_N (b := b))
        · rw [if_neg ek]; exact h
      · rw [if_neg er]; exact h
    · rw [if_neg e]; exact h
theorem k_cutd {F : fF} (hw : f_wf F) {a b : Nat} (ha : a < fN F) (hb : b < fN F) (er : f_r (fP F) a = f_r (fP F) b) : f_wf (f_cutd (f_walk F a b) (f_way (fP F) a b)) ∧ fN (f_cutd (f_walk F a b) (f_way (fP F) a b)) = fN F := by
  obtain ⟨h1, h2⟩ := wf_cutd (wf_walk hw ha hb) (L := f_way (fP F) a b) (fun x hx => by rw [wk_N]; exact f_way_lt hw.2.1 hw.1 ha hb x hx) (walk_lks hw ha hb er)
  exact ⟨h1, by rw [h2, wk_N]⟩
theorem k_cutDearest (h : a_ok σ) (x y : Int32) : a_ok (o_cutDearest σ x y).2 := by
  unfold o_cutDearest
  rcases tw2_cs _ h.1.1 x y with ⟨h1, -⟩ | ⟨a, b, ha, hb, -, -, h1⟩
  · rw [h1]; exact h
  · rw [h1]
    dsimp only
    by_cases er : f_r (fP (aF σ)) a = f_r (fP (aF σ)) b ∧ a ≠ b
    · rw [if_pos er]
      obtain ⟨k1, k2⟩ := k_cutd h.1 ha hb er.1
      exact k_do h k1 k2
    · rw [if_neg er]; exact h
theorem k_settle (h : a_ok σ) (x : Int32) : a_ok (o_settle σ x).2 := by
  unfold o_settle
  rcases tw_cs _ h.1.1 x with ⟨h1, -⟩ | ⟨t, ht, -, h1⟩
  · rw [h1]; exact h
  · rw [h1]; exact k_do h (wf_settle h.1 t) rfl
theorem k_exchange (h : a_ok σ) (x y l c : Int32) : a_ok (o_exchange σ x y l c).2 := by
  unfold o_exchange
  rcases tw2_cs _ h.1.1 x y with ⟨h1, -⟩ | ⟨a, b, ha, hb, -, -, h1⟩
  · rw [h1]; exact h
  · rw [h1]
    dsimp only
    by_cases e : (1 ≤ l ∧ l ≤ 9999) ∧ 1 ≤ c ∧ c ≤ 9999
    · rw [if_pos e]
      by_cases eab : a = b
      · rw [if_pos eab]; exact h
      · rw [if_neg eab]
        by_cases er : f_r (fP (aF σ)) a = f_r (fP (aF σ)) b
        · rw [if_pos er]
          by_cases ed : (f_dx (wsL (aF σ) a b)).2 ≤ l.toNatClampNeg
          · rw [if_pos ed]; exact h
          · rw [if_neg ed]
            obtain ⟨k1, k2⟩ := k_cutd h.1 ha hb er
            exact k_do h (wf_link k1 (by rw [k2]; exact ha) (by rw [k2]; exact hb) (cutd_apart h.1 ha hb er eab) (k_rng e.1) (k_rng e.2).2) ((wk_N (b := b)).trans k2)
        · rw [if_neg er]
          exact k_do h (wf_link h.1 ha hb er (k_rng e.1) (k_rng e.2).2) (wk_N (b := b))
    · rw [if_neg e]; exact h
theorem k_shed (h : a_ok σ) (x : Int32) : a_ok (o_shed σ x).2 := by
  unfold o_shed
  rcases tw_cs _ h.1.1 x with ⟨h1, -⟩ | ⟨t, ht, -, h1⟩
  · rw [h1]; exact h
  · rw [h1]
    dsimp only
    cases hp : fP (aF σ) t with
    | none => exact h
    | some p => exact k_do h (wf_cut h.1 (h.1.p ht hp) ht (Or.inr hp)) (wk_N (b := t))
theorem k_value (h : a_ok σ) (x v : Int32) : a_ok (o_value σ x v).2 := by
  unfold o_value
  rcases tw_cs _ h.1.1 x with ⟨h1, -⟩ | ⟨t, ht, -, h1⟩
  · rw [h1]; exact h
  · rw [h1]
    dsimp only
    by_cases e : -9999 ≤ v ∧ v ≤ 9999
    · rw [if_pos e]; exact k_do h h.1 rfl
    · rw [if_neg e]; exact h
theorem k_undo (h : a_ok σ) : a_ok (o_undo σ).2 := by
  unfold o_undo
  cases hl : (aU σ).getLast? with
  | none => exact h
  | some G =>
    obtain ⟨h1, h2, h3, h4, h5, h6, h7, h8⟩ := h
    obtain ⟨k1, k2⟩ := h3 G (List.mem_of_getLast? hl)
    refine ⟨k1, k2.trans h2, fun G' hG' => ?_, fun G' hG' => ?_, h5, h6, ?_, h8⟩
    · show f_wf G' ∧ fN G' = fN G
      rw [k2]
      exact h3 G' ((List.dropLast_sublist _).subset hG')
    · show f_wf G' ∧ fN G' = fN G
      rw [k2]
      exact h4 G' hG'
    · show (aU σ).dropLast.length ≤ 20
      rw [List.length_dropLast]
      omega
theorem k_keep (h : a_ok σ) : a_ok (o_keep σ).2 := by
  obtain ⟨h1, h2, h3, h4, h5, h6, h7, h8⟩ := h
  exact ⟨h1, h2, h3, fun G hG => by cases hG; exact ⟨h1, rfl⟩, h5, h6, h7, h8⟩
theorem k_back (h : a_ok σ) : a_ok (o_back σ).2 := by
  unfold o_back
  cases hl : aI σ with
  | none => exact h
  | some G =>
    obtain ⟨h1, h2, h3, h4, h5, h6, h7, h8⟩ := h
    obtain ⟨k1, k2⟩ := h4 G hl
    refine ⟨k1, k2.trans h2, fun G' hG' => ?_, fun G' hG' => ?_, h5, h6, Nat.zero_le _, h8⟩
    · cases hG'
    · cases hG'; exact ⟨k1, rfl⟩
/-- the seed of a text -/
def sd (s : tS) : Prop := ∃ k, k ≤ 99999 ∧ s.2.2.1 = nI k
theorem end_inv {T : Nat → Int32} {n p : Nat} {k : tk → tR} {r : tS × tk} (h : t_end T n p k = .inr r) : ∃ z, k z = .inr r := by
  unfold t_end at h
  split at h
  · exact ⟨_, h⟩
  · cases h
theorem tw_inv {T : Nat → Int32} {n p : Nat} {L : List Int32} {k : Nat → tk → tR} {r : tS × tk} (h : t_tw T n L p k = .inr r) : ∃ a z, k a z = .inr r := by
  unfold t_tw at h
  split at h
  · split at h
    · cases h
    · exact ⟨_, _, h⟩
  · cases h
theorem nb_inv {T : Nat → Int32} {n p : Nat} {lo hi : Int32} {k : tk → tR} {r : tS × tk} (h : t_nb T n p lo hi k = .inr r) : ∃ z : tk, (lo ≤ z.2.2.2 ∧ z.2.2.2 ≤ hi) ∧ k z = .inr r := by
  unfold t_nb at h
  split at h
  · split at h
    · rename_i q
      exact ⟨_, q, h⟩
    · cases h
  · cases h
theorem sd_deed {T : Nat → Int32} {n : Nat} {s s' : tS} {t t' : tk} (hs : sd s) (h : t_deed T n s t = .inr (s', t')) : sd s' := by
  unfold t_deed at h
  obtain ⟨a, z, h⟩ := tw_inv h
  obtain ⟨z', h⟩ := end_inv h
  cases h
  exact hs
theorem sd_line {T : Nat → Int32} {n : Nat} {s s' : tS} {t t' : tk} (hs : sd s) (h : t_line T n s t = .inr (s', t')) : sd s' := by
  unfold t_line at h
  by_cases e : t.1 = 1
  · rw [if_pos e] at h
    by_cases e1 : t.2.2.2 = 412560384
    · rw [if_pos e1] at h
      unfold tl_link at h
      obtain ⟨a, z, h⟩ := tw_inv h
      obtain ⟨b, z', h⟩ := tw_inv h
      by_cases er : f_r (fP s.1) a = f_r (fP s.1) b
      · rw [if_pos er] at h; cases h
      · rw [if_neg er] at h
        obtain ⟨l, -, h⟩ := nb_inv h
        obtain ⟨c, -, h⟩ := nb_inv h
        obtain ⟨y, h⟩ := end_inv h
        cases h
        exact hs
    · rw [if_neg e1] at h
      by_cases e2 : t.2.2.2 = 620220416
      · rw [if_pos e2] at h; exact sd_deed hs h
      · rw [if_neg e2] at h
        by_cases e3 : t.2.2.2 = 642945024
        · rw [if_pos e3] at h
          unfold t_seed at h
          split at h
          · cases h
          · obtain ⟨l, q, h⟩ := nb_inv h
            obtain ⟨y, h⟩ := end_inv h
            cases h
            have hq := q_clamp (lo := 0) (hi := 99999) (by omega) (by omega) q
            exact ⟨_, hq.2.2, hq.1⟩
        · rw [if_neg e3] at h
          by_cases e4 : t.2.2.2 = 643453317
          · rw [if_pos e4] at h; exact sd_deed hs h
          · rw [if_neg e4] at h
            by_cases e5 : t.2.2.2 = 687508736
            · rw [if_pos e5] at h; exact sd_deed hs h
            · rw [if_neg e5] at h
              by_cases e6 : t.2.2.2 = 687585280
              · rw [if_pos e6] at h
                unfold t_town at h
                split at h
                · cases h
                · split at h
                  · split at h
                    · split at h
                      · split at h
                        · obtain ⟨y, h⟩ := end_inv h
                          cases h
                          exact hs
                        · cases h
                      · cases h
                    · cases h
                  · cases h
              · rw [if_neg e6] at h; cases h
  · rw [if_neg e] at h; cases h
theorem k_all {T : Nat → Int32} {n : Nat} : ∀ (m c : Nat) (s : tS) (t : tk) (q : tS × Nat), tS_ok s → sd s → t.2.1 ≤ t.2.2.1 → t.2.2.1 ≤ n → t_all T n m s t c = .inr q → tS_ok q.1 ∧ sd q.1
  | 0, c, s, t, q, h1, h2, _, _, h => by
    rw [t_all] at h
    cases h
    exact ⟨h1, h2⟩
  | m + 1, c, s, t, q, h1, h2, h3, h4, h => by
    rw [t_all] at h
    by_cases e : t.1 = 0
    · rw [if_pos e] at h
      cases h
      exact ⟨h1, h2⟩
    · rw [if_neg e] at h
      cases hr : t_line T n s t with
      | inl er => rw [hr] at h; cases h
      | inr p =>
        obtain ⟨s', t'⟩ := p
        rw [hr] at h
        obtain ⟨a1, a2, a3, a4, a5⟩ := t_line_ok h1 h4 h3 hr
        exact k_all m (c + 1) s' t' q a1 (sd_line h2 hr) a5 a3 h
theorem k_text (h : a_ok σ) (x : Int32) : a_ok (o_text σ x).2 := by
  unfold o_text
  by_cases e : 0 ≤ x ∧ x ≤ nI (aB σ).length
  · rw [if_pos e]
    generalize hr : t_text (fun k => (aB σ).getD k 0) x.toNatClampNeg = r
    obtain ⟨h1, h2, h3, h4, h5, h6, h7, h8⟩ := h
    cases r with
    | inl er => exact ⟨h1, h2, h3, h4, h5, Nat.zero_le _, h7, h8⟩
    | inr q =>
      have hp := lx_pos (fun k => (aB σ).getD k 0) (Nat.zero_le x.toNatClampNeg)
      obtain ⟨k1, k2⟩ := k_all 701 0 tS0 (lx (fun k => (aB σ).getD k 0) x.toNatClampNeg 0) q tS0_ok ⟨0, by omega, rfl⟩ hp.2.1 hp.2.2.1 hr
      exact ⟨k1.1, k1.2, fun G hG => (by cases hG), fun G hG => (by cases hG), k2, Nat.zero_le _, Nat.zero_le _, fun l hl => (by cases hl)⟩
  · rw [if_neg e]; exact h
end KP
