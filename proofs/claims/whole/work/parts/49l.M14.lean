/-! ===== the model: leastFor, count, chance ===== -/
def f_sh (F : fF) (s : Int32) : fF := (fN F, fP F, fQ F, fL F, fC F, fV F, fS F + s)
theorem sh_touch (F : fF) (s : Int32) (t : Nat) : f_touch (f_sh F s) t = f_sh (f_touch F t) s := by
  show (fN F, fP F, p_set (uo (fQ F) t none) (f_a (fP F) t), fL F, fC F, fV F, fS F + s + nI (p_cnt (fQ F) (f_a (fP F) t))) = (fN F, fP F, p_set (uo (fQ F) t none) (f_a (fP F) t), fL F, fC F, fV F, fS F + nI (p_cnt (fQ F) (f_a (fP F) t)) + s)
  rw [Int32.add_assoc, Int32.add_comm s, ← Int32.add_assoc]
theorem sh_rev (s : Int32) : ∀ (L : List Nat) (F : fF) (lo : Option Nat) (ml mc : Nat), r_rev (f_sh F s) lo ml mc L = f_sh (r_rev F lo ml mc L) s
  | [], _, _, _, _ => rfl
  | x :: L, F, lo, ml, mc => sh_rev s L (r_one F x lo ml mc) (some x) (fL F x) (fC F x)
theorem sh_reroot (F : fF) (s : Int32) (t : Nat) : f_reroot (f_sh F s) t = f_sh (f_reroot F t) s := by
  unfold f_reroot
  rw [sh_touch]
  exact sh_rev s _ (f_touch F t) none 0 0
theorem sh_walk (F : fF) (s : Int32) (a b : Nat) : f_walk (f_sh F s) a b = f_sh (f_walk F a b) s := by
  unfold f_walk
  rw [sh_reroot, sh_touch]
theorem sh_link (F : fF) (s : Int32) (a b l c : Nat) : f_link (f_sh F s) a b l c = f_sh (f_link F a b l c) s := by
  unfold f_link
  rw [sh_walk]
  rfl
theorem sh_cut (F : fF) (s : Int32) (a b : Nat) : f_cut (f_sh F s) a b = f_sh (f_cut F a b) s := by
  unfold f_cut
  rw [sh_walk]
  rfl
theorem sh_cutd (F : fF) (s : Int32) (L : List Nat) : f_cutd (f_sh F s) L = f_sh (f_cutd F L) s := by
  have e : f_cutd (f_sh F s) L = (match (f_dx (f_ws (fP F) (fL F) L)).1 with
    | none => f_sh F s
    | some k => f_cut (f_sh F s) (L.getD k 0) (L.getD (k + 1) 0)) := rfl
  rw [e]
  unfold f_cutd
  cases (f_dx (f_ws (fP F) (fL F) L)).1 with
  | none => rfl
  | some k => exact sh_cut F s _ _
theorem sh_chance (F : fF) (s : Int32) (l : Nat) : f_chance (f_sh F s) l = (f_sh (f_chance F l).1 s, (f_chance F l).2) := by
  have hN : fN (f_sh F s) = fN F := rfl
  have hP : fP (f_sh F s) = fP F := rfl
  unfold f_chance
  rw [hN, hP]
  generalize dv (dw l) (fN F) = a
  generalize dv (dw (dw l)) (fN F) = b
  generalize dv (dw (dw (dw l))) 100 = c
  generalize dw (dw (dw (dw l))) = l4
  generalize dw (dw (dw l)) = l3
  generalize dv l 4 = k
  rw [sh_touch, sh_reroot, sh_link, sh_cutd]
  rcases k with _ | _ | _ | k
  · rfl
  · rfl
  · by_cases e : f_r (fP F) a = f_r (fP F) b <;> simp [e]
  · rfl
theorem ch_s (F : fF) (l m : Nat) : f_ch_n F l (m + 1) = f_ch_n (f_chance F l).1 (f_chance F l).2 m := by rw [f_ch_n]
theorem sh_s (s : Int32) (m : Nat) (ih : ∀ (F : fF) (l : Nat), f_ch_n (f_sh F s) l m = (f_sh (f_ch_n F l m).1 s, (f_ch_n F l m).2)) (F : fF) (l : Nat) (Y X : fF × Nat) (hY : Y = (f_sh X.1 s, X.2)) : f_ch_n Y.1 Y.2 m = (f_sh (f_ch_n X.1 X.2 m).1 s, (f_ch_n X.1 X.2 m).2) := by
  subst hY
  exact ih X.1 X.2
theorem sh_n (s : Int32) (m : Nat) : ∀ (F : fF) (l : Nat), f_ch_n (f_sh F s) l m = (f_sh (f_ch_n F l m).1 s, (f_ch_n F l m).2) := by
  induction m with
  | zero => intro F l; rw [f_ch_n, f_ch_n]
  | succ m ih =>
    intro F l
    rw [ch_s, ch_s]
    exact sh_s s m ih F l _ _ (sh_chance F s l)
theorem sh_F (F : fF) : f_sh (f_sS F 0) (fS F) = F := by
  show (fN F, fP F, fQ F, fL F, fC F, fV F, (0 : Int32) + fS F) = F
  rw [Int32.zero_add]
theorem ct_fl (p : Nat → Bool) : ∀ (m b t : Nat), fo (fun b t => if p t then b + 1 else b) b t m = b + (fl p t m).length
  | 0, _, _ => rfl
  | m + 1, b, t => by
    rw [fo, ct_fl p m _ (t + 1), fl]
    by_cases h : p t = true
    · rw [if_pos h, if_pos h, List.length_cons]; omega
    · rw [if_neg h, if_neg h]
theorem nd_map {f : Nat → Nat} : ∀ (l : List Nat), l.Nodup → (∀ x ∈ l, ∀ y ∈ l, f x = f y → x = y) → (l.map f).Nodup
  | [], _, _ => List.nodup_nil
  | x :: l, hn, hi => by
    obtain ⟨h1, h2⟩ := List.nodup_cons.mp hn
    rw [List.map_cons, List.nodup_cons]
    refine ⟨fun hm => ?_, nd_map l h2 fun a ha b hb => hi a (List.mem_cons_of_mem _ ha) b (List.mem_cons_of_mem _ hb)⟩
    obtain ⟨y, hy, e⟩ := List.mem_map.mp hm
    have := hi y (List.mem_cons_of_mem _ hy) x List.mem_cons_self e
    rw [this] at hy
    exact h1 hy
theorem ct_not (p : Nat → Bool) (n : Nat) : ct p n + ct (fun t => !p t) n = n := by
  have key : ∀ (m b b' t : Nat), fo (fun b t => if p t then b + 1 else b) b t m + fo (fun b t => if (!p t) then b + 1 else b) b' t m = b + b' + m := by
    intro m
    induction m with
    | zero => intro b b' t; rfl
    | succ m ih =>
      intro b b' t
      rw [fo, fo, ih]
      cases p t <;> simp <;> omega
  have := key n 0 0 0
  show fo (fun b t => if p t then b + 1 else b) 0 0 n + fo (fun b t => if (!p t) then b + 1 else b) 0 0 n = n
  omega
def isHd (F : fF) (t : Nat) : Bool := match fP F t with
  | none => true
  | some p => decide (fQ F p ≠ some t)
theorem heads_eq {F : fF} (hw : f_wf F) : ct (isHd F) (fN F) = f_hds F := by
  have e1 := ct_not (isHd F) (fN F)
  have e2 := ct_not (fun t => decide (fQ F t = none)) (fN F)
  have hA : ∀ t, (!isHd F t) = true ↔ ∃ p, fP F t = some p ∧ fQ F p = some t := fun t => by
    unfold isHd
    cases hp : fP F t with
    | none => simp
    | some p => simp
  have hB : ∀ t, (!decide (fQ F t = none)) = true ↔ ∃ c, fQ F t = some c := fun t => by
    cases hq : fQ F t <;> simp
  have c1 : ct (fun t => !isHd F t) (fN F) = (fl (fun t => !isHd F t) 0 (fN F)).length := by
    unfold ct; rw [ct_fl]; omega
  have c2 : ct (fun t => !decide (fQ F t = none)) (fN F) = (fl (fun t => !decide (fQ F t = none)) 0 (fN F)).length := by
    unfold ct; rw [ct_fl]; omega
  have l1 : (fl (fun t => !isHd F t) 0 (fN F)).length ≤ (fl (fun t => !decide (fQ F t = none)) 0 (fN F)).length := by
    rw [← List.length_map (f := fun t => (fP F t).getD 0)]
    refine List.Nodup.length_le_of_subset (nd_map _ (fl_nd _ _) fun x hx y hy e => ?_) fun z hz => ?_
    · obtain ⟨p, p1, p2⟩ := (hA x).mp ((fl_mem _ _).mp hx).2.2
      obtain ⟨q, q1, q2⟩ := (hA y).mp ((fl_mem _ _).mp hy).2.2
      rw [p1, q1] at e
      have e : p = q := e
      rw [e, q2] at p2
      exact (Option.some.inj p2).symm
    · obtain ⟨x, hx, rfl⟩ := List.mem_map.mp hz
      have hx' := (fl_mem _ _).mp hx
      obtain ⟨p, p1, p2⟩ := (hA x).mp hx'.2.2
      rw [fl_mem]
      have hp : (fP F x).getD 0 = p := by rw [p1]; rfl
      rw [hp]
      have := hw.p (t := x) (by omega) p1
      exact ⟨by omega, by omega, (hB p).mpr ⟨x, p2⟩⟩
  have l2 : (fl (fun t => !decide (fQ F t = none)) 0 (fN F)).length ≤ (fl (fun t => !isHd F t) 0 (fN F)).length := by
    rw [← List.length_map (f := fun t => (fQ F t).getD 0)]
    refine List.Nodup.length_le_of_subset (nd_map _ (fl_nd _ _) fun x hx y hy e => ?_) fun z hz => ?_
    · have hx' := (fl_mem _ _).mp hx
      have hy' := (fl_mem _ _).mp hy
      obtain ⟨p, p1⟩ := (hB x).mp hx'.2.2
      obtain ⟨q, q1⟩ := (hB y).mp hy'.2.2
      rw [p1, q1] at e
      have e : p = q := e
      have r1 := (hw.2.2.1 x p (by omega) p1).2
      have r2 := (hw.2.2.1 y q (by omega) q1).2
      rw [e, r2] at r1
      exact (Option.some.inj r1).symm
    · obtain ⟨x, hx, rfl⟩ := List.mem_map.mp hz
      have hx' := (fl_mem _ _).mp hx
      obtain ⟨p, p1⟩ := (hB x).mp hx'.2.2
      rw [fl_mem]
      have hp : (fQ F x).getD 0 = p := by rw [p1]; rfl
      rw [hp]
      obtain ⟨r0, r1⟩ := hw.2.2.1 x p (by omega) p1
      exact ⟨by omega, by omega, (hA p).mpr ⟨x, r1, p1⟩⟩
  unfold f_hds
  omega
section MM
variable {g : am_G} {σ : aS} {F : fF}
theorem lf_st (F : fF) (K : Nat) : ∀ (m t : Nat), fo (fun least t => if fP F t ≠ none ∧ (∀ l, least = some l → fL F t < l) ∧ f_pa F (fL F t) ≤ K then some (fL F t) else least) (some 0) t m = some 0
  | 0, _ => rfl
  | m + 1, t => by
    rw [fo, if_neg (fun q => by have := q.2.1 0 rfl; omega)]
    exact lf_st F K m (t + 1)
theorem M_lf_loop (d : Nat) (h : rMa g 0 F) (hw : f_wf F) {K : Nat} (hK : K < 2 ^ 31) (best : Option Nat) (hb : ∀ l, best = some l → l ≤ 9999) (o : Option am_V) : am_run (am_call (d + 3)) 229 99998 14 [some (.inr (.inr (29, 0))), some (.inl (nI K)), some (.inl (eM best)), some (.inl (nI 0)), o] [] g = some (some (.inl (eM (fo (fun least t => if fP F t ≠ none ∧ (∀ l, least = some l → fL F t < l) ∧ f_pa F (fL F t) ≤ K then some (fL F t) else least) best 0 (fN F)))), g) := by
  have hn := hw.1
  exact (for_inv (fun k (best : Option Nat) o t => am_run (am_call (d + 3)) 229 k 14 [some (.inr (.inr (29, 0))), some (.inl (nI K)), some (.inl (eM best)), some (.inl (nI t)), o] [] g) (fN F) (fun least t => if fP F t ≠ none ∧ (∀ l, least = some l → fL F t < l) ∧ f_pa F (fL F t) ≤ K then some (fL F t) else least) (fun b => some (some (.inl (eM b)), g)) (fun least _ => ∀ l, least = some l → l ≤ 9999) (fun k least o t ht hi => by
    have hpl := f_pa_le F (fL F t)
    refine ⟨?_, fun b hb => ?_⟩
    · rw [eM_leastFor_14, h.2.2.2, if_neg (nI_ge ht (by omega)), if_pos (q_0le (q24 hn ht)), M_ofL (d + 2) h hn ht, bi_some, nI_1]
      by_cases hp : fP F t = none
      · refine ⟨some (.inl (-2)), ?_⟩
        rw [hp]
        show (if (-2 : Int32) < 0 then _ else _) = _
        rw [if_pos (by decide), if_neg (fun q => q.1 rfl)]
        rfl
      · have hl := len_some hw ht hp
        refine ⟨some (.inl (nI (fL F t))), ?_⟩
        rw [hl.1, if_neg (q_nn (by omega)), M_partsOf d h hw (K := fL F t) (by omega), bi_some]
        by_cases e1 : f_pa F (fL F t) ≤ K
        · rw [if_neg (nI_nlt e1 hK)]
          cases least with
          | none => rw [eM_none, if_pos (by decide), if_pos ⟨hp, fun l hl => (by cases hl), e1⟩]; rfl
          | some l =>
            have hl2 := hi l rfl
            rw [eM_some, if_neg (q_nn (by omega))]
            by_cases e2 : fL F t < l
            · rw [if_neg (nI_ge e2 (by omega)), if_pos ⟨hp, fun l' hl' => by cases hl'; exact e2, e1⟩]; rfl
            · rw [if_pos (nI_le (by omega) (by omega)), if_neg (fun q => e2 (q.2.1 l rfl))]; rfl
        · rw [if_pos (nI_lt (by omega) (by omega)), if_neg (fun q => e1 q.2.2)]
    · split at hb
      · rename_i hq
        cases hb
        exact (hw.2.2.2 t ht hq.1).2.1
      · exact hi b hb) (fun k b o _ => by
    rw [eM_leastFor_14, h.2.2.2, if_pos (nI_le (Nat.le_refl _) (by omega))]) (m := fN F) (t := 0) (b := best) (o := o) (k := 99998) (by omega) (by omega) hb).1
theorem P_leastFor (d : Nat) (h : rMo g σ) (ho : a_ok σ) (x : Int32) : SimM (am_call (d + 9) 229 [.inr (.inr (29, 0)), .inl x] g) g (w_leastFor (aF σ) x, σ) := by
  have h0 := h.put131 0
  have hn := ho.1.1
  rw [cM_leastFor, eM_leastFor_0]
  unfold w_leastFor
  by_cases e : 1 ≤ x ∧ x ≤ 24
  · have hq := q_clamp (lo := 1) (hi := 24) (by omega) (by omega) e
    have hp := f_pa_le (aF σ) 0
    have hp0 : am_call (d + 8) 226 [.inr (.inr (29, 0)), .inl (0 : Int32)] (am_put g 131 0 (0 : Int32)) = some (some (.inl (nI (f_pa (aF σ) 0))), am_put g 131 0 (0 : Int32)) := M_partsOf (d + 5) h0.2.1 ho.1 (K := 0) (by omega)
    rw [M_isIn_t (d + 7) _ e, bi_some, if_neg q_110, if_pos e, show 99999 = 99998 + 1 from rfl, eM_leastFor_14, h0.2.1.2.2.2, if_neg (show ¬ nI (fN (aF σ)) ≤ -1 from fun q => by
      rw [q_le, nI_toInt (by omega), q_m1] at q
      omega), if_neg (show ¬ (0 : Int32) ≤ -1 by decide), if_neg (show ¬ (0 : Int32) < 0 by decide), hp0, bi_some, show (-1 : Int32) + 1 = nI 0 from rfl]
    rw [hq.1, nI_clamp (by omega)]
    unfold f_lf
    have key := M_lf_loop (d + 5) h0.2.1 ho.1 (K := x.toNatClampNeg) (by omega)
    by_cases e1 : f_pa (aF σ) 0 ≤ x.toNatClampNeg
    · rw [if_neg (nI_nlt e1 (by omega)), if_pos (show (-2 : Int32) < 0 by decide), if_pos e1]
      have := key (some 0) (fun l hl => by cases hl; omega) (some (.inl (nI 0)))
      rw [lf_st] at this
      exact ⟨_, this, h0, m131⟩
    · rw [if_pos (nI_lt (by omega) (by omega)), if_neg e1]
      exact ⟨_, key none (fun l hl => by cases hl) (some (.inl (nI 0))), h0, m131⟩
  · rw [M_isIn_f (d + 7) _ e, bi_some, if_pos rfl, if_neg e]; exact ⟨_, rfl, h0, m131⟩
theorem M_heads (d : Nat) (h : rMa g 0 F) (hw : f_wf F) (x1 : Int32) : am_run (am_call (d + 3)) 237 99999 21 [some (.inr (.inr (29, 0))), some (.inl x1), some (.inl (nI 0)), some (.inl (nI 0))] [] g = some (some (.inl (nI (f_hds F))), g) := by
  have hn := hw.1
  rw [← heads_eq hw]
  exact for_loop (fun k c t => am_run (am_call (d + 3)) 237 k 21 [some (.inr (.inr (29, 0))), some (.inl x1), some (.inl (nI c)), some (.inl (nI t))] [] g) (fN F) (fun c t => if isHd F t then c + 1 else c) (fun c => some (some (.inl (nI c)), g)) (fun k c t ht => by
    have hh : am_call (d + 3) 200 [.inr (.inr (29, 0)), .inl (nI t)] g = some (some (.inl (b01 (isHd F t))), g) := M_isHead d h hw ht
    rw [eM_count_21, h.2.2.2, if_neg (nI_ge ht (by omega)), hh, bi_some, nI_1 (a := t)]
    by_cases e : isHd F t = true
    · rw [if_neg (show ¬ b01 (isHd F t) = 0 by rw [e]; exact q_110), if_pos e, nI_1]
    · rw [if_pos (show b01 (isHd F t) = 0 by rw [b01_0]; simpa using e), if_neg e, Int32.add_zero]) (fun k c => by
    rw [eM_count_21, h.2.2.2, if_pos (nI_le (Nat.le_refl _) (by omega))]) (fN F) 0 0 99999 (by omega) (by omega)
theorem P_count (d : Nat) (h : rMo g σ) (ho : a_ok σ) (x : Int32) : SimM (am_call (d + 9) 237 [.inr (.inr (29, 0)), .inl x] g) g (w_count σ x, σ) := by
  have h0 := h.put131 0
  have hh : am_run (am_call (d + 8)) 237 99999 21 [some (.inr (.inr (29, 0))), some (.inl x), some (.inl (0 : Int32)), some (.inl (0 : Int32))] [] (am_put g 131 0 (0 : Int32)) = some (some (.inl (nI (f_hds (aF σ)))), am_put g 131 0 (0 : Int32)) := M_heads (d + 5) h0.2.1 ho.1 x
  rw [cM_count, eM_count_0, hh, h0.2.1.2.2.2, M_trees (d + 4) h0.2.1 ho.1, k_120, M_of (d + 7) h0.2.1.2.1 (by omega) (by omega), h0.2.1.1.1, h0.2.2.2.1.1, h0.1.1]
  refine ⟨_, ?_, h0, m131⟩
  simp only [bi_some]
  unfold w_count
  repeat' split
  all_goals rfl
end MM
