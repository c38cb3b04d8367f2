/-! ===== what each call answers and does ===== -/
/-- the tape; the forest; names and seed; what can be undone; the image; what was seen; the fault and its place -/
abbrev aS : Type := List Int32 × fF × (List Int32 × Int32) × List fF × Option fF × Option (List Int32) × (Int32 × Int32)
abbrev aB (σ : aS) : List Int32 := σ.1
abbrev aF (σ : aS) : fF := σ.2.1
abbrev aL (σ : aS) : List Int32 := σ.2.2.1.1
abbrev aE (σ : aS) : Int32 := σ.2.2.1.2
abbrev aU (σ : aS) : List fF := σ.2.2.2.1
abbrev aI (σ : aS) : Option fF := σ.2.2.2.2.1
abbrev aV (σ : aS) : Option (List Int32) := σ.2.2.2.2.2.1
abbrev aX (σ : aS) : Int32 := σ.2.2.2.2.2.2.1
abbrev aY (σ : aS) : Int32 := σ.2.2.2.2.2.2.2
def a_do (σ : aS) (F' : fF) : aS := (aB σ, F', (aL σ, aE σ), h_push (aU σ) (aF σ), aI σ, aV σ, (aX σ, aY σ))
def a_see (σ : aS) (l : List Int32) : aS := (aB σ, aF σ, (aL σ, aE σ), aU σ, aI σ, some l, (aX σ, aY σ))
def a_tape (σ : aS) (B : List Int32) : aS := (B, aF σ, (aL σ, aE σ), aU σ, aI σ, aV σ, (aX σ, aY σ))
def f_sS (F : fF) (s : Int32) : fF := (fN F, fP F, fQ F, fL F, fC F, fV F, s)
def f_sV (F : fF) (t : Nat) (v : Int32) : fF := (fN F, fP F, fQ F, fL F, fC F, uo (fV F) t v, fS F)
def tw (n : Nat) (x : Int32) : Option Nat := if 0 ≤ x ∧ x < nI n then some x.toNatClampNeg else none
def tw2 (n : Nat) (x y : Int32) : Option (Nat × Nat) := match tw n x with
  | none => none
  | some a => match tw n y with
    | none => none
    | some b => some (a, b)
theorem tw_cs (n : Nat) (hn : n ≤ 24) (x : Int32) : (tw n x = none ∧ ¬ isT n x) ∨ ∃ t, t < n ∧ x = nI t ∧ tw n x = some t := by
  by_cases h : isT n x
  · obtain ⟨t, h1, h2⟩ := isT_of hn h
    refine Or.inr ⟨t, h1, h2, ?_⟩
    unfold tw
    rw [if_pos (show 0 ≤ x ∧ x < nI n from h), h2, nI_clamp (by omega)]
  · exact Or.inl ⟨if_neg h, h⟩
theorem tw2_cs (n : Nat) (hn : n ≤ 24) (x y : Int32) : (tw2 n x y = none ∧ ¬ (isT n x ∧ isT n y)) ∨ ∃ a b, a < n ∧ b < n ∧ x = nI a ∧ y = nI b ∧ tw2 n x y = some (a, b) := by
  unfold tw2
  rcases tw_cs n hn x with ⟨h1, h2⟩ | ⟨a, h1, h2, h3⟩
  · rw [h1]; exact Or.inl ⟨rfl, fun q => h2 q.1⟩
  · rw [h3]
    rcases tw_cs n hn y with ⟨k1, k2⟩ | ⟨b, k1, k2, k3⟩
    · dsimp only; rw [k1]; exact Or.inl ⟨rfl, fun q => k2 q.2⟩
    · dsimp only; rw [k3]; exact Or.inr ⟨a, b, h1, k1, h2, k2, rfl⟩
def by4 (x : Int32) : List Int32 := [(x >>> ((24 : Int32) &&& 31)) &&& 255, (x >>> ((16 : Int32) &&& 31)) &&& 255, (x >>> ((8 : Int32) &&& 31)) &&& 255, (x >>> ((0 : Int32) &&& 31)) &&& 255]
def o_feed (σ : aS) (a b c d e : Int32) : Int32 × aS := if 680 < (aB σ).length then (-1, σ) else (nI ((aB σ).length + 20), a_tape σ (aB σ ++ (by4 a ++ (by4 b ++ (by4 c ++ (by4 d ++ by4 e))))))
def o_text (σ : aS) (x : Int32) : Int32 × aS := if 0 ≤ x ∧ x ≤ nI (aB σ).length then
    (match t_text (fun k => (aB σ).getD k 0) x.toNatClampNeg with
    | .inl e => (-1, ([], aF σ, (aL σ, aE σ), aU σ, aI σ, aV σ, (nI e.1, nI e.2)))
    | .inr q => (nI q.2, ([], f_sS q.1.1 0, (q.1.2.1, q.1.2.2.1), [], none, none, (0, -1))))
  else (-2, σ)
def o_touch (σ : aS) (x : Int32) : Int32 × aS := match tw (fN (aF σ)) x with
  | none => (-1, σ)
  | some t => (nI (p_cnt (fQ (aF σ)) (f_a (fP (aF σ)) t)), a_do σ (f_touch (aF σ) t))
def o_reroot (σ : aS) (x : Int32) : Int32 × aS := match tw (fN (aF σ)) x with
  | none => (-1, σ)
  | some t => (nI (p_cnt (fQ (aF σ)) (f_a (fP (aF σ)) t)), a_do σ (f_reroot (aF σ) t))
def o_link (σ : aS) (x y l c : Int32) : Int32 × aS := match tw2 (fN (aF σ)) x y with
  | none => (-1, σ)
  | some (a, b) => if (1 ≤ l ∧ l ≤ 9999) ∧ 1 ≤ c ∧ c ≤ 9999 then
      (if f_r (fP (aF σ)) a = f_r (fP (aF σ)) b then (-2, σ)
      else (nI (f_sz (f_link (aF σ) a b l.toNatClampNeg c.toNatClampNeg) (f_r (fP (f_link (aF σ) a b l.toNatClampNeg c.toNatClampNeg)) a)), a_do σ (f_link (aF σ) a b l.toNatClampNeg c.toNatClampNeg)))
    else (-1, σ)
def o_cut (σ : aS) (x y : Int32) : Int32 × aS := match tw2 (fN (aF σ)) x y with
  | none => (-1, σ)
  | some (a, b) => match f_lo (fP (aF σ)) a b with
    | none => (-2, σ)
    | some lo => (nI (fL (aF σ) lo), a_do σ (f_cut (aF σ) a b))
/-- what lies on a way, behind walking it -/
abbrev wsL (F : fF) (a b : Nat) : List Nat := f_ws (fP F) (fL F) (f_way (fP F) a b)
abbrev wsC (F : fF) (a b : Nat) : List Nat := f_ws (fP F) (fC F) (f_way (fP F) a b)
def o_walk (σ : aS) (x y : Int32) : Int32 × aS := match tw2 (fN (aF σ)) x y with
  | none => (-1, σ)
  | some (a, b) => if f_r (fP (aF σ)) a = f_r (fP (aF σ)) b then
      (nI (f_ws (fP (f_walk (aF σ) a b)) (fL (f_walk (aF σ) a b)) (f_way (fP (aF σ)) a b)).sum, a_see (a_do σ (f_walk (aF σ) a b)) (f_look (f_walk (aF σ) a b) (f_way (fP (aF σ)) a b) (fS (f_walk (aF σ) a b) - fS (aF σ))))
    else (-2, σ)
def o_meet (σ : aS) (x y : Int32) : Int32 × aS := match tw2 (fN (aF σ)) x y with
  | none => (-1, σ)
  | some (a, b) => match f_m (fP (aF σ)) a b with
    | none => (-2, σ)
    | some m => (nI m, a_do σ (f_touch (f_touch (aF σ) a) b))
def o_raise (σ : aS) (x y d : Int32) : Int32 × aS := match tw2 (fN (aF σ)) x y with
  | none => (-1, σ)
  | some (a, b) => if -9999 ≤ d ∧ d ≤ 9999 then
      (if f_r (fP (aF σ)) a = f_r (fP (aF σ)) b then
        (if f_kw (wsL (aF σ) a b) d.toInt 1 = true then (nI ((f_way (fP (aF σ)) a b).length - 1), a_do σ (f_wL (f_walk (aF σ) a b) (f_upd (fL (f_walk (aF σ) a b)) (f_way (fP (aF σ)) a b).tail d.toInt)))
        else (-3, σ))
      else (-2, σ))
    else (-1, σ)
def o_cutDearest (σ : aS) (x y : Int32) : Int32 × aS := match tw2 (fN (aF σ)) x y with
  | none => (-1, σ)
  | some (a, b) => if f_r (fP (aF σ)) a = f_r (fP (aF σ)) b ∧ a ≠ b then
      (nI (f_dx (wsL (aF σ) a b)).2, a_do σ (f_cutd (f_walk (aF σ) a b) (f_way (fP (aF σ)) a b)))
    else (-2, σ)
def o_send (σ : aS) (x y d : Int32) : Int32 × aS := match tw2 (fN (aF σ)) x y with
  | none => (-1, σ)
  | some (a, b) => if -9999 ≤ d ∧ d ≤ 9999 then
      (if f_r (fP (aF σ)) a = f_r (fP (aF σ)) b then
        (if f_kw (wsC (aF σ) a b) (-d.toInt) 0 = true then (nI ((f_way (fP (aF σ)) a b).length - 1), a_do σ (f_wC (f_walk (aF σ) a b) (f_upd (fC (f_walk (aF σ) a b)) (f_way (fP (aF σ)) a b).tail (-d.toInt))))
        else (-3, σ))
      else (-2, σ))
    else (-1, σ)
def o_settle (σ : aS) (x : Int32) : Int32 × aS := match tw (fN (aF σ)) x with
  | none => (-1, σ)
  | some t => (nI (f_settle (aF σ) t).1, a_do σ (f_wQ (aF σ) (f_settle (aF σ) t).2))
def o_exchange (σ : aS) (x y l c : Int32) : Int32 × aS := match tw2 (fN (aF σ)) x y with
  | none => (-1, σ)
  | some (a, b) => if (1 ≤ l ∧ l ≤ 9999) ∧ 1 ≤ c ∧ c ≤ 9999 then
      (if a = b then (-2, σ)
      else if f_r (fP (aF σ)) a = f_r (fP (aF σ)) b then
        (if (f_dx (wsL (aF σ) a b)).2 ≤ l.toNatClampNeg then (-2, σ)
        else (nI (f_dx (wsL (aF σ) a b)).2, a_do σ (f_link (f_cutd (f_walk (aF σ) a b) (f_way (fP (aF σ)) a b)) a b l.toNatClampNeg c.toNatClampNeg)))
      else (0, a_do σ (f_link (aF σ) a b l.toNatClampNeg c.toNatClampNeg)))
    else (-1, σ)
def o_shed (σ : aS) (x : Int32) : Int32 × aS := match tw (fN (aF σ)) x with
  | none => (-1, σ)
  | some t => match fP (aF σ) t with
    | none => (-2, σ)
    | some p => (nI (fL (aF σ) t), a_do σ (f_cut (aF σ) p t))
def o_value (σ : aS) (x v : Int32) : Int32 × aS := match tw (fN (aF σ)) x with
  | none => (-20000, σ)
  | some t => if -9999 ≤ v ∧ v ≤ 9999 then (fV (aF σ) t, a_do σ (f_sV (aF σ) t v)) else (-20000, σ)
def o_undo (σ : aS) : Int32 × aS := match (aU σ).getLast? with
  | none => (-1, σ)
  | some G => (nI ((aU σ).length - 1), (aB σ, G, (aL σ, aE σ), (aU σ).dropLast, aI σ, aV σ, (aX σ, aY σ)))
def f_tr (F : fF) : Nat := ct (fun t => decide (fP F t = none)) (fN F)
def o_keep (σ : aS) : Int32 × aS := (nI (f_tr (aF σ)), (aB σ, aF σ, (aL σ, aE σ), aU σ, some (aF σ), aV σ, (aX σ, aY σ)))
def o_back (σ : aS) : Int32 × aS := match aI σ with
  | none => (-1, σ)
  | some G => (nI (f_tr G), (aB σ, G, (aL σ, aE σ), [], some G, aV σ, (aX σ, aY σ)))
/-- what is asked -/
def w_fault (σ : aS) (x : Int32) : Int32 := if x = 0 then aX σ else if x = 1 then aY σ else -1
def w_named (σ : aS) (x : Int32) : Int32 := eC (n_find (aL σ) x)
def w_seen (σ : aS) (x : Int32) : Int32 := if 0 ≤ x ∧ x < 9 then (match aV σ with
    | none => -3
    | some l => l.getD x.toNatClampNeg 0) else -1
def w_town (F : fF) (t : Nat) (x : Int32) : Int32 :=
  if x = 0 then fV F t else if x = 1 then eM (fP F t) else if x = 2 then eM (fQ F t) else if x = 3 then nI (f_r (fP F) t) else if x = 4 then nI (f_d (fP F) t) else if x = 5 then nI (f_sz F t) else if x = 6 then f_un F t
  else if x = 7 then eM ((fP F t).map fun _ => fL F t) else if x = 8 then eM ((fP F t).map fun _ => fC F t) else nI (f_ch F t)
abbrev f_h (F : fF) (t : Nat) : Nat := f_hd (fP F) (fQ F) 24 t
abbrev f_t (F : fF) (t : Nat) : Nat := f_tl (fQ F) 24 t
def w_chain (F : fF) (x y : Int32) : Int32 := match tw (fN F) x with
  | none => -1
  | some t => if 0 ≤ y ∧ y < 5 then
      (if y = 0 then nI (f_h F t) else if y = 1 then nI (f_t F t) else if y = 2 then nI (f_d (fP F) (f_t F t)) - nI (f_d (fP F) (f_h F t)) + 1 else if y = 3 then nI (f_d (fP F) t) - nI (f_d (fP F) (f_h F t)) else nI (f_D F (f_h F t) (f_t F t)))
    else -1
def w_above (F : fF) (x k : Int32) : Int32 := match tw (fN F) x with
  | none => -1
  | some t => if 0 ≤ k then (if k ≤ nI (f_d (fP F) t) then nI (f_cl (fP F) k.toNatClampNeg t) else -2) else -1
def w_along (F : fF) (x y k : Int32) : Int32 := match tw2 (fN F) x y with
  | none => -1
  | some (a, b) => if 0 ≤ k then (if nI (f_way (fP F) a b).length ≤ k then -2 else nI ((f_way (fP F) a b).getD k.toNatClampNeg 0)) else -1
def w_together (F : fF) (x y : Int32) : Int32 := match tw2 (fN F) x y with
  | none => -1
  | some (a, b) => if f_r (fP F) a = f_r (fP F) b then 1 else 0
def w_far (F : fF) (x y : Int32) : Int32 := match tw2 (fN F) x y with
  | none => -1
  | some (a, b) => if f_r (fP F) a = f_r (fP F) b then nI (f_D F a b) else -2
def w_meets (F : fF) (x y : Int32) : Int32 := match tw2 (fN F) x y with
  | none => -1
  | some (a, b) => eM (f_m (fP F) a b)
def w_room (F : fF) (x y : Int32) : Int32 := match tw2 (fN F) x y with
  | none => -1
  | some (a, b) => eM (f_mn (wsC F a b))
def w_order (F : fF) (x k : Int32) : Int32 := match tw (fN F) x with
  | none => -1
  | some t => if 0 ≤ k then (if nI (f_or F (f_r (fP F) t)).length ≤ k then -2 else nI ((f_or F (f_r (fP F) t)).getD k.toNatClampNeg 0)) else -1
def w_place (F : fF) (x : Int32) : Int32 := match tw (fN F) x with
  | none => -1
  | some t => eC (l_pl (f_or F (f_r (fP F) t)) t)
def w_3 (p : Nat × Nat × Nat) (y : Int32) : Int32 := if y = 0 then nI p.1 else if y = 1 then nI p.2.1 else nI p.2.2
def w_joint (F : fF) (x y k : Int32) : Int32 := match tw2 (fN F) x y with
  | none => -1
  | some (a, b) => if 0 ≤ k ∧ k < 3 then (if f_r (fP F) a = f_r (fP F) b then -2 else (match f_jo F a b with
      | none => -1
      | some p => w_3 p k)) else -1
def w_tightest (F : fF) (x : Int32) : Int32 := match tw (fN F) x with
  | none => -1
  | some t => eM (f_lx F (fun t b => decide (fC F t < fC F b)) t)
def w_dearest (F : fF) (x : Int32) : Int32 := match tw (fN F) x with
  | none => -1
  | some t => eM (f_lx F (fun t b => decide (fL F b < fL F t)) t)
def w_heavy (F : fF) (x : Int32) : Int32 := match tw (fN F) x with
  | none => -1
  | some t => eM (f_hv F t)
def w_would (F : fF) (x : Int32) : Int32 := match tw (fN F) x with
  | none => -1
  | some t => nI (p_cnt (fQ F) (f_a (fP F) t))
def w_widest (F : fF) (x y : Int32) : Int32 := match tw (fN F) x with
  | none => -1
  | some t => if 0 ≤ y ∧ y < 3 then w_3 (f_wi F t) y else -1
def w_midst (F : fF) (x : Int32) : Int32 := match tw (fN F) x with
  | none => -1
  | some t => eC (f_mi F t)
def w_parts (F : fF) (x : Int32) : Int32 := if 0 ≤ x ∧ x ≤ 9999 then nI (f_pa F x.toNatClampNeg) else -1
def w_leastFor (F : fF) (x : Int32) : Int32 := if 1 ≤ x ∧ x ≤ 24 then eM (f_lf F x.toNatClampNeg) else -1
def f_ch_n (F : fF) (l : Nat) : Nat → fF × Nat
  | 0 => (F, l)
  | m + 1 => f_ch_n (f_chance F l).1 (f_chance F l).2 m
def w_chance (σ : aS) (x n k : Int32) : Int32 := if -1 ≤ x ∧ (1 ≤ n ∧ n ≤ 60) ∧ (0 ≤ k ∧ k < 4) ∧ 0 < fN (aF σ) then
    (if k = 0 then nI (f_tr (f_ch_n (f_sS (aF σ) 0) (if x = -1 then aE σ else x).toNatClampNeg n.toNatClampNeg).1)
    else if k = 1 then fS (f_ch_n (f_sS (aF σ) 0) (if x = -1 then aE σ else x).toNatClampNeg n.toNatClampNeg).1
    else if k = 2 then nI (f_po (f_ch_n (f_sS (aF σ) 0) (if x = -1 then aE σ else x).toNatClampNeg n.toNatClampNeg).1)
    else nI (f_r (fP (f_ch_n (f_sS (aF σ) 0) (if x = -1 then aE σ else x).toNatClampNeg n.toNatClampNeg).1) 0))
  else -1
def w_count (σ : aS) (x : Int32) : Int32 :=
  if x = 0 then nI (fN (aF σ)) else if x = 1 then nI (fN (aF σ)) - nI (f_tr (aF σ)) else if x = 2 then nI (f_tr (aF σ)) else if x = 3 then nI (f_hds (aF σ)) else if x = 4 then fS (aF σ) else if x = 5 then nI (aU σ).length else if x = 6 then nI (aB σ).length else -1
/-- sound states -/
def a_ok (σ : aS) : Prop := f_wf (aF σ) ∧ fN (aF σ) = (aL σ).length ∧ (∀ G ∈ aU σ, f_wf G ∧ fN G = fN (aF σ)) ∧ (∀ G, aI σ = some G → f_wf G ∧ fN G = fN (aF σ)) ∧ (∃ k, k ≤ 99999 ∧ aE σ = nI k) ∧ (aB σ).length ≤ 700 ∧ (aU σ).length ≤ 20 ∧ ∀ l, aV σ = some l → l.length = 9
