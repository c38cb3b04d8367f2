/-! ===== every call of both ===== -/
def Both (d ci mi : Nat) (as : List am_V) (g : am_G) : Prop := ∃ (g1 g2 : am_G) (v : Int32) (σ' : aS), am_call (d + 9) ci (.inr (.inr (0, 0)) :: as) g = some (some (.inl v), g1) ∧ am_call (d + 9) mi (.inr (.inr (29, 0)) :: as) g1 = some (some (.inl v), g2) ∧ rBo g2 σ' ∧ m_fr sBo g g2
section BO
variable {g : am_G} {σ : aS}
theorem L_above (d : Nat) (h : rBo g σ) (x y : Int32) : Both d 104 202 [.inl x, .inl y] g := by
  obtain ⟨g1, g2, k1, k2, k3, k4⟩ := both_CM (r := (w_above (aF σ) x y, σ)) (oC := fun g => am_call (d + 9) 104 [.inr (.inr (0, 0)), .inl x, .inl y] g) (oM := fun g => am_call (d + 9) 202 [.inr (.inr (29, 0)), .inl x, .inl y] g) h (h.2.2) (A_above d h.1 h.2.2 x y) (fun g' h' => P_above d h' h.2.2 x y)
  exact ⟨g1, g2, _, _, k1, k2, k3, k4⟩
theorem L_along (d : Nat) (h : rBo g σ) (x y z : Int32) : Both d 105 203 [.inl x, .inl y, .inl z] g := by
  obtain ⟨g1, g2, k1, k2, k3, k4⟩ := both_CM (r := (w_along (aF σ) x y z, σ)) (oC := fun g => am_call (d + 9) 105 [.inr (.inr (0, 0)), .inl x, .inl y, .inl z] g) (oM := fun g => am_call (d + 9) 203 [.inr (.inr (29, 0)), .inl x, .inl y, .inl z] g) h (h.2.2) (A_along d h.1 h.2.2 x y z) (fun g' h' => P_along d h' h.2.2 x y z)
  exact ⟨g1, g2, _, _, k1, k2, k3, k4⟩
theorem L_back (d : Nat) (h : rBo g σ) : Both d 125 147 [] g := by
  obtain ⟨g1, g2, k1, k2, k3, k4⟩ := both_CM (r := (o_back σ)) (oC := fun g => am_call (d + 9) 125 [.inr (.inr (0, 0))] g) (oM := fun g => am_call (d + 9) 147 [.inr (.inr (29, 0))] g) h (k_back h.2.2) (A_back d h.1 h.2.2) (fun g' h' => P_back d h' h.2.2)
  exact ⟨g1, g2, _, _, k1, k2, k3, k4⟩
theorem L_chain (d : Nat) (h : rBo g σ) (x y : Int32) : Both d 103 201 [.inl x, .inl y] g := by
  obtain ⟨g1, g2, k1, k2, k3, k4⟩ := both_CM (r := (w_chain (aF σ) x y, σ)) (oC := fun g => am_call (d + 9) 103 [.inr (.inr (0, 0)), .inl x, .inl y] g) (oM := fun g => am_call (d + 9) 201 [.inr (.inr (29, 0)), .inl x, .inl y] g) h (h.2.2) (A_chain d h.1 h.2.2 x y) (fun g' h' => P_chain d h' h.2.2 x y)
  exact ⟨g1, g2, _, _, k1, k2, k3, k4⟩
theorem L_chance (d : Nat) (h : rBo g σ) (x n k : Int32) : Both d 122 236 [.inl x, .inl n, .inl k] g := by
  obtain ⟨g1, g2, k1, k2, k3, k4⟩ := both_CM (r := (w_chance σ x n k, σ)) (oC := fun g => am_call (d + 9) 122 [.inr (.inr (0, 0)), .inl x, .inl n, .inl k] g) (oM := fun g => am_call (d + 9) 236 [.inr (.inr (29, 0)), .inl x, .inl n, .inl k] g) h (h.2.2) (A_chance d h.1 h.2.2 x n k) (fun g' h' => P_chance d h' h.2.2 x n k)
  exact ⟨g1, g2, _, _, k1, k2, k3, k4⟩
theorem L_count (d : Nat) (h : rBo g σ) (x : Int32) : Both d 126 237 [.inl x] g := by
  obtain ⟨g1, g2, k1, k2, k3, k4⟩ := both_CM (r := (w_count σ x, σ)) (oC := fun g => am_call (d + 9) 126 [.inr (.inr (0, 0)), .inl x] g) (oM := fun g => am_call (d + 9) 237 [.inr (.inr (29, 0)), .inl x] g) h (h.2.2) (A_count d h.1 h.2.2 x) (fun g' h' => P_count d h' h.2.2 x)
  exact ⟨g1, g2, _, _, k1, k2, k3, k4⟩
theorem L_cut (d : Nat) (h : rBo g σ) (x y : Int32) : Both d 91 182 [.inl x, .inl y] g := by
  obtain ⟨g1, g2, k1, k2, k3, k4⟩ := both_CM (r := (o_cut σ x y)) (oC := fun g => am_call (d + 9) 91 [.inr (.inr (0, 0)), .inl x, .inl y] g) (oM := fun g => am_call (d + 9) 182 [.inr (.inr (29, 0)), .inl x, .inl y] g) h (k_cut h.2.2 x y) (A_cut d h.1 h.2.2 x y) (fun g' h' => P_cut d h' h.2.2 x y)
  exact ⟨g1, g2, _, _, k1, k2, k3, k4⟩
theorem L_cutDearest (d : Nat) (h : rBo g σ) (x y : Int32) : Both d 96 192 [.inl x, .inl y] g := by
  obtain ⟨g1, g2, k1, k2, k3, k4⟩ := both_CM (r := (o_cutDearest σ x y)) (oC := fun g => am_call (d + 9) 96 [.inr (.inr (0, 0)), .inl x, .inl y] g) (oM := fun g => am_call (d + 9) 192 [.inr (.inr (29, 0)), .inl x, .inl y] g) h (k_cutDearest h.2.2 x y) (A_cutDearest d h.1 h.2.2 x y) (fun g' h' => P_cutDearest d h' h.2.2 x y)
  exact ⟨g1, g2, _, _, k1, k2, k3, k4⟩
theorem L_dearest (d : Nat) (h : rBo g σ) (x : Int32) : Both d 120 228 [.inl x] g := by
  obtain ⟨g1, g2, k1, k2, k3, k4⟩ := both_CM (r := (w_dearest (aF σ) x, σ)) (oC := fun g => am_call (d + 9) 120 [.inr (.inr (0, 0)), .inl x] g) (oM := fun g => am_call (d + 9) 228 [.inr (.inr (29, 0)), .inl x] g) h (h.2.2) (A_dearest d h.1 h.2.2 x) (fun g' h' => P_dearest d h' h.2.2 x)
  exact ⟨g1, g2, _, _, k1, k2, k3, k4⟩
theorem L_exchange (d : Nat) (h : rBo g σ) (x y l c : Int32) : Both d 99 193 [.inl x, .inl y, .inl l, .inl c] g := by
  obtain ⟨g1, g2, k1, k2, k3, k4⟩ := both_CM (r := (o_exchange σ x y l c)) (oC := fun g => am_call (d + 9) 99 [.inr (.inr (0, 0)), .inl x, .inl y, .inl l, .inl c] g) (oM := fun g => am_call (d + 9) 193 [.inr (.inr (29, 0)), .inl x, .inl y, .inl l, .inl c] g) h (k_exchange h.2.2 x y l c) (A_exchange d h.1 h.2.2 x y l c) (fun g' h' => P_exchange d h' h.2.2 x y l c)
  exact ⟨g1, g2, _, _, k1, k2, k3, k4⟩
theorem L_far (d : Nat) (h : rBo g σ) (x y : Int32) : Both d 107 207 [.inl x, .inl y] g := by
  obtain ⟨g1, g2, k1, k2, k3, k4⟩ := both_CM (r := (w_far (aF σ) x y, σ)) (oC := fun g => am_call (d + 9) 107 [.inr (.inr (0, 0)), .inl x, .inl y] g) (oM := fun g => am_call (d + 9) 207 [.inr (.inr (29, 0)), .inl x, .inl y] g) h (h.2.2) (A_far d h.1 h.2.2 x y) (fun g' h' => P_far d h' h.2.2 x y)
  exact ⟨g1, g2, _, _, k1, k2, k3, k4⟩
theorem L_fault (d : Nat) (h : rBo g σ) (x : Int32) : Both d 86 164 [.inl x] g := by
  obtain ⟨g1, g2, k1, k2, k3, k4⟩ := both_CM (r := (w_fault σ x, σ)) (oC := fun g => am_call (d + 9) 86 [.inr (.inr (0, 0)), .inl x] g) (oM := fun g => am_call (d + 9) 164 [.inr (.inr (29, 0)), .inl x] g) h (h.2.2) (A_fault d h.1 x) (fun g' h' => P_fault d h' x)
  exact ⟨g1, g2, _, _, k1, k2, k3, k4⟩
theorem L_feed (d : Nat) (h : rBo g σ) (a b c e f : Int32) : Both d 84 133 [.inl a, .inl b, .inl c, .inl e, .inl f] g := by
  obtain ⟨g1, g2, k1, k2, k3, k4⟩ := both_CM (r := (o_feed σ a b c e f)) (oC := fun g => am_call (d + 9) 84 [.inr (.inr (0, 0)), .inl a, .inl b, .inl c, .inl e, .inl f] g) (oM := fun g => am_call (d + 9) 133 [.inr (.inr (29, 0)), .inl a, .inl b, .inl c, .inl e, .inl f] g) h (k_feed h.2.2 a b c e f) (A_feed d h.1 h.2.2 a b c e f) (fun g' h' => P_feed d h' h.2.2 a b c e f)
  exact ⟨g1, g2, _, _, k1, k2, k3, k4⟩
theorem L_heavy (d : Nat) (h : rBo g σ) (x : Int32) : Both d 114 219 [.inl x] g := by
  obtain ⟨g1, g2, k1, k2, k3, k4⟩ := both_CM (r := (w_heavy (aF σ) x, σ)) (oC := fun g => am_call (d + 9) 114 [.inr (.inr (0, 0)), .inl x] g) (oM := fun g => am_call (d + 9) 219 [.inr (.inr (29, 0)), .inl x] g) h (h.2.2) (A_heavy d h.1 h.2.2 x) (fun g' h' => P_heavy d h' h.2.2 x)
  exact ⟨g1, g2, _, _, k1, k2, k3, k4⟩
theorem L_joint (d : Nat) (h : rBo g σ) (x y z : Int32) : Both d 112 216 [.inl x, .inl y, .inl z] g := by
  obtain ⟨g1, g2, k1, k2, k3, k4⟩ := both_CM (r := (w_joint (aF σ) x y z, σ)) (oC := fun g => am_call (d + 9) 112 [.inr (.inr (0, 0)), .inl x, .inl y, .inl z] g) (oM := fun g => am_call (d + 9) 216 [.inr (.inr (29, 0)), .inl x, .inl y, .inl z] g) h (h.2.2) (A_joint d h.1 h.2.2 x y z) (fun g' h' => P_joint d h' h.2.2 x y z)
  exact ⟨g1, g2, _, _, k1, k2, k3, k4⟩
theorem L_keep (d : Nat) (h : rBo g σ) : Both d 124 146 [] g := by
  obtain ⟨g1, g2, k1, k2, k3, k4⟩ := both_CM (r := (o_keep σ)) (oC := fun g => am_call (d + 9) 124 [.inr (.inr (0, 0))] g) (oM := fun g => am_call (d + 9) 146 [.inr (.inr (29, 0))] g) h (k_keep h.2.2) (A_keep d h.1 h.2.2) (fun g' h' => P_keep d h' h.2.2)
  exact ⟨g1, g2, _, _, k1, k2, k3, k4⟩
theorem L_leastFor (d : Nat) (h : rBo g σ) (x : Int32) : Both d 121 229 [.inl x] g := by
  obtain ⟨g1, g2, k1, k2, k3, k4⟩ := both_CM (r := (w_leastFor (aF σ) x, σ)) (oC := fun g => am_call (d + 9) 121 [.inr (.inr (0, 0)), .inl x] g) (oM := fun g => am_call (d + 9) 229 [.inr (.inr (29, 0)), .inl x] g) h (h.2.2) (A_leastFor d h.1 h.2.2 x) (fun g' h' => P_leastFor d h' h.2.2 x)
  exact ⟨g1, g2, _, _, k1, k2, k3, k4⟩
theorem L_link (d : Nat) (h : rBo g σ) (x y l c : Int32) : Both d 90 181 [.inl x, .inl y, .inl l, .inl c] g := by
  obtain ⟨g1, g2, k1, k2, k3, k4⟩ := both_CM (r := (o_link σ x y l c)) (oC := fun g => am_call (d + 9) 90 [.inr (.inr (0, 0)), .inl x, .inl y, .inl l, .inl c] g) (oM := fun g => am_call (d + 9) 181 [.inr (.inr (29, 0)), .inl x, .inl y, .inl l, .inl c] g) h (k_link h.2.2 x y l c) (A_link d h.1 h.2.2 x y l c) (fun g' h' => P_link d h' h.2.2 x y l c)
  exact ⟨g1, g2, _, _, k1, k2, k3, k4⟩
theorem L_meet (d : Nat) (h : rBo g σ) (x y : Int32) : Both d 94 187 [.inl x, .inl y] g := by
  obtain ⟨g1, g2, k1, k2, k3, k4⟩ := both_CM (r := (o_meet σ x y)) (oC := fun g => am_call (d + 9) 94 [.inr (.inr (0, 0)), .inl x, .inl y] g) (oM := fun g => am_call (d + 9) 187 [.inr (.inr (29, 0)), .inl x, .inl y] g) h (k_meet h.2.2 x y) (A_meet d h.1 h.2.2 x y) (fun g' h' => P_meet d h' h.2.2 x y)
  exact ⟨g1, g2, _, _, k1, k2, k3, k4⟩
theorem L_meets (d : Nat) (h : rBo g σ) (x y : Int32) : Both d 108 208 [.inl x, .inl y] g := by
  obtain ⟨g1, g2, k1, k2, k3, k4⟩ := both_CM (r := (w_meets (aF σ) x y, σ)) (oC := fun g => am_call (d + 9) 108 [.inr (.inr (0, 0)), .inl x, .inl y] g) (oM := fun g => am_call (d + 9) 208 [.inr (.inr (29, 0)), .inl x, .inl y] g) h (h.2.2) (A_meets d h.1 h.2.2 x y) (fun g' h' => P_meets d h' h.2.2 x y)
  exact ⟨g1, g2, _, _, k1, k2, k3, k4⟩
theorem L_midst (d : Nat) (h : rBo g σ) (x : Int32) : Both d 118 225 [.inl x] g := by
  obtain ⟨g1, g2, k1, k2, k3, k4⟩ := both_CM (r := (w_midst (aF σ) x, σ)) (oC := fun g => am_call (d + 9) 118 [.inr (.inr (0, 0)), .inl x] g) (oM := fun g => am_call (d + 9) 225 [.inr (.inr (29, 0)), .inl x] g) h (h.2.2) (A_midst d h.1 h.2.2 x) (fun g' h' => P_midst d h' h.2.2 x)
  exact ⟨g1, g2, _, _, k1, k2, k3, k4⟩
theorem L_named (d : Nat) (h : rBo g σ) (x : Int32) : Both d 87 165 [.inl x] g := by
  obtain ⟨g1, g2, k1, k2, k3, k4⟩ := both_CM (r := (w_named σ x, σ)) (oC := fun g => am_call (d + 9) 87 [.inr (.inr (0, 0)), .inl x] g) (oM := fun g => am_call (d + 9) 165 [.inr (.inr (29, 0)), .inl x] g) h (h.2.2) (A_named d h.1 x) (fun g' h' => P_named d h' h.2.2 x)
  exact ⟨g1, g2, _, _, k1, k2, k3, k4⟩
theorem L_order (d : Nat) (h : rBo g σ) (x z : Int32) : Both d 110 212 [.inl x, .inl z] g := by
  obtain ⟨g1, g2, k1, k2, k3, k4⟩ := both_CM (r := (w_order (aF σ) x z, σ)) (oC := fun g => am_call (d + 9) 110 [.inr (.inr (0, 0)), .inl x, .inl z] g) (oM := fun g => am_call (d + 9) 212 [.inr (.inr (29, 0)), .inl x, .inl z] g) h (h.2.2) (A_order d h.1 h.2.2 x z) (fun g' h' => P_order d h' h.2.2 x z)
  exact ⟨g1, g2, _, _, k1, k2, k3, k4⟩
theorem L_parts (d : Nat) (h : rBo g σ) (x : Int32) : Both d 119 227 [.inl x] g := by
  obtain ⟨g1, g2, k1, k2, k3, k4⟩ := both_CM (r := (w_parts (aF σ) x, σ)) (oC := fun g => am_call (d + 9) 119 [.inr (.inr (0, 0)), .inl x] g) (oM := fun g => am_call (d + 9) 227 [.inr (.inr (29, 0)), .inl x] g) h (h.2.2) (A_parts d h.1 h.2.2 x) (fun g' h' => P_parts d h' h.2.2 x)
  exact ⟨g1, g2, _, _, k1, k2, k3, k4⟩
theorem L_place (d : Nat) (h : rBo g σ) (x : Int32) : Both d 111 213 [.inl x] g := by
  obtain ⟨g1, g2, k1, k2, k3, k4⟩ := both_CM (r := (w_place (aF σ) x, σ)) (oC := fun g => am_call (d + 9) 111 [.inr (.inr (0, 0)), .inl x] g) (oM := fun g => am_call (d + 9) 213 [.inr (.inr (29, 0)), .inl x] g) h (h.2.2) (A_place d h.1 h.2.2 x) (fun g' h' => P_place d h' h.2.2 x)
  exact ⟨g1, g2, _, _, k1, k2, k3, k4⟩
theorem L_potential (d : Nat) (h : rBo g σ) : Both d 115 221 [] g := by
  obtain ⟨g1, g2, k1, k2, k3, k4⟩ := both_CM (r := (nI (f_po (aF σ)), σ)) (oC := fun g => am_call (d + 9) 115 [.inr (.inr (0, 0))] g) (oM := fun g => am_call (d + 9) 221 [.inr (.inr (29, 0))] g) h (h.2.2) (A_potential d h.1 h.2.2) (fun g' h' => P_potential d h' h.2.2)
  exact ⟨g1, g2, _, _, k1, k2, k3, k4⟩
theorem L_raise (d : Nat) (h : rBo g σ) (x y z : Int32) : Both d 95 188 [.inl x, .inl y, .inl z] g := by
  obtain ⟨g1, g2, k1, k2, k3, k4⟩ := both_CM (r := (o_raise σ x y z)) (oC := fun g => am_call (d + 9) 95 [.inr (.inr (0, 0)), .inl x, .inl y, .inl z] g) (oM := fun g => am_call (d + 9) 188 [.inr (.inr (29, 0)), .inl x, .inl y, .inl z] g) h (k_raise h.2.2 x y z) (A_raise d h.1 h.2.2 x y z) (fun g' h' => P_raise d h' h.2.2 x y z)
  exact ⟨g1, g2, _, _, k1, k2, k3, k4⟩
theorem L_reroot (d : Nat) (h : rBo g σ) (x : Int32) : Both d 89 177 [.inl x] g := by
  obtain ⟨g1, g2, k1, k2, k3, k4⟩ := both_CM (r := (o_reroot σ x)) (oC := fun g => am_call (d + 9) 89 [.inr (.inr (0, 0)), .inl x] g) (oM := fun g => am_call (d + 9) 177 [.inr (.inr (29, 0)), .inl x] g) h (k_reroot h.2.2 x) (A_reroot d h.1 h.2.2 x) (fun g' h' => P_reroot d h' h.2.2 x)
  exact ⟨g1, g2, _, _, k1, k2, k3, k4⟩
theorem L_room (d : Nat) (h : rBo g σ) (x y : Int32) : Both d 109 209 [.inl x, .inl y] g := by
  obtain ⟨g1, g2, k1, k2, k3, k4⟩ := both_CM (r := (w_room (aF σ) x y, σ)) (oC := fun g => am_call (d + 9) 109 [.inr (.inr (0, 0)), .inl x, .inl y] g) (oM := fun g => am_call (d + 9) 209 [.inr (.inr (29, 0)), .inl x, .inl y] g) h (h.2.2) (A_room d h.1 h.2.2 x y) (fun g' h' => P_room d h' h.2.2 x y)
  exact ⟨g1, g2, _, _, k1, k2, k3, k4⟩
theorem L_seen (d : Nat) (h : rBo g σ) (x : Int32) : Both d 93 184 [.inl x] g := by
  obtain ⟨g1, g2, k1, k2, k3, k4⟩ := both_CM (r := (w_seen σ x, σ)) (oC := fun g => am_call (d + 9) 93 [.inr (.inr (0, 0)), .inl x] g) (oM := fun g => am_call (d + 9) 184 [.inr (.inr (29, 0)), .inl x] g) h (h.2.2) (A_seen d h.1 x) (fun g' h' => P_seen d h' h.2.2 x)
  exact ⟨g1, g2, _, _, k1, k2, k3, k4⟩
theorem L_send (d : Nat) (h : rBo g σ) (x y z : Int32) : Both d 97 189 [.inl x, .inl y, .inl z] g := by
  obtain ⟨g1, g2, k1, k2, k3, k4⟩ := both_CM (r := (o_send σ x y z)) (oC := fun g => am_call (d + 9) 97 [.inr (.inr (0, 0)), .inl x, .inl y, .inl z] g) (oM := fun g => am_call (d + 9) 189 [.inr (.inr (29, 0)), .inl x, .inl y, .inl z] g) h (k_send h.2.2 x y z) (A_send d h.1 h.2.2 x y z) (fun g' h' => P_send d h' h.2.2 x y z)
  exact ⟨g1, g2, _, _, k1, k2, k3, k4⟩
theorem L_settle (d : Nat) (h : rBo g σ) (x : Int32) : Both d 98 191 [.inl x] g := by
  obtain ⟨g1, g2, k1, k2, k3, k4⟩ := both_CM (r := (o_settle σ x)) (oC := fun g => am_call (d + 9) 98 [.inr (.inr (0, 0)), .inl x] g) (oM := fun g => am_call (d + 9) 191 [.inr (.inr (29, 0)), .inl x] g) h (k_settle h.2.2 x) (A_settle d h.1 h.2.2 x) (fun g' h' => P_settle d h' h.2.2 x)
  exact ⟨g1, g2, _, _, k1, k2, k3, k4⟩
theorem L_shed (d : Nat) (h : rBo g σ) (x : Int32) : Both d 100 194 [.inl x] g := by
  obtain ⟨g1, g2, k1, k2, k3, k4⟩ := both_CM (r := (o_shed σ x)) (oC := fun g => am_call (d + 9) 100 [.inr (.inr (0, 0)), .inl x] g) (oM := fun g => am_call (d + 9) 194 [.inr (.inr (29, 0)), .inl x] g) h (k_shed h.2.2 x) (A_shed d h.1 h.2.2 x) (fun g' h' => P_shed d h' h.2.2 x)
  exact ⟨g1, g2, _, _, k1, k2, k3, k4⟩
theorem L_text (d : Nat) (h : rBo g σ) (x : Int32) : Both d 85 163 [.inl x] g := by
  obtain ⟨g1, g2, k1, k2, k3, k4⟩ := both_CM (r := (o_text σ x)) (oC := fun g => am_call (d + 9) 85 [.inr (.inr (0, 0)), .inl x] g) (oM := fun g => am_call (d + 9) 163 [.inr (.inr (29, 0)), .inl x] g) h (k_text h.2.2 x) (A_text d h.1 h.2.2 x) (fun g' h' => P_text d h' h.2.2 x)
  exact ⟨g1, g2, _, _, k1, k2, k3, k4⟩
theorem L_tightest (d : Nat) (h : rBo g σ) (x : Int32) : Both d 113 217 [.inl x] g := by
  obtain ⟨g1, g2, k1, k2, k3, k4⟩ := both_CM (r := (w_tightest (aF σ) x, σ)) (oC := fun g => am_call (d + 9) 113 [.inr (.inr (0, 0)), .inl x] g) (oM := fun g => am_call (d + 9) 217 [.inr (.inr (29, 0)), .inl x] g) h (h.2.2) (A_tightest d h.1 h.2.2 x) (fun g' h' => P_tightest d h' h.2.2 x)
  exact ⟨g1, g2, _, _, k1, k2, k3, k4⟩
theorem L_together (d : Nat) (h : rBo g σ) (x y : Int32) : Both d 106 204 [.inl x, .inl y] g := by
  obtain ⟨g1, g2, k1, k2, k3, k4⟩ := both_CM (r := (w_together (aF σ) x y, σ)) (oC := fun g => am_call (d + 9) 106 [.inr (.inr (0, 0)), .inl x, .inl y] g) (oM := fun g => am_call (d + 9) 204 [.inr (.inr (29, 0)), .inl x, .inl y] g) h (h.2.2) (A_together d h.1 h.2.2 x y) (fun g' h' => P_together d h' h.2.2 x y)
  exact ⟨g1, g2, _, _, k1, k2, k3, k4⟩
theorem L_touch (d : Nat) (h : rBo g σ) (x : Int32) : Both d 88 176 [.inl x] g := by
  obtain ⟨g1, g2, k1, k2, k3, k4⟩ := both_CM (r := (o_touch σ x)) (oC := fun g => am_call (d + 9) 88 [.inr (.inr (0, 0)), .inl x] g) (oM := fun g => am_call (d + 9) 176 [.inr (.inr (29, 0)), .inl x] g) h (k_touch h.2.2 x) (A_touch d h.1 h.2.2 x) (fun g' h' => P_touch d h' h.2.2 x)
  exact ⟨g1, g2, _, _, k1, k2, k3, k4⟩
theorem L_undo (d : Nat) (h : rBo g σ) : Both d 123 145 [] g := by
  obtain ⟨g1, g2, k1, k2, k3, k4⟩ := both_CM (r := (o_undo σ)) (oC := fun g => am_call (d + 9) 123 [.inr (.inr (0, 0))] g) (oM := fun g => am_call (d + 9) 145 [.inr (.inr (29, 0))] g) h (k_undo h.2.2) (A_undo d h.1) (fun g' h' => P_undo d h' h.2.2)
  exact ⟨g1, g2, _, _, k1, k2, k3, k4⟩
theorem L_value (d : Nat) (h : rBo g σ) (x v : Int32) : Both d 101 195 [.inl x, .inl v] g := by
  obtain ⟨g1, g2, k1, k2, k3, k4⟩ := both_CM (r := (o_value σ x v)) (oC := fun g => am_call (d + 9) 101 [.inr (.inr (0, 0)), .inl x, .inl v] g) (oM := fun g => am_call (d + 9) 195 [.inr (.inr (29, 0)), .inl x, .inl v] g) h (k_value h.2.2 x v) (A_value d h.1 h.2.2 x v) (fun g' h' => P_value d h' h.2.2 x v)
  exact ⟨g1, g2, _, _, k1, k2, k3, k4⟩
theorem L_walk (d : Nat) (h : rBo g σ) (x y : Int32) : Both d 92 183 [.inl x, .inl y] g := by
  obtain ⟨g1, g2, k1, k2, k3, k4⟩ := both_CM (r := (o_walk σ x y)) (oC := fun g => am_call (d + 9) 92 [.inr (.inr (0, 0)), .inl x, .inl y] g) (oM := fun g => am_call (d + 9) 183 [.inr (.inr (29, 0)), .inl x, .inl y] g) h (k_walk h.2.2 x y) (A_walk d h.1 h.2.2 x y) (fun g' h' => P_walk d h' h.2.2 x y)
  exact ⟨g1, g2, _, _, k1, k2, k3, k4⟩
theorem L_widest (d : Nat) (h : rBo g σ) (x z : Int32) : Both d 117 223 [.inl x, .inl z] g := by
  obtain ⟨g1, g2, k1, k2, k3, k4⟩ := both_CM (r := (w_widest (aF σ) x z, σ)) (oC := fun g => am_call (d + 9) 117 [.inr (.inr (0, 0)), .inl x, .inl z] g) (oM := fun g => am_call (d + 9) 223 [.inr (.inr (29, 0)), .inl x, .inl z] g) h (h.2.2) (A_widest d h.1 h.2.2 x z) (fun g' h' => P_widest d h' h.2.2 x z)
  exact ⟨g1, g2, _, _, k1, k2, k3, k4⟩
theorem L_would (d : Nat) (h : rBo g σ) (x : Int32) : Both d 116 222 [.inl x] g := by
  obtain ⟨g1, g2, k1, k2, k3, k4⟩ := both_CM (r := (w_would (aF σ) x, σ)) (oC := fun g => am_call (d + 9) 116 [.inr (.inr (0, 0)), .inl x] g) (oM := fun g => am_call (d + 9) 222 [.inr (.inr (29, 0)), .inl x] g) h (h.2.2) (A_would d h.1 h.2.2 x) (fun g' h' => P_would d h' h.2.2 x)
  exact ⟨g1, g2, _, _, k1, k2, k3, k4⟩
end BO
