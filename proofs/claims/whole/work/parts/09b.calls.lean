/-! ===== a call is a run from its first instruction: by wip/whole/write.py ===== -/
theorem am_call_run {d mi : Nat} {as : List am_V} {ls : am_L} {g : am_G} (h : as.length ≤ am_maxL mi) (he : am_ent mi as = ls) : am_call (d + 1) mi as g = am_run (am_call d) mi (99999 + 1) 0 ls [] g := by
  subst he
  have e : am_call (d + 1) mi as g = (bif decide (as.length ≤ am_maxL mi) then am_run (am_call d) mi 100000 0 (am_ent mi as) [] g else none) := rfl
  rw [e, decide_eq_true h]
  rfl
set_option maxRecDepth 20000 in
theorem cF_clear (d : Nat) (i : Nat) (g : am_G) : am_call (d + 1) 0 [.inr (.inr (1, i))] g = am_run (am_call d) 0 (99999 + 1) 0 [some (.inr (.inr (1, i)))] [] g := am_call_run (Nat.le_of_ble_eq_true rfl) rfl
set_option maxRecDepth 20000 in
theorem cF_copyFrom (d : Nat) (i j : Nat) (g : am_G) : am_call (d + 1) 1 [.inr (.inr (1, i)), .inr (.inr (1, j))] g = am_run (am_call d) 1 (99999 + 1) 0 [some (.inr (.inr (1, i))), some (.inr (.inr (1, j)))] [] g := am_call_run (Nat.le_of_ble_eq_true rfl) rfl
set_option maxRecDepth 20000 in
theorem cF_addTown (d : Nat) (i : Nat) (x1 : Int32) (g : am_G) : am_call (d + 1) 2 [.inr (.inr (1, i)), .inl x1] g = am_run (am_call d) 2 (99999 + 1) 0 [some (.inr (.inr (1, i))), some (.inl x1)] [] g := am_call_run (Nat.le_of_ble_eq_true rfl) rfl
set_option maxRecDepth 20000 in
theorem cF_has (d : Nat) (i : Nat) (x1 : Int32) (g : am_G) : am_call (d + 1) 3 [.inr (.inr (1, i)), .inl x1] g = am_run (am_call d) 3 (99999 + 1) 0 [some (.inr (.inr (1, i))), some (.inl x1)] [] g := am_call_run (Nat.le_of_ble_eq_true rfl) rfl
set_option maxRecDepth 20000 in
theorem cF_hasBoth (d : Nat) (i : Nat) (x1 : Int32) (x2 : Int32) (g : am_G) : am_call (d + 1) 4 [.inr (.inr (1, i)), .inl x1, .inl x2] g = am_run (am_call d) 4 (99999 + 1) 0 [some (.inr (.inr (1, i))), some (.inl x1), some (.inl x2)] [] g := am_call_run (Nat.le_of_ble_eq_true rfl) rfl
set_option maxRecDepth 20000 in
theorem cF_touchAt (d : Nat) (i : Nat) (x1 : Int32) (g : am_G) : am_call (d + 1) 5 [.inr (.inr (1, i)), .inl x1] g = am_run (am_call d) 5 (99999 + 1) 0 [some (.inr (.inr (1, i))), some (.inl x1), none, none, none] [] g := am_call_run (Nat.le_of_ble_eq_true rfl) rfl
set_option maxRecDepth 20000 in
theorem cF_rerootAt (d : Nat) (i : Nat) (x1 : Int32) (g : am_G) : am_call (d + 1) 6 [.inr (.inr (1, i)), .inl x1] g = am_run (am_call d) 6 (99999 + 1) 0 [some (.inr (.inr (1, i))), some (.inl x1), none, none, none, none, none, none, none, none] [] g := am_call_run (Nat.le_of_ble_eq_true rfl) rfl
set_option maxRecDepth 20000 in
theorem cF_walkFrom (d : Nat) (i : Nat) (x1 : Int32) (x2 : Int32) (g : am_G) : am_call (d + 1) 7 [.inr (.inr (1, i)), .inl x1, .inl x2] g = am_run (am_call d) 7 (99999 + 1) 0 [some (.inr (.inr (1, i))), some (.inl x1), some (.inl x2)] [] g := am_call_run (Nat.le_of_ble_eq_true rfl) rfl
set_option maxRecDepth 20000 in
theorem cF_linkUnder (d : Nat) (i : Nat) (x1 : Int32) (x2 : Int32) (x3 : Int32) (x4 : Int32) (g : am_G) : am_call (d + 1) 8 [.inr (.inr (1, i)), .inl x1, .inl x2, .inl x3, .inl x4] g = am_run (am_call d) 8 (99999 + 1) 0 [some (.inr (.inr (1, i))), some (.inl x1), some (.inl x2), some (.inl x3), some (.inl x4)] [] g := am_call_run (Nat.le_of_ble_eq_true rfl) rfl
set_option maxRecDepth 20000 in
theorem cF_cutBetween (d : Nat) (i : Nat) (x1 : Int32) (x2 : Int32) (g : am_G) : am_call (d + 1) 9 [.inr (.inr (1, i)), .inl x1, .inl x2] g = am_run (am_call d) 9 (99999 + 1) 0 [some (.inr (.inr (1, i))), some (.inl x1), some (.inl x2)] [] g := am_call_run (Nat.le_of_ble_eq_true rfl) rfl
set_option maxRecDepth 20000 in
theorem cF_settleTreeOf (d : Nat) (i : Nat) (x1 : Int32) (g : am_G) : am_call (d + 1) 10 [.inr (.inr (1, i)), .inl x1] g = am_run (am_call d) 10 (99999 + 1) 0 [some (.inr (.inr (1, i))), some (.inl x1), none, none, none, none] [] g := am_call_run (Nat.le_of_ble_eq_true rfl) rfl
set_option maxRecDepth 20000 in
theorem cF_rootOf (d : Nat) (i : Nat) (x1 : Int32) (g : am_G) : am_call (d + 1) 11 [.inr (.inr (1, i)), .inl x1] g = am_run (am_call d) 11 (99999 + 1) 0 [some (.inr (.inr (1, i))), some (.inl x1), none, none] [] g := am_call_run (Nat.le_of_ble_eq_true rfl) rfl
set_option maxRecDepth 20000 in
theorem cF_depthOf (d : Nat) (i : Nat) (x1 : Int32) (g : am_G) : am_call (d + 1) 12 [.inr (.inr (1, i)), .inl x1] g = am_run (am_call d) 12 (99999 + 1) 0 [some (.inr (.inr (1, i))), some (.inl x1), none, none, none] [] g := am_call_run (Nat.le_of_ble_eq_true rfl) rfl
set_option maxRecDepth 20000 in
theorem cF_climb (d : Nat) (i : Nat) (x1 : Int32) (x2 : Int32) (g : am_G) : am_call (d + 1) 13 [.inr (.inr (1, i)), .inl x1, .inl x2] g = am_run (am_call d) 13 (99999 + 1) 0 [some (.inr (.inr (1, i))), some (.inl x1), some (.inl x2), none, none] [] g := am_call_run (Nat.le_of_ble_eq_true rfl) rfl
set_option maxRecDepth 20000 in
theorem cF_isOver (d : Nat) (i : Nat) (x1 : Int32) (x2 : Int32) (g : am_G) : am_call (d + 1) 14 [.inr (.inr (1, i)), .inl x1, .inl x2] g = am_run (am_call d) 14 (99999 + 1) 0 [some (.inr (.inr (1, i))), some (.inl x1), some (.inl x2), none, none] [] g := am_call_run (Nat.le_of_ble_eq_true rfl) rfl
set_option maxRecDepth 20000 in
theorem cF_hangTogether (d : Nat) (i : Nat) (x1 : Int32) (x2 : Int32) (g : am_G) : am_call (d + 1) 15 [.inr (.inr (1, i)), .inl x1, .inl x2] g = am_run (am_call d) 15 (99999 + 1) 0 [some (.inr (.inr (1, i))), some (.inl x1), some (.inl x2)] [] g := am_call_run (Nat.le_of_ble_eq_true rfl) rfl
set_option maxRecDepth 20000 in
theorem cF_meetingOf (d : Nat) (i : Nat) (x1 : Int32) (x2 : Int32) (g : am_G) : am_call (d + 1) 16 [.inr (.inr (1, i)), .inl x1, .inl x2] g = am_run (am_call d) 16 (99999 + 1) 0 [some (.inr (.inr (1, i))), some (.inl x1), some (.inl x2), none, none, none, none, none] [] g := am_call_run (Nat.le_of_ble_eq_true rfl) rfl
set_option maxRecDepth 20000 in
theorem cF_lowerOf (d : Nat) (i : Nat) (x1 : Int32) (x2 : Int32) (g : am_G) : am_call (d + 1) 17 [.inr (.inr (1, i)), .inl x1, .inl x2] g = am_run (am_call d) 17 (99999 + 1) 0 [some (.inr (.inr (1, i))), some (.inl x1), some (.inl x2)] [] g := am_call_run (Nat.le_of_ble_eq_true rfl) rfl
set_option maxRecDepth 20000 in
theorem cF_headOf (d : Nat) (i : Nat) (x1 : Int32) (g : am_G) : am_call (d + 1) 18 [.inr (.inr (1, i)), .inl x1] g = am_run (am_call d) 18 (99999 + 1) 0 [some (.inr (.inr (1, i))), some (.inl x1), none, none, none] [] g := am_call_run (Nat.le_of_ble_eq_true rfl) rfl
set_option maxRecDepth 20000 in
theorem cF_tailOf (d : Nat) (i : Nat) (x1 : Int32) (g : am_G) : am_call (d + 1) 19 [.inr (.inr (1, i)), .inl x1] g = am_run (am_call d) 19 (99999 + 1) 0 [some (.inr (.inr (1, i))), some (.inl x1), none, none] [] g := am_call_run (Nat.le_of_ble_eq_true rfl) rfl
set_option maxRecDepth 20000 in
theorem cF_trees (d : Nat) (i : Nat) (g : am_G) : am_call (d + 1) 20 [.inr (.inr (1, i))] g = am_run (am_call d) 20 (99999 + 1) 0 [some (.inr (.inr (1, i))), none, none] [] g := am_call_run (Nat.le_of_ble_eq_true rfl) rfl
set_option maxRecDepth 20000 in
theorem cF_chains (d : Nat) (i : Nat) (g : am_G) : am_call (d + 1) 21 [.inr (.inr (1, i))] g = am_run (am_call d) 21 (99999 + 1) 0 [some (.inr (.inr (1, i))), none, none] [] g := am_call_run (Nat.le_of_ble_eq_true rfl) rfl
set_option maxRecDepth 20000 in
theorem cF_weigh (d : Nat) (i : Nat) (g : am_G) : am_call (d + 1) 22 [.inr (.inr (1, i))] g = am_run (am_call d) 22 (99999 + 1) 0 [some (.inr (.inr (1, i))), none, none, none] [] g := am_call_run (Nat.le_of_ble_eq_true rfl) rfl
set_option maxRecDepth 20000 in
theorem cF_sizeOf (d : Nat) (i : Nat) (x1 : Int32) (g : am_G) : am_call (d + 1) 23 [.inr (.inr (1, i)), .inl x1] g = am_run (am_call d) 23 (99999 + 1) 0 [some (.inr (.inr (1, i))), some (.inl x1)] [] g := am_call_run (Nat.le_of_ble_eq_true rfl) rfl
set_option maxRecDepth 20000 in
theorem cF_valuesUnder (d : Nat) (i : Nat) (x1 : Int32) (g : am_G) : am_call (d + 1) 24 [.inr (.inr (1, i)), .inl x1] g = am_run (am_call d) 24 (99999 + 1) 0 [some (.inr (.inr (1, i))), some (.inl x1), none, none] [] g := am_call_run (Nat.le_of_ble_eq_true rfl) rfl
set_option maxRecDepth 20000 in
theorem cF_childrenOf (d : Nat) (i : Nat) (x1 : Int32) (g : am_G) : am_call (d + 1) 25 [.inr (.inr (1, i)), .inl x1] g = am_run (am_call d) 25 (99999 + 1) 0 [some (.inr (.inr (1, i))), some (.inl x1), none, none] [] g := am_call_run (Nat.le_of_ble_eq_true rfl) rfl
set_option maxRecDepth 20000 in
theorem cF_heavyChildOf (d : Nat) (i : Nat) (x1 : Int32) (g : am_G) : am_call (d + 1) 26 [.inr (.inr (1, i)), .inl x1] g = am_run (am_call d) 26 (99999 + 1) 0 [some (.inr (.inr (1, i))), some (.inl x1)] [] g := am_call_run (Nat.le_of_ble_eq_true rfl) rfl
set_option maxRecDepth 20000 in
theorem cF_heavyOfWeighed (d : Nat) (i : Nat) (x1 : Int32) (g : am_G) : am_call (d + 1) 27 [.inr (.inr (1, i)), .inl x1] g = am_run (am_call d) 27 (99999 + 1) 0 [some (.inr (.inr (1, i))), some (.inl x1), none] [] g := am_call_run (Nat.le_of_ble_eq_true rfl) rfl
set_option maxRecDepth 20000 in
theorem cF_heavyNotPreferred (d : Nat) (i : Nat) (g : am_G) : am_call (d + 1) 28 [.inr (.inr (1, i))] g = am_run (am_call d) 28 (99999 + 1) 0 [some (.inr (.inr (1, i))), none, none, none] [] g := am_call_run (Nat.le_of_ble_eq_true rfl) rfl
set_option maxRecDepth 20000 in
theorem cF_switchesTo (d : Nat) (i : Nat) (x1 : Int32) (g : am_G) : am_call (d + 1) 29 [.inr (.inr (1, i)), .inl x1] g = am_run (am_call d) 29 (99999 + 1) 0 [some (.inr (.inr (1, i))), some (.inl x1), none, none, none, none] [] g := am_call_run (Nat.le_of_ble_eq_true rfl) rfl
set_option maxRecDepth 20000 in
theorem cF_lowerOfExtreme_5 (d : Nat) (i : Nat) (x1 : Int32) (x3 : Int32) (g : am_G) : am_call (d + 1) 30 [.inr (.inr (1, i)), .inl x1, .inr (.inr (5, i)), .inl x3] g = am_run (am_call d) 30 (99999 + 1) 0 [some (.inr (.inr (1, i))), some (.inl x1), some (.inr (.inr (5, i))), some (.inl x3), none, none, none] [] g := am_call_run (Nat.le_of_ble_eq_true rfl) rfl
set_option maxRecDepth 20000 in
theorem cF_lowerOfExtreme_4 (d : Nat) (i : Nat) (x1 : Int32) (x3 : Int32) (g : am_G) : am_call (d + 1) 30 [.inr (.inr (1, i)), .inl x1, .inr (.inr (4, i)), .inl x3] g = am_run (am_call d) 30 (99999 + 1) 0 [some (.inr (.inr (1, i))), some (.inl x1), some (.inr (.inr (4, i))), some (.inl x3), none, none, none] [] g := am_call_run (Nat.le_of_ble_eq_true rfl) rfl
set_option maxRecDepth 20000 in
theorem cF_midstOfTreeOf (d : Nat) (i : Nat) (x1 : Int32) (g : am_G) : am_call (d + 1) 31 [.inr (.inr (1, i)), .inl x1] g = am_run (am_call d) 31 (99999 + 1) 0 [some (.inr (.inr (1, i))), some (.inl x1), none, none, none, none, none] [] g := am_call_run (Nat.le_of_ble_eq_true rfl) rfl
set_option maxRecDepth 20000 in
theorem cF_greatestPartOfWeighed (d : Nat) (i : Nat) (x1 : Int32) (x2 : Int32) (g : am_G) : am_call (d + 1) 32 [.inr (.inr (1, i)), .inl x1, .inl x2] g = am_run (am_call d) 32 (99999 + 1) 0 [some (.inr (.inr (1, i))), some (.inl x1), some (.inl x2), none, none] [] g := am_call_run (Nat.le_of_ble_eq_true rfl) rfl
set_option maxRecDepth 20000 in
theorem cF_partsBy (d : Nat) (i : Nat) (x1 : Int32) (g : am_G) : am_call (d + 1) 33 [.inr (.inr (1, i)), .inl x1] g = am_run (am_call d) 33 (99999 + 1) 0 [some (.inr (.inr (1, i))), some (.inl x1), none, none] [] g := am_call_run (Nat.le_of_ble_eq_true rfl) rfl
set_option maxRecDepth 20000 in
theorem cF_leastLengthFor (d : Nat) (i : Nat) (x1 : Int32) (g : am_G) : am_call (d + 1) 34 [.inr (.inr (1, i)), .inl x1] g = am_run (am_call d) 34 (99999 + 1) 0 [some (.inr (.inr (1, i))), some (.inl x1), none, none] [] g := am_call_run (Nat.le_of_ble_eq_true rfl) rfl
set_option maxRecDepth 20000 in
theorem cB_start (d : Nat) (i : Nat) (x2 : Int32) (g : am_G) : am_call (d + 1) 35 [.inr (.inr (28, 0)), .inr (.inr (1, i)), .inl x2] g = am_run (am_call d) 35 (99999 + 1) 0 [some (.inr (.inr (28, 0))), some (.inr (.inr (1, i))), some (.inl x2)] [] g := am_call_run (Nat.le_of_ble_eq_true rfl) rfl
set_option maxRecDepth 20000 in
theorem cB_draw (d : Nat) (x1 : Int32) (g : am_G) : am_call (d + 1) 36 [.inr (.inr (28, 0)), .inl x1] g = am_run (am_call d) 36 (99999 + 1) 0 [some (.inr (.inr (28, 0))), some (.inl x1)] [] g := am_call_run (Nat.le_of_ble_eq_true rfl) rfl
set_option maxRecDepth 20000 in
theorem cB_doOne (d : Nat)  (g : am_G) : am_call (d + 1) 37 [.inr (.inr (28, 0))] g = am_run (am_call d) 37 (99999 + 1) 0 [some (.inr (.inr (28, 0))), none, none, none] [] g := am_call_run (Nat.le_of_ble_eq_true rfl) rfl
set_option maxRecDepth 20000 in
theorem cH_forget (d : Nat)  (g : am_G) : am_call (d + 1) 38 [.inr (.inr (14, 0))] g = am_run (am_call d) 38 (99999 + 1) 0 [some (.inr (.inr (14, 0)))] [] g := am_call_run (Nat.le_of_ble_eq_true rfl) rfl
set_option maxRecDepth 20000 in
theorem cH_remember (d : Nat) (i : Nat) (g : am_G) : am_call (d + 1) 39 [.inr (.inr (14, 0)), .inr (.inr (1, i))] g = am_run (am_call d) 39 (99999 + 1) 0 [some (.inr (.inr (14, 0))), some (.inr (.inr (1, i)))] [] g := am_call_run (Nat.le_of_ble_eq_true rfl) rfl
set_option maxRecDepth 20000 in
theorem cH_goBack (d : Nat) (i : Nat) (g : am_G) : am_call (d + 1) 40 [.inr (.inr (14, 0)), .inr (.inr (1, i))] g = am_run (am_call d) 40 (99999 + 1) 0 [some (.inr (.inr (14, 0))), some (.inr (.inr (1, i)))] [] g := am_call_run (Nat.le_of_ble_eq_true rfl) rfl
set_option maxRecDepth 20000 in
theorem cN_clear (d : Nat) (i : Nat) (g : am_G) : am_call (d + 1) 41 [.inr (.inr (8, i))] g = am_run (am_call d) 41 (99999 + 1) 0 [some (.inr (.inr (8, i)))] [] g := am_call_run (Nat.le_of_ble_eq_true rfl) rfl
set_option maxRecDepth 20000 in
theorem cN_copyFrom (d : Nat) (i j : Nat) (g : am_G) : am_call (d + 1) 42 [.inr (.inr (8, i)), .inr (.inr (8, j))] g = am_run (am_call d) 42 (99999 + 1) 0 [some (.inr (.inr (8, i))), some (.inr (.inr (8, j)))] [] g := am_call_run (Nat.le_of_ble_eq_true rfl) rfl
set_option maxRecDepth 20000 in
theorem cN_add (d : Nat) (i : Nat) (x1 : Int32) (g : am_G) : am_call (d + 1) 43 [.inr (.inr (8, i)), .inl x1] g = am_run (am_call d) 43 (99999 + 1) 0 [some (.inr (.inr (8, i))), some (.inl x1)] [] g := am_call_run (Nat.le_of_ble_eq_true rfl) rfl
set_option maxRecDepth 20000 in
theorem cN_find (d : Nat) (i : Nat) (x1 : Int32) (g : am_G) : am_call (d + 1) 44 [.inr (.inr (8, i)), .inl x1] g = am_run (am_call d) 44 (99999 + 1) 0 [some (.inr (.inr (8, i))), some (.inl x1), none] [] g := am_call_run (Nat.le_of_ble_eq_true rfl) rfl
set_option maxRecDepth 20000 in
theorem cR_opn (d : Nat) (x2 : Int32) (g : am_G) : am_call (d + 1) 45 [.inr (.inr (11, 0)), .inr (.inr (13, 0)), .inl x2] g = am_run (am_call d) 45 (99999 + 1) 0 [some (.inr (.inr (11, 0))), some (.inr (.inr (13, 0))), some (.inl x2)] [] g := am_call_run (Nat.le_of_ble_eq_true rfl) rfl
set_option maxRecDepth 20000 in
theorem cR_step (d : Nat)  (g : am_G) : am_call (d + 1) 46 [.inr (.inr (11, 0))] g = am_run (am_call d) 46 (99999 + 1) 0 [some (.inr (.inr (11, 0)))] [] g := am_call_run (Nat.le_of_ble_eq_true rfl) rfl
set_option maxRecDepth 20000 in
theorem cR_isLetterAt (d : Nat) (x1 : Int32) (g : am_G) : am_call (d + 1) 47 [.inr (.inr (11, 0)), .inl x1] g = am_run (am_call d) 47 (99999 + 1) 0 [some (.inr (.inr (11, 0))), some (.inl x1)] [] g := am_call_run (Nat.le_of_ble_eq_true rfl) rfl
set_option maxRecDepth 20000 in
theorem cR_isDigitAt (d : Nat) (x1 : Int32) (g : am_G) : am_call (d + 1) 48 [.inr (.inr (11, 0)), .inl x1] g = am_run (am_call d) 48 (99999 + 1) 0 [some (.inr (.inr (11, 0))), some (.inl x1)] [] g := am_call_run (Nat.le_of_ble_eq_true rfl) rfl
set_option maxRecDepth 20000 in
theorem cR_readWord (d : Nat)  (g : am_G) : am_call (d + 1) 49 [.inr (.inr (11, 0))] g = am_run (am_call d) 49 (99999 + 1) 0 [some (.inr (.inr (11, 0))), none] [] g := am_call_run (Nat.le_of_ble_eq_true rfl) rfl
set_option maxRecDepth 20000 in
theorem cR_readDigits (d : Nat)  (g : am_G) : am_call (d + 1) 50 [.inr (.inr (11, 0))] g = am_run (am_call d) 50 (99999 + 1) 0 [some (.inr (.inr (11, 0)))] [] g := am_call_run (Nat.le_of_ble_eq_true rfl) rfl
set_option maxRecDepth 20000 in
theorem cS_look (d : Nat) (i w : Nat) (x3 : Int32) (g : am_G) : am_call (d + 1) 51 [.inr (.inr (18, 0)), .inr (.inr (1, i)), .inr (.inr (16, w)), .inl x3] g = am_run (am_call d) 51 (99999 + 1) 0 [some (.inr (.inr (18, 0))), some (.inr (.inr (1, i))), some (.inr (.inr (16, w))), some (.inl x3), none] [] g := am_call_run (Nat.le_of_ble_eq_true rfl) rfl
set_option maxRecDepth 20000 in
theorem cV_lineUp (d : Nat) (i : Nat) (x2 : Int32) (g : am_G) : am_call (d + 1) 52 [.inr (.inr (20, 0)), .inr (.inr (1, i)), .inl x2] g = am_run (am_call d) 52 (99999 + 1) 0 [some (.inr (.inr (20, 0))), some (.inr (.inr (1, i))), some (.inl x2), none, none, none] [] g := am_call_run (Nat.le_of_ble_eq_true rfl) rfl
set_option maxRecDepth 20000 in
theorem cV_opnChildren (d : Nat) (i : Nat) (x2 : Int32) (x3 : Int32) (g : am_G) : am_call (d + 1) 53 [.inr (.inr (20, 0)), .inr (.inr (1, i)), .inl x2, .inl x3] g = am_run (am_call d) 53 (99999 + 1) 0 [some (.inr (.inr (20, 0))), some (.inr (.inr (1, i))), some (.inl x2), some (.inl x3), none, none, none] [] g := am_call_run (Nat.le_of_ble_eq_true rfl) rfl
set_option maxRecDepth 20000 in
theorem cV_placeOf (d : Nat) (x1 : Int32) (g : am_G) : am_call (d + 1) 54 [.inr (.inr (20, 0)), .inl x1] g = am_run (am_call d) 54 (99999 + 1) 0 [some (.inr (.inr (20, 0))), some (.inl x1), none] [] g := am_call_run (Nat.le_of_ble_eq_true rfl) rfl
set_option maxRecDepth 20000 in
theorem cV_measure (d : Nat) (i : Nat) (x2 : Int32) (g : am_G) : am_call (d + 1) 55 [.inr (.inr (20, 0)), .inr (.inr (1, i)), .inl x2] g = am_run (am_call d) 55 (99999 + 1) 0 [some (.inr (.inr (20, 0))), some (.inr (.inr (1, i))), some (.inl x2), none, none, none, none, none, none] [] g := am_call_run (Nat.le_of_ble_eq_true rfl) rfl
set_option maxRecDepth 20000 in
theorem cV_farthestFrom (d : Nat) (x1 : Int32) (g : am_G) : am_call (d + 1) 56 [.inr (.inr (20, 0)), .inl x1] g = am_run (am_call d) 56 (99999 + 1) 0 [some (.inr (.inr (20, 0))), some (.inl x1), none, none] [] g := am_call_run (Nat.le_of_ble_eq_true rfl) rfl
set_option maxRecDepth 20000 in
theorem cV_widestReach (d : Nat)  (g : am_G) : am_call (d + 1) 57 [.inr (.inr (20, 0))] g = am_run (am_call d) 57 (99999 + 1) 0 [some (.inr (.inr (20, 0))), none, none] [] g := am_call_run (Nat.le_of_ble_eq_true rfl) rfl
set_option maxRecDepth 20000 in
theorem cV_findHomes (d : Nat) (i : Nat) (g : am_G) : am_call (d + 1) 58 [.inr (.inr (20, 0)), .inr (.inr (1, i))] g = am_run (am_call d) 58 (99999 + 1) 0 [some (.inr (.inr (20, 0))), some (.inr (.inr (1, i))), none] [] g := am_call_run (Nat.le_of_ble_eq_true rfl) rfl
set_option maxRecDepth 20000 in
theorem cV_setPair (d : Nat) (x1 : Int32) (x2 : Int32) (x3 : Int32) (g : am_G) : am_call (d + 1) 59 [.inr (.inr (20, 0)), .inl x1, .inl x2, .inl x3] g = am_run (am_call d) 59 (99999 + 1) 0 [some (.inr (.inr (20, 0))), some (.inl x1), some (.inl x2), some (.inl x3)] [] g := am_call_run (Nat.le_of_ble_eq_true rfl) rfl
set_option maxRecDepth 20000 in
theorem cV_findWidest (d : Nat) (i : Nat) (x2 : Int32) (g : am_G) : am_call (d + 1) 60 [.inr (.inr (20, 0)), .inr (.inr (1, i)), .inl x2] g = am_run (am_call d) 60 (99999 + 1) 0 [some (.inr (.inr (20, 0))), some (.inr (.inr (1, i))), some (.inl x2), none, none, none] [] g := am_call_run (Nat.le_of_ble_eq_true rfl) rfl
set_option maxRecDepth 20000 in
theorem cV_findJoint (d : Nat) (i : Nat) (x2 : Int32) (x3 : Int32) (g : am_G) : am_call (d + 1) 61 [.inr (.inr (20, 0)), .inr (.inr (1, i)), .inl x2, .inl x3] g = am_run (am_call d) 61 (99999 + 1) 0 [some (.inr (.inr (20, 0))), some (.inr (.inr (1, i))), some (.inl x2), some (.inl x3), none, none, none, none, none, none] [] g := am_call_run (Nat.le_of_ble_eq_true rfl) rfl
set_option maxRecDepth 20000 in
theorem cT_tell (d : Nat) (x2 : Int32) (g : am_G) : am_call (d + 1) 62 [.inr (.inr (10, 0)), .inr (.inr (13, 0)), .inl x2] g = am_run (am_call d) 62 (99999 + 1) 0 [some (.inr (.inr (10, 0))), some (.inr (.inr (13, 0))), some (.inl x2), none] [] g := am_call_run (Nat.le_of_ble_eq_true rfl) rfl
set_option maxRecDepth 20000 in
theorem cT_fail (d : Nat) (x1 : Int32) (g : am_G) : am_call (d + 1) 63 [.inr (.inr (10, 0)), .inl x1] g = am_run (am_call d) 63 (99999 + 1) 0 [some (.inr (.inr (10, 0))), some (.inl x1)] [] g := am_call_run (Nat.le_of_ble_eq_true rfl) rfl
set_option maxRecDepth 20000 in
theorem cT_tellLine (d : Nat)  (g : am_G) : am_call (d + 1) 64 [.inr (.inr (10, 0))] g = am_run (am_call d) 64 (99999 + 1) 0 [some (.inr (.inr (10, 0))), none] [] g := am_call_run (Nat.le_of_ble_eq_true rfl) rfl
set_option maxRecDepth 20000 in
theorem cT_tellTown (d : Nat)  (g : am_G) : am_call (d + 1) 65 [.inr (.inr (10, 0))] g = am_run (am_call d) 65 (99999 + 1) 0 [some (.inr (.inr (10, 0))), none, none] [] g := am_call_run (Nat.le_of_ble_eq_true rfl) rfl
set_option maxRecDepth 20000 in
theorem cT_tellLink (d : Nat)  (g : am_G) : am_call (d + 1) 66 [.inr (.inr (10, 0))] g = am_run (am_call d) 66 (99999 + 1) 0 [some (.inr (.inr (10, 0))), none, none, none, none] [] g := am_call_run (Nat.le_of_ble_eq_true rfl) rfl
set_option maxRecDepth 20000 in
theorem cT_tellDeed (d : Nat) (x1 : Int32) (g : am_G) : am_call (d + 1) 67 [.inr (.inr (10, 0)), .inl x1] g = am_run (am_call d) 67 (99999 + 1) 0 [some (.inr (.inr (10, 0))), some (.inl x1), none] [] g := am_call_run (Nat.le_of_ble_eq_true rfl) rfl
set_option maxRecDepth 20000 in
theorem cT_tellSeed (d : Nat)  (g : am_G) : am_call (d + 1) 68 [.inr (.inr (10, 0))] g = am_run (am_call d) 68 (99999 + 1) 0 [some (.inr (.inr (10, 0)))] [] g := am_call_run (Nat.le_of_ble_eq_true rfl) rfl
set_option maxRecDepth 20000 in
theorem cT_isAtName (d : Nat)  (g : am_G) : am_call (d + 1) 69 [.inr (.inr (10, 0))] g = am_run (am_call d) 69 (99999 + 1) 0 [some (.inr (.inr (10, 0)))] [] g := am_call_run (Nat.le_of_ble_eq_true rfl) rfl
set_option maxRecDepth 20000 in
theorem cT_takesTown (d : Nat)  (g : am_G) : am_call (d + 1) 70 [.inr (.inr (10, 0))] g = am_run (am_call d) 70 (99999 + 1) 0 [some (.inr (.inr (10, 0)))] [] g := am_call_run (Nat.le_of_ble_eq_true rfl) rfl
set_option maxRecDepth 20000 in
theorem cT_takesNumber (d : Nat)  (g : am_G) : am_call (d + 1) 71 [.inr (.inr (10, 0))] g = am_run (am_call d) 71 (99999 + 1) 0 [some (.inr (.inr (10, 0)))] [] g := am_call_run (Nat.le_of_ble_eq_true rfl) rfl
set_option maxRecDepth 20000 in
theorem cT_takesNumberWithin (d : Nat) (x1 : Int32) (x2 : Int32) (g : am_G) : am_call (d + 1) 72 [.inr (.inr (10, 0)), .inl x1, .inl x2] g = am_run (am_call d) 72 (99999 + 1) 0 [some (.inr (.inr (10, 0))), some (.inl x1), some (.inl x2)] [] g := am_call_run (Nat.le_of_ble_eq_true rfl) rfl
set_option maxRecDepth 20000 in
theorem cT_endsLine (d : Nat)  (g : am_G) : am_call (d + 1) 73 [.inr (.inr (10, 0))] g = am_run (am_call d) 73 (99999 + 1) 0 [some (.inr (.inr (10, 0)))] [] g := am_call_run (Nat.le_of_ble_eq_true rfl) rfl
set_option maxRecDepth 20000 in
theorem cY_lay (d : Nat) (w i : Nat) (x2 : Int32) (x3 : Int32) (g : am_G) : am_call (d + 1) 74 [.inr (.inr (16, w)), .inr (.inr (1, i)), .inl x2, .inl x3] g = am_run (am_call d) 74 (99999 + 1) 0 [some (.inr (.inr (16, w))), some (.inr (.inr (1, i))), some (.inl x2), some (.inl x3), none, none, none, none, none] [] g := am_call_run (Nat.le_of_ble_eq_true rfl) rfl
set_option maxRecDepth 20000 in
theorem cY_lowerOfLink (d : Nat) (w i : Nat) (x2 : Int32) (g : am_G) : am_call (d + 1) 75 [.inr (.inr (16, w)), .inr (.inr (1, i)), .inl x2] g = am_run (am_call d) 75 (99999 + 1) 0 [some (.inr (.inr (16, w))), some (.inr (.inr (1, i))), some (.inl x2), none] [] g := am_call_run (Nat.le_of_ble_eq_true rfl) rfl
set_option maxRecDepth 20000 in
theorem cY_lengths (d : Nat) (w i : Nat) (g : am_G) : am_call (d + 1) 76 [.inr (.inr (16, w)), .inr (.inr (1, i))] g = am_run (am_call d) 76 (99999 + 1) 0 [some (.inr (.inr (16, w))), some (.inr (.inr (1, i))), none, none] [] g := am_call_run (Nat.le_of_ble_eq_true rfl) rfl
set_option maxRecDepth 20000 in
theorem cY_values (d : Nat) (w i : Nat) (g : am_G) : am_call (d + 1) 77 [.inr (.inr (16, w)), .inr (.inr (1, i))] g = am_run (am_call d) 77 (99999 + 1) 0 [some (.inr (.inr (16, w))), some (.inr (.inr (1, i))), none, none] [] g := am_call_run (Nat.le_of_ble_eq_true rfl) rfl
set_option maxRecDepth 20000 in
theorem cY_dearestLink (d : Nat) (w i : Nat) (g : am_G) : am_call (d + 1) 78 [.inr (.inr (16, w)), .inr (.inr (1, i))] g = am_run (am_call d) 78 (99999 + 1) 0 [some (.inr (.inr (16, w))), some (.inr (.inr (1, i))), none, none, none, none] [] g := am_call_run (Nat.le_of_ble_eq_true rfl) rfl
set_option maxRecDepth 20000 in
theorem cY_dearestLength (d : Nat) (w i : Nat) (g : am_G) : am_call (d + 1) 79 [.inr (.inr (16, w)), .inr (.inr (1, i))] g = am_run (am_call d) 79 (99999 + 1) 0 [some (.inr (.inr (16, w))), some (.inr (.inr (1, i))), none] [] g := am_call_run (Nat.le_of_ble_eq_true rfl) rfl
set_option maxRecDepth 20000 in
theorem cY_cutDearestLink (d : Nat) (w i : Nat) (g : am_G) : am_call (d + 1) 80 [.inr (.inr (16, w)), .inr (.inr (1, i))] g = am_run (am_call d) 80 (99999 + 1) 0 [some (.inr (.inr (16, w))), some (.inr (.inr (1, i))), none] [] g := am_call_run (Nat.le_of_ble_eq_true rfl) rfl
set_option maxRecDepth 20000 in
theorem cY_leastOf_5 (d : Nat) (w i : Nat) (g : am_G) : am_call (d + 1) 81 [.inr (.inr (16, w)), .inr (.inr (1, i)), .inr (.inr (5, i))] g = am_run (am_call d) 81 (99999 + 1) 0 [some (.inr (.inr (16, w))), some (.inr (.inr (1, i))), some (.inr (.inr (5, i))), none, none, none] [] g := am_call_run (Nat.le_of_ble_eq_true rfl) rfl
set_option maxRecDepth 20000 in
theorem cY_leastOf_4 (d : Nat) (w i : Nat) (g : am_G) : am_call (d + 1) 81 [.inr (.inr (16, w)), .inr (.inr (1, i)), .inr (.inr (4, i))] g = am_run (am_call d) 81 (99999 + 1) 0 [some (.inr (.inr (16, w))), some (.inr (.inr (1, i))), some (.inr (.inr (4, i))), none, none, none] [] g := am_call_run (Nat.le_of_ble_eq_true rfl) rfl
set_option maxRecDepth 20000 in
theorem cY_keepsWithin_4 (d : Nat) (w i : Nat) (x3 : Int32) (x4 : Int32) (g : am_G) : am_call (d + 1) 82 [.inr (.inr (16, w)), .inr (.inr (1, i)), .inr (.inr (4, i)), .inl x3, .inl x4] g = am_run (am_call d) 82 (99999 + 1) 0 [some (.inr (.inr (16, w))), some (.inr (.inr (1, i))), some (.inr (.inr (4, i))), some (.inl x3), some (.inl x4), none] [] g := am_call_run (Nat.le_of_ble_eq_true rfl) rfl
set_option maxRecDepth 20000 in
theorem cY_keepsWithin_5 (d : Nat) (w i : Nat) (x3 : Int32) (x4 : Int32) (g : am_G) : am_call (d + 1) 82 [.inr (.inr (16, w)), .inr (.inr (1, i)), .inr (.inr (5, i)), .inl x3, .inl x4] g = am_run (am_call d) 82 (99999 + 1) 0 [some (.inr (.inr (16, w))), some (.inr (.inr (1, i))), some (.inr (.inr (5, i))), some (.inl x3), some (.inl x4), none] [] g := am_call_run (Nat.le_of_ble_eq_true rfl) rfl
set_option maxRecDepth 20000 in
theorem cY_addToAll_4 (d : Nat) (w i : Nat) (x3 : Int32) (g : am_G) : am_call (d + 1) 83 [.inr (.inr (16, w)), .inr (.inr (1, i)), .inr (.inr (4, i)), .inl x3] g = am_run (am_call d) 83 (99999 + 1) 0 [some (.inr (.inr (16, w))), some (.inr (.inr (1, i))), some (.inr (.inr (4, i))), some (.inl x3), none] [] g := am_call_run (Nat.le_of_ble_eq_true rfl) rfl
set_option maxRecDepth 20000 in
theorem cY_addToAll_5 (d : Nat) (w i : Nat) (x3 : Int32) (g : am_G) : am_call (d + 1) 83 [.inr (.inr (16, w)), .inr (.inr (1, i)), .inr (.inr (5, i)), .inl x3] g = am_run (am_call d) 83 (99999 + 1) 0 [some (.inr (.inr (16, w))), some (.inr (.inr (1, i))), some (.inr (.inr (5, i))), some (.inl x3), none] [] g := am_call_run (Nat.le_of_ble_eq_true rfl) rfl
set_option maxRecDepth 20000 in
theorem cC_feed (d : Nat) (x1 : Int32) (x2 : Int32) (x3 : Int32) (x4 : Int32) (x5 : Int32) (g : am_G) : am_call (d + 1) 84 [.inr (.inr (0, 0)), .inl x1, .inl x2, .inl x3, .inl x4, .inl x5] g = am_run (am_call d) 84 (99999 + 1) 0 [some (.inr (.inr (0, 0))), some (.inl x1), some (.inl x2), some (.inl x3), some (.inl x4), some (.inl x5)] [] g := am_call_run (Nat.le_of_ble_eq_true rfl) rfl
set_option maxRecDepth 20000 in
theorem cC_text (d : Nat) (x1 : Int32) (g : am_G) : am_call (d + 1) 85 [.inr (.inr (0, 0)), .inl x1] g = am_run (am_call d) 85 (99999 + 1) 0 [some (.inr (.inr (0, 0))), some (.inl x1)] [] g := am_call_run (Nat.le_of_ble_eq_true rfl) rfl
set_option maxRecDepth 20000 in
theorem cC_fault (d : Nat) (x1 : Int32) (g : am_G) : am_call (d + 1) 86 [.inr (.inr (0, 0)), .inl x1] g = am_run (am_call d) 86 (99999 + 1) 0 [some (.inr (.inr (0, 0))), some (.inl x1)] [] g := am_call_run (Nat.le_of_ble_eq_true rfl) rfl
set_option maxRecDepth 20000 in
theorem cC_named (d : Nat) (x1 : Int32) (g : am_G) : am_call (d + 1) 87 [.inr (.inr (0, 0)), .inl x1] g = am_run (am_call d) 87 (99999 + 1) 0 [some (.inr (.inr (0, 0))), some (.inl x1)] [] g := am_call_run (Nat.le_of_ble_eq_true rfl) rfl
set_option maxRecDepth 20000 in
theorem cC_touch (d : Nat) (x1 : Int32) (g : am_G) : am_call (d + 1) 88 [.inr (.inr (0, 0)), .inl x1] g = am_run (am_call d) 88 (99999 + 1) 0 [some (.inr (.inr (0, 0))), some (.inl x1), none] [] g := am_call_run (Nat.le_of_ble_eq_true rfl) rfl
set_option maxRecDepth 20000 in
theorem cC_reroot (d : Nat) (x1 : Int32) (g : am_G) : am_call (d + 1) 89 [.inr (.inr (0, 0)), .inl x1] g = am_run (am_call d) 89 (99999 + 1) 0 [some (.inr (.inr (0, 0))), some (.inl x1), none] [] g := am_call_run (Nat.le_of_ble_eq_true rfl) rfl
set_option maxRecDepth 20000 in
theorem cC_link (d : Nat) (x1 : Int32) (x2 : Int32) (x3 : Int32) (x4 : Int32) (g : am_G) : am_call (d + 1) 90 [.inr (.inr (0, 0)), .inl x1, .inl x2, .inl x3, .inl x4] g = am_run (am_call d) 90 (99999 + 1) 0 [some (.inr (.inr (0, 0))), some (.inl x1), some (.inl x2), some (.inl x3), some (.inl x4)] [] g := am_call_run (Nat.le_of_ble_eq_true rfl) rfl
set_option maxRecDepth 20000 in
theorem cC_cut (d : Nat) (x1 : Int32) (x2 : Int32) (g : am_G) : am_call (d + 1) 91 [.inr (.inr (0, 0)), .inl x1, .inl x2] g = am_run (am_call d) 91 (99999 + 1) 0 [some (.inr (.inr (0, 0))), some (.inl x1), some (.inl x2), none, none] [] g := am_call_run (Nat.le_of_ble_eq_true rfl) rfl
set_option maxRecDepth 20000 in
theorem cC_walk (d : Nat) (x1 : Int32) (x2 : Int32) (g : am_G) : am_call (d + 1) 92 [.inr (.inr (0, 0)), .inl x1, .inl x2] g = am_run (am_call d) 92 (99999 + 1) 0 [some (.inr (.inr (0, 0))), some (.inl x1), some (.inl x2), none] [] g := am_call_run (Nat.le_of_ble_eq_true rfl) rfl
set_option maxRecDepth 20000 in
theorem cC_seen (d : Nat) (x1 : Int32) (g : am_G) : am_call (d + 1) 93 [.inr (.inr (0, 0)), .inl x1] g = am_run (am_call d) 93 (99999 + 1) 0 [some (.inr (.inr (0, 0))), some (.inl x1)] [] g := am_call_run (Nat.le_of_ble_eq_true rfl) rfl
set_option maxRecDepth 20000 in
theorem cC_meet (d : Nat) (x1 : Int32) (x2 : Int32) (g : am_G) : am_call (d + 1) 94 [.inr (.inr (0, 0)), .inl x1, .inl x2] g = am_run (am_call d) 94 (99999 + 1) 0 [some (.inr (.inr (0, 0))), some (.inl x1), some (.inl x2), none] [] g := am_call_run (Nat.le_of_ble_eq_true rfl) rfl
set_option maxRecDepth 20000 in
theorem cC_raise (d : Nat) (x1 : Int32) (x2 : Int32) (x3 : Int32) (g : am_G) : am_call (d + 1) 95 [.inr (.inr (0, 0)), .inl x1, .inl x2, .inl x3] g = am_run (am_call d) 95 (99999 + 1) 0 [some (.inr (.inr (0, 0))), some (.inl x1), some (.inl x2), some (.inl x3)] [] g := am_call_run (Nat.le_of_ble_eq_true rfl) rfl
set_option maxRecDepth 20000 in
theorem cC_cutDearest (d : Nat) (x1 : Int32) (x2 : Int32) (g : am_G) : am_call (d + 1) 96 [.inr (.inr (0, 0)), .inl x1, .inl x2] g = am_run (am_call d) 96 (99999 + 1) 0 [some (.inr (.inr (0, 0))), some (.inl x1), some (.inl x2), none] [] g := am_call_run (Nat.le_of_ble_eq_true rfl) rfl
set_option maxRecDepth 20000 in
theorem cC_send (d : Nat) (x1 : Int32) (x2 : Int32) (x3 : Int32) (g : am_G) : am_call (d + 1) 97 [.inr (.inr (0, 0)), .inl x1, .inl x2, .inl x3] g = am_run (am_call d) 97 (99999 + 1) 0 [some (.inr (.inr (0, 0))), some (.inl x1), some (.inl x2), some (.inl x3)] [] g := am_call_run (Nat.le_of_ble_eq_true rfl) rfl
set_option maxRecDepth 20000 in
theorem cC_settle (d : Nat) (x1 : Int32) (g : am_G) : am_call (d + 1) 98 [.inr (.inr (0, 0)), .inl x1] g = am_run (am_call d) 98 (99999 + 1) 0 [some (.inr (.inr (0, 0))), some (.inl x1)] [] g := am_call_run (Nat.le_of_ble_eq_true rfl) rfl
set_option maxRecDepth 20000 in
theorem cC_exchange (d : Nat) (x1 : Int32) (x2 : Int32) (x3 : Int32) (x4 : Int32) (g : am_G) : am_call (d + 1) 99 [.inr (.inr (0, 0)), .inl x1, .inl x2, .inl x3, .inl x4] g = am_run (am_call d) 99 (99999 + 1) 0 [some (.inr (.inr (0, 0))), some (.inl x1), some (.inl x2), some (.inl x3), some (.inl x4), none] [] g := am_call_run (Nat.le_of_ble_eq_true rfl) rfl
set_option maxRecDepth 20000 in
theorem cC_shed (d : Nat) (x1 : Int32) (g : am_G) : am_call (d + 1) 100 [.inr (.inr (0, 0)), .inl x1] g = am_run (am_call d) 100 (99999 + 1) 0 [some (.inr (.inr (0, 0))), some (.inl x1), none, none] [] g := am_call_run (Nat.le_of_ble_eq_true rfl) rfl
set_option maxRecDepth 20000 in
theorem cC_value (d : Nat) (x1 : Int32) (x2 : Int32) (g : am_G) : am_call (d + 1) 101 [.inr (.inr (0, 0)), .inl x1, .inl x2] g = am_run (am_call d) 101 (99999 + 1) 0 [some (.inr (.inr (0, 0))), some (.inl x1), some (.inl x2), none] [] g := am_call_run (Nat.le_of_ble_eq_true rfl) rfl
set_option maxRecDepth 20000 in
theorem cC_town (d : Nat) (x1 : Int32) (x2 : Int32) (g : am_G) : am_call (d + 1) 102 [.inr (.inr (0, 0)), .inl x1, .inl x2] g = am_run (am_call d) 102 (99999 + 1) 0 [some (.inr (.inr (0, 0))), some (.inl x1), some (.inl x2)] [] g := am_call_run (Nat.le_of_ble_eq_true rfl) rfl
set_option maxRecDepth 20000 in
theorem cC_chain (d : Nat) (x1 : Int32) (x2 : Int32) (g : am_G) : am_call (d + 1) 103 [.inr (.inr (0, 0)), .inl x1, .inl x2] g = am_run (am_call d) 103 (99999 + 1) 0 [some (.inr (.inr (0, 0))), some (.inl x1), some (.inl x2), none, none] [] g := am_call_run (Nat.le_of_ble_eq_true rfl) rfl
set_option maxRecDepth 20000 in
theorem cC_above (d : Nat) (x1 : Int32) (x2 : Int32) (g : am_G) : am_call (d + 1) 104 [.inr (.inr (0, 0)), .inl x1, .inl x2] g = am_run (am_call d) 104 (99999 + 1) 0 [some (.inr (.inr (0, 0))), some (.inl x1), some (.inl x2)] [] g := am_call_run (Nat.le_of_ble_eq_true rfl) rfl
set_option maxRecDepth 20000 in
theorem cC_along (d : Nat) (x1 : Int32) (x2 : Int32) (x3 : Int32) (g : am_G) : am_call (d + 1) 105 [.inr (.inr (0, 0)), .inl x1, .inl x2, .inl x3] g = am_run (am_call d) 105 (99999 + 1) 0 [some (.inr (.inr (0, 0))), some (.inl x1), some (.inl x2), some (.inl x3)] [] g := am_call_run (Nat.le_of_ble_eq_true rfl) rfl
set_option maxRecDepth 20000 in
theorem cC_together (d : Nat) (x1 : Int32) (x2 : Int32) (g : am_G) : am_call (d + 1) 106 [.inr (.inr (0, 0)), .inl x1, .inl x2] g = am_run (am_call d) 106 (99999 + 1) 0 [some (.inr (.inr (0, 0))), some (.inl x1), some (.inl x2)] [] g := am_call_run (Nat.le_of_ble_eq_true rfl) rfl
set_option maxRecDepth 20000 in
theorem cC_far (d : Nat) (x1 : Int32) (x2 : Int32) (g : am_G) : am_call (d + 1) 107 [.inr (.inr (0, 0)), .inl x1, .inl x2] g = am_run (am_call d) 107 (99999 + 1) 0 [some (.inr (.inr (0, 0))), some (.inl x1), some (.inl x2)] [] g := am_call_run (Nat.le_of_ble_eq_true rfl) rfl
set_option maxRecDepth 20000 in
theorem cC_meets (d : Nat) (x1 : Int32) (x2 : Int32) (g : am_G) : am_call (d + 1) 108 [.inr (.inr (0, 0)), .inl x1, .inl x2] g = am_run (am_call d) 108 (99999 + 1) 0 [some (.inr (.inr (0, 0))), some (.inl x1), some (.inl x2), none] [] g := am_call_run (Nat.le_of_ble_eq_true rfl) rfl
set_option maxRecDepth 20000 in
theorem cC_room (d : Nat) (x1 : Int32) (x2 : Int32) (g : am_G) : am_call (d + 1) 109 [.inr (.inr (0, 0)), .inl x1, .inl x2] g = am_run (am_call d) 109 (99999 + 1) 0 [some (.inr (.inr (0, 0))), some (.inl x1), some (.inl x2)] [] g := am_call_run (Nat.le_of_ble_eq_true rfl) rfl
set_option maxRecDepth 20000 in
theorem cC_order (d : Nat) (x1 : Int32) (x2 : Int32) (g : am_G) : am_call (d + 1) 110 [.inr (.inr (0, 0)), .inl x1, .inl x2] g = am_run (am_call d) 110 (99999 + 1) 0 [some (.inr (.inr (0, 0))), some (.inl x1), some (.inl x2)] [] g := am_call_run (Nat.le_of_ble_eq_true rfl) rfl
set_option maxRecDepth 20000 in
theorem cC_place (d : Nat) (x1 : Int32) (g : am_G) : am_call (d + 1) 111 [.inr (.inr (0, 0)), .inl x1] g = am_run (am_call d) 111 (99999 + 1) 0 [some (.inr (.inr (0, 0))), some (.inl x1)] [] g := am_call_run (Nat.le_of_ble_eq_true rfl) rfl
set_option maxRecDepth 20000 in
theorem cC_joint (d : Nat) (x1 : Int32) (x2 : Int32) (x3 : Int32) (g : am_G) : am_call (d + 1) 112 [.inr (.inr (0, 0)), .inl x1, .inl x2, .inl x3] g = am_run (am_call d) 112 (99999 + 1) 0 [some (.inr (.inr (0, 0))), some (.inl x1), some (.inl x2), some (.inl x3)] [] g := am_call_run (Nat.le_of_ble_eq_true rfl) rfl
set_option maxRecDepth 20000 in
theorem cC_tightest (d : Nat) (x1 : Int32) (g : am_G) : am_call (d + 1) 113 [.inr (.inr (0, 0)), .inl x1] g = am_run (am_call d) 113 (99999 + 1) 0 [some (.inr (.inr (0, 0))), some (.inl x1)] [] g := am_call_run (Nat.le_of_ble_eq_true rfl) rfl
set_option maxRecDepth 20000 in
theorem cC_heavy (d : Nat) (x1 : Int32) (g : am_G) : am_call (d + 1) 114 [.inr (.inr (0, 0)), .inl x1] g = am_run (am_call d) 114 (99999 + 1) 0 [some (.inr (.inr (0, 0))), some (.inl x1), none] [] g := am_call_run (Nat.le_of_ble_eq_true rfl) rfl
set_option maxRecDepth 20000 in
theorem cC_potential (d : Nat)  (g : am_G) : am_call (d + 1) 115 [.inr (.inr (0, 0))] g = am_run (am_call d) 115 (99999 + 1) 0 [some (.inr (.inr (0, 0)))] [] g := am_call_run (Nat.le_of_ble_eq_true rfl) rfl
set_option maxRecDepth 20000 in
theorem cC_would (d : Nat) (x1 : Int32) (g : am_G) : am_call (d + 1) 116 [.inr (.inr (0, 0)), .inl x1] g = am_run (am_call d) 116 (99999 + 1) 0 [some (.inr (.inr (0, 0))), some (.inl x1)] [] g := am_call_run (Nat.le_of_ble_eq_true rfl) rfl
set_option maxRecDepth 20000 in
theorem cC_widest (d : Nat) (x1 : Int32) (x2 : Int32) (g : am_G) : am_call (d + 1) 117 [.inr (.inr (0, 0)), .inl x1, .inl x2] g = am_run (am_call d) 117 (99999 + 1) 0 [some (.inr (.inr (0, 0))), some (.inl x1), some (.inl x2)] [] g := am_call_run (Nat.le_of_ble_eq_true rfl) rfl
set_option maxRecDepth 20000 in
theorem cC_midst (d : Nat) (x1 : Int32) (g : am_G) : am_call (d + 1) 118 [.inr (.inr (0, 0)), .inl x1] g = am_run (am_call d) 118 (99999 + 1) 0 [some (.inr (.inr (0, 0))), some (.inl x1)] [] g := am_call_run (Nat.le_of_ble_eq_true rfl) rfl
set_option maxRecDepth 20000 in
theorem cC_parts (d : Nat) (x1 : Int32) (g : am_G) : am_call (d + 1) 119 [.inr (.inr (0, 0)), .inl x1] g = am_run (am_call d) 119 (99999 + 1) 0 [some (.inr (.inr (0, 0))), some (.inl x1)] [] g := am_call_run (Nat.le_of_ble_eq_true rfl) rfl
set_option maxRecDepth 20000 in
theorem cC_dearest (d : Nat) (x1 : Int32) (g : am_G) : am_call (d + 1) 120 [.inr (.inr (0, 0)), .inl x1] g = am_run (am_call d) 120 (99999 + 1) 0 [some (.inr (.inr (0, 0))), some (.inl x1)] [] g := am_call_run (Nat.le_of_ble_eq_true rfl) rfl
set_option maxRecDepth 20000 in
theorem cC_leastFor (d : Nat) (x1 : Int32) (g : am_G) : am_call (d + 1) 121 [.inr (.inr (0, 0)), .inl x1] g = am_run (am_call d) 121 (99999 + 1) 0 [some (.inr (.inr (0, 0))), some (.inl x1), none] [] g := am_call_run (Nat.le_of_ble_eq_true rfl) rfl
set_option maxRecDepth 20000 in
theorem cC_chance (d : Nat) (x1 : Int32) (x2 : Int32) (x3 : Int32) (g : am_G) : am_call (d + 1) 122 [.inr (.inr (0, 0)), .inl x1, .inl x2, .inl x3] g = am_run (am_call d) 122 (99999 + 1) 0 [some (.inr (.inr (0, 0))), some (.inl x1), some (.inl x2), some (.inl x3), none] [] g := am_call_run (Nat.le_of_ble_eq_true rfl) rfl
set_option maxRecDepth 20000 in
theorem cC_undo (d : Nat)  (g : am_G) : am_call (d + 1) 123 [.inr (.inr (0, 0))] g = am_run (am_call d) 123 (99999 + 1) 0 [some (.inr (.inr (0, 0)))] [] g := am_call_run (Nat.le_of_ble_eq_true rfl) rfl
set_option maxRecDepth 20000 in
theorem cC_keep (d : Nat)  (g : am_G) : am_call (d + 1) 124 [.inr (.inr (0, 0))] g = am_run (am_call d) 124 (99999 + 1) 0 [some (.inr (.inr (0, 0)))] [] g := am_call_run (Nat.le_of_ble_eq_true rfl) rfl
set_option maxRecDepth 20000 in
theorem cC_back (d : Nat)  (g : am_G) : am_call (d + 1) 125 [.inr (.inr (0, 0))] g = am_run (am_call d) 125 (99999 + 1) 0 [some (.inr (.inr (0, 0)))] [] g := am_call_run (Nat.le_of_ble_eq_true rfl) rfl
set_option maxRecDepth 20000 in
theorem cC_count (d : Nat) (x1 : Int32) (g : am_G) : am_call (d + 1) 126 [.inr (.inr (0, 0)), .inl x1] g = am_run (am_call d) 126 (99999 + 1) 0 [some (.inr (.inr (0, 0))), some (.inl x1)] [] g := am_call_run (Nat.le_of_ble_eq_true rfl) rfl
set_option maxRecDepth 20000 in
theorem cC_isWithin (d : Nat) (x0 : Int32) (x1 : Int32) (x2 : Int32) (g : am_G) : am_call (d + 1) 127 [.inl x0, .inl x1, .inl x2] g = am_run (am_call d) 127 (99999 + 1) 0 [some (.inl x0), some (.inl x1), some (.inl x2)] [] g := am_call_run (Nat.le_of_ble_eq_true rfl) rfl
set_option maxRecDepth 20000 in
theorem cC_canBeLink (d : Nat) (x1 : Int32) (x2 : Int32) (x3 : Int32) (x4 : Int32) (g : am_G) : am_call (d + 1) 128 [.inr (.inr (0, 0)), .inl x1, .inl x2, .inl x3, .inl x4] g = am_run (am_call d) 128 (99999 + 1) 0 [some (.inr (.inr (0, 0))), some (.inl x1), some (.inl x2), some (.inl x3), some (.inl x4)] [] g := am_call_run (Nat.le_of_ble_eq_true rfl) rfl
set_option maxRecDepth 20000 in
theorem cC_feedNumber (d : Nat) (x1 : Int32) (g : am_G) : am_call (d + 1) 129 [.inr (.inr (0, 0)), .inl x1] g = am_run (am_call d) 129 (99999 + 1) 0 [some (.inr (.inr (0, 0))), some (.inl x1), none] [] g := am_call_run (Nat.le_of_ble_eq_true rfl) rfl
set_option maxRecDepth 20000 in
theorem cC_takeTold (d : Nat)  (g : am_G) : am_call (d + 1) 130 [.inr (.inr (0, 0))] g = am_run (am_call d) 130 (99999 + 1) 0 [some (.inr (.inr (0, 0)))] [] g := am_call_run (Nat.le_of_ble_eq_true rfl) rfl
set_option maxRecDepth 20000 in
theorem cC_factOfTown (d : Nat) (x1 : Int32) (x2 : Int32) (g : am_G) : am_call (d + 1) 131 [.inr (.inr (0, 0)), .inl x1, .inl x2] g = am_run (am_call d) 131 (99999 + 1) 0 [some (.inr (.inr (0, 0))), some (.inl x1), some (.inl x2), none] [] g := am_call_run (Nat.le_of_ble_eq_true rfl) rfl
set_option maxRecDepth 20000 in
theorem cM_thrown (d : Nat)  (g : am_G) : am_call (d + 1) 132 [.inr (.inr (29, 0))] g = am_run (am_call d) 132 (99999 + 1) 0 [some (.inr (.inr (29, 0)))] [] g := am_call_run (Nat.le_of_ble_eq_true rfl) rfl
set_option maxRecDepth 20000 in
theorem cM_feed (d : Nat) (x1 : Int32) (x2 : Int32) (x3 : Int32) (x4 : Int32) (x5 : Int32) (g : am_G) : am_call (d + 1) 133 [.inr (.inr (29, 0)), .inl x1, .inl x2, .inl x3, .inl x4, .inl x5] g = am_run (am_call d) 133 (99999 + 1) 0 [some (.inr (.inr (29, 0))), some (.inl x1), some (.inl x2), some (.inl x3), some (.inl x4), some (.inl x5), none, none] [] g := am_call_run (Nat.le_of_ble_eq_true rfl) rfl
set_option maxRecDepth 20000 in
theorem cM_isIn (d : Nat) (x0 : Int32) (x1 : Int32) (x2 : Int32) (g : am_G) : am_call (d + 1) 134 [.inl x0, .inl x1, .inl x2] g = am_run (am_call d) 134 (99999 + 1) 0 [some (.inl x0), some (.inl x1), some (.inl x2)] [] g := am_call_run (Nat.le_of_ble_eq_true rfl) rfl
set_option maxRecDepth 20000 in
theorem cM_wrong (d : Nat) (x1 : Int32) (g : am_G) : am_call (d + 1) 135 [.inr (.inr (29, 0)), .inl x1] g = am_run (am_call d) 135 (99999 + 1) 0 [some (.inr (.inr (29, 0))), some (.inl x1)] [] g := am_call_run (Nat.le_of_ble_eq_true rfl) rfl
set_option maxRecDepth 20000 in
theorem cM_wordAt (d : Nat) (x1 : Int32) (x2 : Int32) (g : am_G) : am_call (d + 1) 136 [.inr (.inr (29, 0)), .inl x1, .inl x2] g = am_run (am_call d) 136 (99999 + 1) 0 [some (.inr (.inr (29, 0))), some (.inl x1), some (.inl x2), none, none, none, none, none] [] g := am_call_run (Nat.le_of_ble_eq_true rfl) rfl
set_option maxRecDepth 20000 in
theorem cM_isSmall (d : Nat) (x1 : Int32) (g : am_G) : am_call (d + 1) 137 [.inr (.inr (29, 0)), .inl x1] g = am_run (am_call d) 137 (99999 + 1) 0 [some (.inr (.inr (29, 0))), some (.inl x1)] [] g := am_call_run (Nat.le_of_ble_eq_true rfl) rfl
set_option maxRecDepth 20000 in
theorem cM_isDigit (d : Nat) (x1 : Int32) (g : am_G) : am_call (d + 1) 138 [.inr (.inr (29, 0)), .inl x1] g = am_run (am_call d) 138 (99999 + 1) 0 [some (.inr (.inr (29, 0))), some (.inl x1)] [] g := am_call_run (Nat.le_of_ble_eq_true rfl) rfl
set_option maxRecDepth 20000 in
theorem cM_token (d : Nat)  (g : am_G) : am_call (d + 1) 139 [.inr (.inr (29, 0))] g = am_run (am_call d) 139 (99999 + 1) 0 [some (.inr (.inr (29, 0)))] [] g := am_call_run (Nat.le_of_ble_eq_true rfl) rfl
set_option maxRecDepth 20000 in
theorem cM_packed (d : Nat) (x1 : Int32) (x2 : Int32) (g : am_G) : am_call (d + 1) 140 [.inr (.inr (29, 0)), .inl x1, .inl x2] g = am_run (am_call d) 140 (99999 + 1) 0 [some (.inr (.inr (29, 0))), some (.inl x1), some (.inl x2), none, none] [] g := am_call_run (Nat.le_of_ble_eq_true rfl) rfl
set_option maxRecDepth 20000 in
theorem cM_of (d : Nat) (x1 : Int32) (g : am_G) : am_call (d + 1) 141 [.inr (.inr (29, 0)), .inl x1] g = am_run (am_call d) 141 (99999 + 1) 0 [some (.inr (.inr (29, 0))), some (.inl x1)] [] g := am_call_run (Nat.le_of_ble_eq_true rfl) rfl
set_option maxRecDepth 20000 in
theorem cM_lay (d : Nat) (x1 : Int32) (x2 : Int32) (g : am_G) : am_call (d + 1) 142 [.inr (.inr (29, 0)), .inl x1, .inl x2] g = am_run (am_call d) 142 (99999 + 1) 0 [some (.inr (.inr (29, 0))), some (.inl x1), some (.inl x2)] [] g := am_call_run (Nat.le_of_ble_eq_true rfl) rfl
set_option maxRecDepth 20000 in
theorem cM_copyBank (d : Nat) (x1 : Int32) (x2 : Int32) (g : am_G) : am_call (d + 1) 143 [.inr (.inr (29, 0)), .inl x1, .inl x2] g = am_run (am_call d) 143 (99999 + 1) 0 [some (.inr (.inr (29, 0))), some (.inl x1), some (.inl x2), none] [] g := am_call_run (Nat.le_of_ble_eq_true rfl) rfl
set_option maxRecDepth 20000 in
theorem cM_canUndo (d : Nat)  (g : am_G) : am_call (d + 1) 144 [.inr (.inr (29, 0))] g = am_run (am_call d) 144 (99999 + 1) 0 [some (.inr (.inr (29, 0))), none] [] g := am_call_run (Nat.le_of_ble_eq_true rfl) rfl
set_option maxRecDepth 20000 in
theorem cM_undo (d : Nat)  (g : am_G) : am_call (d + 1) 145 [.inr (.inr (29, 0))] g = am_run (am_call d) 145 (99999 + 1) 0 [some (.inr (.inr (29, 0)))] [] g := am_call_run (Nat.le_of_ble_eq_true rfl) rfl
set_option maxRecDepth 20000 in
theorem cM_keep (d : Nat)  (g : am_G) : am_call (d + 1) 146 [.inr (.inr (29, 0))] g = am_run (am_call d) 146 (99999 + 1) 0 [some (.inr (.inr (29, 0)))] [] g := am_call_run (Nat.le_of_ble_eq_true rfl) rfl
set_option maxRecDepth 20000 in
theorem cM_back (d : Nat)  (g : am_G) : am_call (d + 1) 147 [.inr (.inr (29, 0))] g = am_run (am_call d) 147 (99999 + 1) 0 [some (.inr (.inr (29, 0)))] [] g := am_call_run (Nat.le_of_ble_eq_true rfl) rfl
set_option maxRecDepth 20000 in
theorem cM_isTown (d : Nat) (x1 : Int32) (g : am_G) : am_call (d + 1) 148 [.inr (.inr (29, 0)), .inl x1] g = am_run (am_call d) 148 (99999 + 1) 0 [some (.inr (.inr (29, 0))), some (.inl x1)] [] g := am_call_run (Nat.le_of_ble_eq_true rfl) rfl
set_option maxRecDepth 20000 in
theorem cM_areTowns (d : Nat) (x1 : Int32) (x2 : Int32) (g : am_G) : am_call (d + 1) 149 [.inr (.inr (29, 0)), .inl x1, .inl x2] g = am_run (am_call d) 149 (99999 + 1) 0 [some (.inr (.inr (29, 0))), some (.inl x1), some (.inl x2)] [] g := am_call_run (Nat.le_of_ble_eq_true rfl) rfl
set_option maxRecDepth 20000 in
theorem cM_parent (d : Nat) (x1 : Int32) (g : am_G) : am_call (d + 1) 150 [.inr (.inr (29, 0)), .inl x1] g = am_run (am_call d) 150 (99999 + 1) 0 [some (.inr (.inr (29, 0))), some (.inl x1)] [] g := am_call_run (Nat.le_of_ble_eq_true rfl) rfl
set_option maxRecDepth 20000 in
theorem cM_prefers (d : Nat) (x1 : Int32) (g : am_G) : am_call (d + 1) 151 [.inr (.inr (29, 0)), .inl x1] g = am_run (am_call d) 151 (99999 + 1) 0 [some (.inr (.inr (29, 0))), some (.inl x1)] [] g := am_call_run (Nat.le_of_ble_eq_true rfl) rfl
set_option maxRecDepth 20000 in
theorem cM_free (d : Nat) (x1 : Int32) (g : am_G) : am_call (d + 1) 152 [.inr (.inr (29, 0)), .inl x1] g = am_run (am_call d) 152 (99999 + 1) 0 [some (.inr (.inr (29, 0))), some (.inl x1)] [] g := am_call_run (Nat.le_of_ble_eq_true rfl) rfl
set_option maxRecDepth 20000 in
theorem cM_plain (d : Nat)  (g : am_G) : am_call (d + 1) 153 [.inr (.inr (29, 0))] g = am_run (am_call d) 153 (99999 + 1) 0 [some (.inr (.inr (29, 0)))] [] g := am_call_run (Nat.le_of_ble_eq_true rfl) rfl
set_option maxRecDepth 20000 in
theorem cM_keepText (d : Nat)  (g : am_G) : am_call (d + 1) 154 [.inr (.inr (29, 0))] g = am_run (am_call d) 154 (99999 + 1) 0 [some (.inr (.inr (29, 0))), none] [] g := am_call_run (Nat.le_of_ble_eq_true rfl) rfl
set_option maxRecDepth 20000 in
theorem cM_nameAt_33 (d : Nat) (x0 : Int32) (x2 : Int32) (g : am_G) : am_call (d + 1) 155 [.inl x0, .inr (.inr (33, 0)), .inl x2] g = am_run (am_call d) 155 (99999 + 1) 0 [some (.inl x0), some (.inr (.inr (33, 0))), some (.inl x2), none] [] g := am_call_run (Nat.le_of_ble_eq_true rfl) rfl
set_option maxRecDepth 20000 in
theorem cM_nameAt_34 (d : Nat) (x0 : Int32) (x2 : Int32) (g : am_G) : am_call (d + 1) 155 [.inl x0, .inr (.inr (34, 0)), .inl x2] g = am_run (am_call d) 155 (99999 + 1) 0 [some (.inl x0), some (.inr (.inr (34, 0))), some (.inl x2), none] [] g := am_call_run (Nat.le_of_ble_eq_true rfl) rfl
set_option maxRecDepth 20000 in
theorem cM_signed (d : Nat) (x1 : Int32) (x2 : Int32) (g : am_G) : am_call (d + 1) 156 [.inr (.inr (29, 0)), .inl x1, .inl x2] g = am_run (am_call d) 156 (99999 + 1) 0 [some (.inr (.inr (29, 0))), some (.inl x1), some (.inl x2)] [] g := am_call_run (Nat.le_of_ble_eq_true rfl) rfl
set_option maxRecDepth 20000 in
theorem cM_number (d : Nat) (x1 : Int32) (x2 : Int32) (g : am_G) : am_call (d + 1) 157 [.inr (.inr (29, 0)), .inl x1, .inl x2] g = am_run (am_call d) 157 (99999 + 1) 0 [some (.inr (.inr (29, 0))), some (.inl x1), some (.inl x2)] [] g := am_call_run (Nat.le_of_ble_eq_true rfl) rfl
set_option maxRecDepth 20000 in
theorem cM_townRead (d : Nat)  (g : am_G) : am_call (d + 1) 158 [.inr (.inr (29, 0))] g = am_run (am_call d) 158 (99999 + 1) 0 [some (.inr (.inr (29, 0)))] [] g := am_call_run (Nat.le_of_ble_eq_true rfl) rfl
set_option maxRecDepth 20000 in
theorem cM_townLine (d : Nat)  (g : am_G) : am_call (d + 1) 159 [.inr (.inr (29, 0))] g = am_run (am_call d) 159 (99999 + 1) 0 [some (.inr (.inr (29, 0)))] [] g := am_call_run (Nat.le_of_ble_eq_true rfl) rfl
set_option maxRecDepth 20000 in
theorem cM_linkLine (d : Nat)  (g : am_G) : am_call (d + 1) 160 [.inr (.inr (29, 0))] g = am_run (am_call d) 160 (99999 + 1) 0 [some (.inr (.inr (29, 0))), none, none, none] [] g := am_call_run (Nat.le_of_ble_eq_true rfl) rfl
set_option maxRecDepth 20000 in
theorem cM_wordLine (d : Nat)  (g : am_G) : am_call (d + 1) 161 [.inr (.inr (29, 0))] g = am_run (am_call d) 161 (99999 + 1) 0 [some (.inr (.inr (29, 0))), none] [] g := am_call_run (Nat.le_of_ble_eq_true rfl) rfl
set_option maxRecDepth 20000 in
theorem cM_lineRead (d : Nat)  (g : am_G) : am_call (d + 1) 162 [.inr (.inr (29, 0))] g = am_run (am_call d) 162 (99999 + 1) 0 [some (.inr (.inr (29, 0))), none] [] g := am_call_run (Nat.le_of_ble_eq_true rfl) rfl
set_option maxRecDepth 20000 in
theorem cM_text (d : Nat) (x1 : Int32) (g : am_G) : am_call (d + 1) 163 [.inr (.inr (29, 0)), .inl x1] g = am_run (am_call d) 163 (99999 + 1) 0 [some (.inr (.inr (29, 0))), some (.inl x1), none, none, none] [] g := am_call_run (Nat.le_of_ble_eq_true rfl) rfl
set_option maxRecDepth 20000 in
theorem cM_fault (d : Nat) (x1 : Int32) (g : am_G) : am_call (d + 1) 164 [.inr (.inr (29, 0)), .inl x1] g = am_run (am_call d) 164 (99999 + 1) 0 [some (.inr (.inr (29, 0))), some (.inl x1)] [] g := am_call_run (Nat.le_of_ble_eq_true rfl) rfl
set_option maxRecDepth 20000 in
theorem cM_named (d : Nat) (x1 : Int32) (g : am_G) : am_call (d + 1) 165 [.inr (.inr (29, 0)), .inl x1] g = am_run (am_call d) 165 (99999 + 1) 0 [some (.inr (.inr (29, 0))), some (.inl x1)] [] g := am_call_run (Nat.le_of_ble_eq_true rfl) rfl
set_option maxRecDepth 20000 in
theorem cM_rootOf (d : Nat) (x1 : Int32) (g : am_G) : am_call (d + 1) 166 [.inr (.inr (29, 0)), .inl x1] g = am_run (am_call d) 166 (99999 + 1) 0 [some (.inr (.inr (29, 0))), some (.inl x1), none] [] g := am_call_run (Nat.le_of_ble_eq_true rfl) rfl
set_option maxRecDepth 20000 in
theorem cM_areTogether (d : Nat) (x1 : Int32) (x2 : Int32) (g : am_G) : am_call (d + 1) 167 [.inr (.inr (29, 0)), .inl x1, .inl x2] g = am_run (am_call d) 167 (99999 + 1) 0 [some (.inr (.inr (29, 0))), some (.inl x1), some (.inl x2)] [] g := am_call_run (Nat.le_of_ble_eq_true rfl) rfl
set_option maxRecDepth 20000 in
theorem cM_would1 (d : Nat) (x1 : Int32) (g : am_G) : am_call (d + 1) 168 [.inr (.inr (29, 0)), .inl x1] g = am_run (am_call d) 168 (99999 + 1) 0 [some (.inr (.inr (29, 0))), some (.inl x1), none, none] [] g := am_call_run (Nat.le_of_ble_eq_true rfl) rfl
set_option maxRecDepth 20000 in
theorem cM_touches (d : Nat) (x1 : Int32) (g : am_G) : am_call (d + 1) 169 [.inr (.inr (29, 0)), .inl x1] g = am_run (am_call d) 169 (99999 + 1) 0 [some (.inr (.inr (29, 0))), some (.inl x1), none, none] [] g := am_call_run (Nat.le_of_ble_eq_true rfl) rfl
set_option maxRecDepth 20000 in
theorem cM_reroots (d : Nat) (x1 : Int32) (g : am_G) : am_call (d + 1) 170 [.inr (.inr (29, 0)), .inl x1] g = am_run (am_call d) 170 (99999 + 1) 0 [some (.inr (.inr (29, 0))), some (.inl x1), none, none, none, none, none, none, none, none] [] g := am_call_run (Nat.le_of_ble_eq_true rfl) rfl
set_option maxRecDepth 20000 in
theorem cM_links (d : Nat) (x1 : Int32) (x2 : Int32) (x3 : Int32) (x4 : Int32) (g : am_G) : am_call (d + 1) 171 [.inr (.inr (29, 0)), .inl x1, .inl x2, .inl x3, .inl x4] g = am_run (am_call d) 171 (99999 + 1) 0 [some (.inr (.inr (29, 0))), some (.inl x1), some (.inl x2), some (.inl x3), some (.inl x4)] [] g := am_call_run (Nat.le_of_ble_eq_true rfl) rfl
set_option maxRecDepth 20000 in
theorem cM_walks (d : Nat) (x1 : Int32) (x2 : Int32) (g : am_G) : am_call (d + 1) 172 [.inr (.inr (29, 0)), .inl x1, .inl x2] g = am_run (am_call d) 172 (99999 + 1) 0 [some (.inr (.inr (29, 0))), some (.inl x1), some (.inl x2), none] [] g := am_call_run (Nat.le_of_ble_eq_true rfl) rfl
set_option maxRecDepth 20000 in
theorem cM_cuts (d : Nat) (x1 : Int32) (x2 : Int32) (g : am_G) : am_call (d + 1) 173 [.inr (.inr (29, 0)), .inl x1, .inl x2] g = am_run (am_call d) 173 (99999 + 1) 0 [some (.inr (.inr (29, 0))), some (.inl x1), some (.inl x2)] [] g := am_call_run (Nat.le_of_ble_eq_true rfl) rfl
set_option maxRecDepth 20000 in
theorem cM_dearestTo (d : Nat) (x1 : Int32) (g : am_G) : am_call (d + 1) 174 [.inr (.inr (29, 0)), .inl x1] g = am_run (am_call d) 174 (99999 + 1) 0 [some (.inr (.inr (29, 0))), some (.inl x1), none, none] [] g := am_call_run (Nat.le_of_ble_eq_true rfl) rfl
set_option maxRecDepth 20000 in
theorem cM_cutsDearest (d : Nat) (x1 : Int32) (x2 : Int32) (g : am_G) : am_call (d + 1) 175 [.inr (.inr (29, 0)), .inl x1, .inl x2] g = am_run (am_call d) 175 (99999 + 1) 0 [some (.inr (.inr (29, 0))), some (.inl x1), some (.inl x2), none, none] [] g := am_call_run (Nat.le_of_ble_eq_true rfl) rfl
set_option maxRecDepth 20000 in
theorem cM_touch (d : Nat) (x1 : Int32) (g : am_G) : am_call (d + 1) 176 [.inr (.inr (29, 0)), .inl x1] g = am_run (am_call d) 176 (99999 + 1) 0 [some (.inr (.inr (29, 0))), some (.inl x1)] [] g := am_call_run (Nat.le_of_ble_eq_true rfl) rfl
set_option maxRecDepth 20000 in
theorem cM_reroot (d : Nat) (x1 : Int32) (g : am_G) : am_call (d + 1) 177 [.inr (.inr (29, 0)), .inl x1] g = am_run (am_call d) 177 (99999 + 1) 0 [some (.inr (.inr (29, 0))), some (.inl x1)] [] g := am_call_run (Nat.le_of_ble_eq_true rfl) rfl
set_option maxRecDepth 20000 in
theorem cM_isLength (d : Nat) (x0 : Int32) (g : am_G) : am_call (d + 1) 178 [.inl x0] g = am_run (am_call d) 178 (99999 + 1) 0 [some (.inl x0)] [] g := am_call_run (Nat.le_of_ble_eq_true rfl) rfl
set_option maxRecDepth 20000 in
theorem cM_size (d : Nat) (x1 : Int32) (g : am_G) : am_call (d + 1) 179 [.inr (.inr (29, 0)), .inl x1] g = am_run (am_call d) 179 (99999 + 1) 0 [some (.inr (.inr (29, 0))), some (.inl x1), none, none] [] g := am_call_run (Nat.le_of_ble_eq_true rfl) rfl
set_option maxRecDepth 20000 in
theorem cM_isAbove (d : Nat) (x1 : Int32) (x2 : Int32) (g : am_G) : am_call (d + 1) 180 [.inr (.inr (29, 0)), .inl x1, .inl x2] g = am_run (am_call d) 180 (99999 + 1) 0 [some (.inr (.inr (29, 0))), some (.inl x1), some (.inl x2), none] [] g := am_call_run (Nat.le_of_ble_eq_true rfl) rfl
set_option maxRecDepth 20000 in
theorem cM_link (d : Nat) (x1 : Int32) (x2 : Int32) (x3 : Int32) (x4 : Int32) (g : am_G) : am_call (d + 1) 181 [.inr (.inr (29, 0)), .inl x1, .inl x2, .inl x3, .inl x4] g = am_run (am_call d) 181 (99999 + 1) 0 [some (.inr (.inr (29, 0))), some (.inl x1), some (.inl x2), some (.inl x3), some (.inl x4)] [] g := am_call_run (Nat.le_of_ble_eq_true rfl) rfl
set_option maxRecDepth 20000 in
theorem cM_cut (d : Nat) (x1 : Int32) (x2 : Int32) (g : am_G) : am_call (d + 1) 182 [.inr (.inr (29, 0)), .inl x1, .inl x2] g = am_run (am_call d) 182 (99999 + 1) 0 [some (.inr (.inr (29, 0))), some (.inl x1), some (.inl x2), none] [] g := am_call_run (Nat.le_of_ble_eq_true rfl) rfl
set_option maxRecDepth 20000 in
theorem cM_walk (d : Nat) (x1 : Int32) (x2 : Int32) (g : am_G) : am_call (d + 1) 183 [.inr (.inr (29, 0)), .inl x1, .inl x2] g = am_run (am_call d) 183 (99999 + 1) 0 [some (.inr (.inr (29, 0))), some (.inl x1), some (.inl x2), none, none] [] g := am_call_run (Nat.le_of_ble_eq_true rfl) rfl
set_option maxRecDepth 20000 in
theorem cM_seen (d : Nat) (x1 : Int32) (g : am_G) : am_call (d + 1) 184 [.inr (.inr (29, 0)), .inl x1] g = am_run (am_call d) 184 (99999 + 1) 0 [some (.inr (.inr (29, 0))), some (.inl x1)] [] g := am_call_run (Nat.le_of_ble_eq_true rfl) rfl
set_option maxRecDepth 20000 in
theorem cM_depth (d : Nat) (x1 : Int32) (g : am_G) : am_call (d + 1) 185 [.inr (.inr (29, 0)), .inl x1] g = am_run (am_call d) 185 (99999 + 1) 0 [some (.inr (.inr (29, 0))), some (.inl x1), none, none] [] g := am_call_run (Nat.le_of_ble_eq_true rfl) rfl
set_option maxRecDepth 20000 in
theorem cM_meetOf (d : Nat) (x1 : Int32) (x2 : Int32) (g : am_G) : am_call (d + 1) 186 [.inr (.inr (29, 0)), .inl x1, .inl x2] g = am_run (am_call d) 186 (99999 + 1) 0 [some (.inr (.inr (29, 0))), some (.inl x1), some (.inl x2), none] [] g := am_call_run (Nat.le_of_ble_eq_true rfl) rfl
set_option maxRecDepth 20000 in
theorem cM_meet (d : Nat) (x1 : Int32) (x2 : Int32) (g : am_G) : am_call (d + 1) 187 [.inr (.inr (29, 0)), .inl x1, .inl x2] g = am_run (am_call d) 187 (99999 + 1) 0 [some (.inr (.inr (29, 0))), some (.inl x1), some (.inl x2)] [] g := am_call_run (Nat.le_of_ble_eq_true rfl) rfl
set_option maxRecDepth 20000 in
theorem cM_raise (d : Nat) (x1 : Int32) (x2 : Int32) (x3 : Int32) (g : am_G) : am_call (d + 1) 188 [.inr (.inr (29, 0)), .inl x1, .inl x2, .inl x3] g = am_run (am_call d) 188 (99999 + 1) 0 [some (.inr (.inr (29, 0))), some (.inl x1), some (.inl x2), some (.inl x3), none, none, none] [] g := am_call_run (Nat.le_of_ble_eq_true rfl) rfl
set_option maxRecDepth 20000 in
theorem cM_send (d : Nat) (x1 : Int32) (x2 : Int32) (x3 : Int32) (g : am_G) : am_call (d + 1) 189 [.inr (.inr (29, 0)), .inl x1, .inl x2, .inl x3] g = am_run (am_call d) 189 (99999 + 1) 0 [some (.inr (.inr (29, 0))), some (.inl x1), some (.inl x2), some (.inl x3), none, none, none] [] g := am_call_run (Nat.le_of_ble_eq_true rfl) rfl
set_option maxRecDepth 20000 in
theorem cM_settles (d : Nat) (x1 : Int32) (g : am_G) : am_call (d + 1) 190 [.inr (.inr (29, 0)), .inl x1] g = am_run (am_call d) 190 (99999 + 1) 0 [some (.inr (.inr (29, 0))), some (.inl x1), none, none] [] g := am_call_run (Nat.le_of_ble_eq_true rfl) rfl
set_option maxRecDepth 20000 in
theorem cM_settle (d : Nat) (x1 : Int32) (g : am_G) : am_call (d + 1) 191 [.inr (.inr (29, 0)), .inl x1] g = am_run (am_call d) 191 (99999 + 1) 0 [some (.inr (.inr (29, 0))), some (.inl x1)] [] g := am_call_run (Nat.le_of_ble_eq_true rfl) rfl
set_option maxRecDepth 20000 in
theorem cM_cutDearest (d : Nat) (x1 : Int32) (x2 : Int32) (g : am_G) : am_call (d + 1) 192 [.inr (.inr (29, 0)), .inl x1, .inl x2] g = am_run (am_call d) 192 (99999 + 1) 0 [some (.inr (.inr (29, 0))), some (.inl x1), some (.inl x2)] [] g := am_call_run (Nat.le_of_ble_eq_true rfl) rfl
set_option maxRecDepth 20000 in
theorem cM_exchange (d : Nat) (x1 : Int32) (x2 : Int32) (x3 : Int32) (x4 : Int32) (g : am_G) : am_call (d + 1) 193 [.inr (.inr (29, 0)), .inl x1, .inl x2, .inl x3, .inl x4] g = am_run (am_call d) 193 (99999 + 1) 0 [some (.inr (.inr (29, 0))), some (.inl x1), some (.inl x2), some (.inl x3), some (.inl x4), none] [] g := am_call_run (Nat.le_of_ble_eq_true rfl) rfl
set_option maxRecDepth 20000 in
theorem cM_shed (d : Nat) (x1 : Int32) (g : am_G) : am_call (d + 1) 194 [.inr (.inr (29, 0)), .inl x1] g = am_run (am_call d) 194 (99999 + 1) 0 [some (.inr (.inr (29, 0))), some (.inl x1), none] [] g := am_call_run (Nat.le_of_ble_eq_true rfl) rfl
set_option maxRecDepth 20000 in
theorem cM_value (d : Nat) (x1 : Int32) (x2 : Int32) (g : am_G) : am_call (d + 1) 195 [.inr (.inr (29, 0)), .inl x1, .inl x2] g = am_run (am_call d) 195 (99999 + 1) 0 [some (.inr (.inr (29, 0))), some (.inl x1), some (.inl x2), none] [] g := am_call_run (Nat.le_of_ble_eq_true rfl) rfl
set_option maxRecDepth 20000 in
theorem cM_fails (d : Nat) (x1 : Int32) (g : am_G) : am_call (d + 1) 196 [.inr (.inr (29, 0)), .inl x1] g = am_run (am_call d) 196 (99999 + 1) 0 [some (.inr (.inr (29, 0))), some (.inl x1)] [] g := am_call_run (Nat.le_of_ble_eq_true rfl) rfl
set_option maxRecDepth 20000 in
theorem cM_children (d : Nat) (x1 : Int32) (g : am_G) : am_call (d + 1) 197 [.inr (.inr (29, 0)), .inl x1] g = am_run (am_call d) 197 (99999 + 1) 0 [some (.inr (.inr (29, 0))), some (.inl x1), none, none] [] g := am_call_run (Nat.le_of_ble_eq_true rfl) rfl
set_option maxRecDepth 20000 in
theorem cM_under (d : Nat) (x1 : Int32) (g : am_G) : am_call (d + 1) 198 [.inr (.inr (29, 0)), .inl x1] g = am_run (am_call d) 198 (99999 + 1) 0 [some (.inr (.inr (29, 0))), some (.inl x1), none, none] [] g := am_call_run (Nat.le_of_ble_eq_true rfl) rfl
set_option maxRecDepth 20000 in
theorem cM_town (d : Nat) (x1 : Int32) (x2 : Int32) (g : am_G) : am_call (d + 1) 199 [.inr (.inr (29, 0)), .inl x1, .inl x2] g = am_run (am_call d) 199 (99999 + 1) 0 [some (.inr (.inr (29, 0))), some (.inl x1), some (.inl x2)] [] g := am_call_run (Nat.le_of_ble_eq_true rfl) rfl
set_option maxRecDepth 20000 in
theorem cM_isHead (d : Nat) (x1 : Int32) (g : am_G) : am_call (d + 1) 200 [.inr (.inr (29, 0)), .inl x1] g = am_run (am_call d) 200 (99999 + 1) 0 [some (.inr (.inr (29, 0))), some (.inl x1)] [] g := am_call_run (Nat.le_of_ble_eq_true rfl) rfl
set_option maxRecDepth 20000 in
theorem cM_chain (d : Nat) (x1 : Int32) (x2 : Int32) (g : am_G) : am_call (d + 1) 201 [.inr (.inr (29, 0)), .inl x1, .inl x2] g = am_run (am_call d) 201 (99999 + 1) 0 [some (.inr (.inr (29, 0))), some (.inl x1), some (.inl x2), none, none, none, none, none] [] g := am_call_run (Nat.le_of_ble_eq_true rfl) rfl
set_option maxRecDepth 20000 in
theorem cM_above (d : Nat) (x1 : Int32) (x2 : Int32) (g : am_G) : am_call (d + 1) 202 [.inr (.inr (29, 0)), .inl x1, .inl x2] g = am_run (am_call d) 202 (99999 + 1) 0 [some (.inr (.inr (29, 0))), some (.inl x1), some (.inl x2), none, none] [] g := am_call_run (Nat.le_of_ble_eq_true rfl) rfl
set_option maxRecDepth 20000 in
theorem cM_along (d : Nat) (x1 : Int32) (x2 : Int32) (x3 : Int32) (g : am_G) : am_call (d + 1) 203 [.inr (.inr (29, 0)), .inl x1, .inl x2, .inl x3] g = am_run (am_call d) 203 (99999 + 1) 0 [some (.inr (.inr (29, 0))), some (.inl x1), some (.inl x2), some (.inl x3), none, none, none, none, none] [] g := am_call_run (Nat.le_of_ble_eq_true rfl) rfl
set_option maxRecDepth 20000 in
theorem cM_together (d : Nat) (x1 : Int32) (x2 : Int32) (g : am_G) : am_call (d + 1) 204 [.inr (.inr (29, 0)), .inl x1, .inl x2] g = am_run (am_call d) 204 (99999 + 1) 0 [some (.inr (.inr (29, 0))), some (.inl x1), some (.inl x2)] [] g := am_call_run (Nat.le_of_ble_eq_true rfl) rfl
set_option maxRecDepth 20000 in
theorem cM_farUp (d : Nat) (x1 : Int32) (x2 : Int32) (g : am_G) : am_call (d + 1) 205 [.inr (.inr (29, 0)), .inl x1, .inl x2] g = am_run (am_call d) 205 (99999 + 1) 0 [some (.inr (.inr (29, 0))), some (.inl x1), some (.inl x2), none, none] [] g := am_call_run (Nat.le_of_ble_eq_true rfl) rfl
set_option maxRecDepth 20000 in
theorem cM_farOf (d : Nat) (x1 : Int32) (x2 : Int32) (g : am_G) : am_call (d + 1) 206 [.inr (.inr (29, 0)), .inl x1, .inl x2] g = am_run (am_call d) 206 (99999 + 1) 0 [some (.inr (.inr (29, 0))), some (.inl x1), some (.inl x2), none] [] g := am_call_run (Nat.le_of_ble_eq_true rfl) rfl
set_option maxRecDepth 20000 in
theorem cM_far (d : Nat) (x1 : Int32) (x2 : Int32) (g : am_G) : am_call (d + 1) 207 [.inr (.inr (29, 0)), .inl x1, .inl x2] g = am_run (am_call d) 207 (99999 + 1) 0 [some (.inr (.inr (29, 0))), some (.inl x1), some (.inl x2)] [] g := am_call_run (Nat.le_of_ble_eq_true rfl) rfl
set_option maxRecDepth 20000 in
theorem cM_meets (d : Nat) (x1 : Int32) (x2 : Int32) (g : am_G) : am_call (d + 1) 208 [.inr (.inr (29, 0)), .inl x1, .inl x2] g = am_run (am_call d) 208 (99999 + 1) 0 [some (.inr (.inr (29, 0))), some (.inl x1), some (.inl x2)] [] g := am_call_run (Nat.le_of_ble_eq_true rfl) rfl
set_option maxRecDepth 20000 in
theorem cM_room (d : Nat) (x1 : Int32) (x2 : Int32) (g : am_G) : am_call (d + 1) 209 [.inr (.inr (29, 0)), .inl x1, .inl x2] g = am_run (am_call d) 209 (99999 + 1) 0 [some (.inr (.inr (29, 0))), some (.inl x1), some (.inl x2), none, none, none] [] g := am_call_run (Nat.le_of_ble_eq_true rfl) rfl
set_option maxRecDepth 20000 in
theorem cM_childBehind (d : Nat) (x1 : Int32) (x2 : Int32) (g : am_G) : am_call (d + 1) 210 [.inr (.inr (29, 0)), .inl x1, .inl x2] g = am_run (am_call d) 210 (99999 + 1) 0 [some (.inr (.inr (29, 0))), some (.inl x1), some (.inl x2), none, none] [] g := am_call_run (Nat.le_of_ble_eq_true rfl) rfl
set_option maxRecDepth 20000 in
theorem cM_behind (d : Nat) (x1 : Int32) (g : am_G) : am_call (d + 1) 211 [.inr (.inr (29, 0)), .inl x1] g = am_run (am_call d) 211 (99999 + 1) 0 [some (.inr (.inr (29, 0))), some (.inl x1), none, none, none] [] g := am_call_run (Nat.le_of_ble_eq_true rfl) rfl
set_option maxRecDepth 20000 in
theorem cM_order (d : Nat) (x1 : Int32) (x2 : Int32) (g : am_G) : am_call (d + 1) 212 [.inr (.inr (29, 0)), .inl x1, .inl x2] g = am_run (am_call d) 212 (99999 + 1) 0 [some (.inr (.inr (29, 0))), some (.inl x1), some (.inl x2), none, none] [] g := am_call_run (Nat.le_of_ble_eq_true rfl) rfl
set_option maxRecDepth 20000 in
theorem cM_place (d : Nat) (x1 : Int32) (g : am_G) : am_call (d + 1) 213 [.inr (.inr (29, 0)), .inl x1] g = am_run (am_call d) 213 (99999 + 1) 0 [some (.inr (.inr (29, 0))), some (.inl x1), none, none] [] g := am_call_run (Nat.le_of_ble_eq_true rfl) rfl
set_option maxRecDepth 20000 in
theorem cM_farthest (d : Nat) (x1 : Int32) (g : am_G) : am_call (d + 1) 214 [.inr (.inr (29, 0)), .inl x1] g = am_run (am_call d) 214 (99999 + 1) 0 [some (.inr (.inr (29, 0))), some (.inl x1), none, none] [] g := am_call_run (Nat.le_of_ble_eq_true rfl) rfl
set_option maxRecDepth 20000 in
theorem cM_widestOf (d : Nat) (x1 : Int32) (g : am_G) : am_call (d + 1) 215 [.inr (.inr (29, 0)), .inl x1] g = am_run (am_call d) 215 (99999 + 1) 0 [some (.inr (.inr (29, 0))), some (.inl x1), none, none] [] g := am_call_run (Nat.le_of_ble_eq_true rfl) rfl
set_option maxRecDepth 20000 in
theorem cM_joint (d : Nat) (x1 : Int32) (x2 : Int32) (x3 : Int32) (g : am_G) : am_call (d + 1) 216 [.inr (.inr (29, 0)), .inl x1, .inl x2, .inl x3] g = am_run (am_call d) 216 (99999 + 1) 0 [some (.inr (.inr (29, 0))), some (.inl x1), some (.inl x2), some (.inl x3), none, none, none, none, none, none, none] [] g := am_call_run (Nat.le_of_ble_eq_true rfl) rfl
set_option maxRecDepth 20000 in
theorem cM_tightest (d : Nat) (x1 : Int32) (g : am_G) : am_call (d + 1) 217 [.inr (.inr (29, 0)), .inl x1] g = am_run (am_call d) 217 (99999 + 1) 0 [some (.inr (.inr (29, 0))), some (.inl x1), none, none] [] g := am_call_run (Nat.le_of_ble_eq_true rfl) rfl
set_option maxRecDepth 20000 in
theorem cM_heavyOf (d : Nat) (x1 : Int32) (g : am_G) : am_call (d + 1) 218 [.inr (.inr (29, 0)), .inl x1] g = am_run (am_call d) 218 (99999 + 1) 0 [some (.inr (.inr (29, 0))), some (.inl x1), none] [] g := am_call_run (Nat.le_of_ble_eq_true rfl) rfl
set_option maxRecDepth 20000 in
theorem cM_heavy (d : Nat) (x1 : Int32) (g : am_G) : am_call (d + 1) 219 [.inr (.inr (29, 0)), .inl x1] g = am_run (am_call d) 219 (99999 + 1) 0 [some (.inr (.inr (29, 0))), some (.inl x1)] [] g := am_call_run (Nat.le_of_ble_eq_true rfl) rfl
set_option maxRecDepth 20000 in
theorem cM_potentialNow (d : Nat)  (g : am_G) : am_call (d + 1) 220 [.inr (.inr (29, 0))] g = am_run (am_call d) 220 (99999 + 1) 0 [some (.inr (.inr (29, 0))), none, none] [] g := am_call_run (Nat.le_of_ble_eq_true rfl) rfl
set_option maxRecDepth 20000 in
theorem cM_potential (d : Nat)  (g : am_G) : am_call (d + 1) 221 [.inr (.inr (29, 0))] g = am_run (am_call d) 221 (99999 + 1) 0 [some (.inr (.inr (29, 0)))] [] g := am_call_run (Nat.le_of_ble_eq_true rfl) rfl
set_option maxRecDepth 20000 in
theorem cM_would (d : Nat) (x1 : Int32) (g : am_G) : am_call (d + 1) 222 [.inr (.inr (29, 0)), .inl x1] g = am_run (am_call d) 222 (99999 + 1) 0 [some (.inr (.inr (29, 0))), some (.inl x1)] [] g := am_call_run (Nat.le_of_ble_eq_true rfl) rfl
set_option maxRecDepth 20000 in
theorem cM_widest (d : Nat) (x1 : Int32) (x2 : Int32) (g : am_G) : am_call (d + 1) 223 [.inr (.inr (29, 0)), .inl x1, .inl x2] g = am_run (am_call d) 223 (99999 + 1) 0 [some (.inr (.inr (29, 0))), some (.inl x1), some (.inl x2), none, none, none, none, none] [] g := am_call_run (Nat.le_of_ble_eq_true rfl) rfl
set_option maxRecDepth 20000 in
theorem cM_greatestWithout (d : Nat) (x1 : Int32) (g : am_G) : am_call (d + 1) 224 [.inr (.inr (29, 0)), .inl x1] g = am_run (am_call d) 224 (99999 + 1) 0 [some (.inr (.inr (29, 0))), some (.inl x1), none, none] [] g := am_call_run (Nat.le_of_ble_eq_true rfl) rfl
set_option maxRecDepth 20000 in
theorem cM_midst (d : Nat) (x1 : Int32) (g : am_G) : am_call (d + 1) 225 [.inr (.inr (29, 0)), .inl x1] g = am_run (am_call d) 225 (99999 + 1) 0 [some (.inr (.inr (29, 0))), some (.inl x1), none, none] [] g := am_call_run (Nat.le_of_ble_eq_true rfl) rfl
set_option maxRecDepth 20000 in
theorem cM_partsOf (d : Nat) (x1 : Int32) (g : am_G) : am_call (d + 1) 226 [.inr (.inr (29, 0)), .inl x1] g = am_run (am_call d) 226 (99999 + 1) 0 [some (.inr (.inr (29, 0))), some (.inl x1), none, none] [] g := am_call_run (Nat.le_of_ble_eq_true rfl) rfl
set_option maxRecDepth 20000 in
theorem cM_parts (d : Nat) (x1 : Int32) (g : am_G) : am_call (d + 1) 227 [.inr (.inr (29, 0)), .inl x1] g = am_run (am_call d) 227 (99999 + 1) 0 [some (.inr (.inr (29, 0))), some (.inl x1)] [] g := am_call_run (Nat.le_of_ble_eq_true rfl) rfl
set_option maxRecDepth 20000 in
theorem cM_dearest (d : Nat) (x1 : Int32) (g : am_G) : am_call (d + 1) 228 [.inr (.inr (29, 0)), .inl x1] g = am_run (am_call d) 228 (99999 + 1) 0 [some (.inr (.inr (29, 0))), some (.inl x1), none, none] [] g := am_call_run (Nat.le_of_ble_eq_true rfl) rfl
set_option maxRecDepth 20000 in
theorem cM_leastFor (d : Nat) (x1 : Int32) (g : am_G) : am_call (d + 1) 229 [.inr (.inr (29, 0)), .inl x1] g = am_run (am_call d) 229 (99999 + 1) 0 [some (.inr (.inr (29, 0))), some (.inl x1), none, none, none] [] g := am_call_run (Nat.le_of_ble_eq_true rfl) rfl
set_option maxRecDepth 20000 in
theorem cM_draw (d : Nat) (x1 : Int32) (g : am_G) : am_call (d + 1) 230 [.inr (.inr (29, 0)), .inl x1] g = am_run (am_call d) 230 (99999 + 1) 0 [some (.inr (.inr (29, 0))), some (.inl x1)] [] g := am_call_run (Nat.le_of_ble_eq_true rfl) rfl
set_option maxRecDepth 20000 in
theorem cM_byChance (d : Nat)  (g : am_G) : am_call (d + 1) 231 [.inr (.inr (29, 0))] g = am_run (am_call d) 231 (99999 + 1) 0 [some (.inr (.inr (29, 0))), none, none, none, none] [] g := am_call_run (Nat.le_of_ble_eq_true rfl) rfl
set_option maxRecDepth 20000 in
theorem cM_dearestFrom (d : Nat) (x1 : Int32) (x2 : Int32) (g : am_G) : am_call (d + 1) 232 [.inr (.inr (29, 0)), .inl x1, .inl x2] g = am_run (am_call d) 232 (99999 + 1) 0 [some (.inr (.inr (29, 0))), some (.inl x1), some (.inl x2), none, none, none, none] [] g := am_call_run (Nat.le_of_ble_eq_true rfl) rfl
set_option maxRecDepth 20000 in
theorem cM_nearer (d : Nat) (x1 : Int32) (x2 : Int32) (g : am_G) : am_call (d + 1) 233 [.inr (.inr (29, 0)), .inl x1, .inl x2] g = am_run (am_call d) 233 (99999 + 1) 0 [some (.inr (.inr (29, 0))), some (.inl x1), some (.inl x2)] [] g := am_call_run (Nat.le_of_ble_eq_true rfl) rfl
set_option maxRecDepth 20000 in
theorem cM_further (d : Nat) (x1 : Int32) (x2 : Int32) (g : am_G) : am_call (d + 1) 234 [.inr (.inr (29, 0)), .inl x1, .inl x2] g = am_run (am_call d) 234 (99999 + 1) 0 [some (.inr (.inr (29, 0))), some (.inl x1), some (.inl x2)] [] g := am_call_run (Nat.le_of_ble_eq_true rfl) rfl
set_option maxRecDepth 20000 in
theorem cM_trees (d : Nat)  (g : am_G) : am_call (d + 1) 235 [.inr (.inr (29, 0))] g = am_run (am_call d) 235 (99999 + 1) 0 [some (.inr (.inr (29, 0)))] [] g := am_call_run (Nat.le_of_ble_eq_true rfl) rfl
set_option maxRecDepth 20000 in
theorem cM_chance (d : Nat) (x1 : Int32) (x2 : Int32) (x3 : Int32) (g : am_G) : am_call (d + 1) 236 [.inr (.inr (29, 0)), .inl x1, .inl x2, .inl x3] g = am_run (am_call d) 236 (99999 + 1) 0 [some (.inr (.inr (29, 0))), some (.inl x1), some (.inl x2), some (.inl x3), none] [] g := am_call_run (Nat.le_of_ble_eq_true rfl) rfl
set_option maxRecDepth 20000 in
theorem cM_count (d : Nat) (x1 : Int32) (g : am_G) : am_call (d + 1) 237 [.inr (.inr (29, 0)), .inl x1] g = am_run (am_call d) 237 (99999 + 1) 0 [some (.inr (.inr (29, 0))), some (.inl x1), none, none] [] g := am_call_run (Nat.le_of_ble_eq_true rfl) rfl
