/-! ===== constructors: the class's own (by wip/whole/src/gen64.py) ===== -/
def ct_rm (f cn sn : Nat) : Room := { frames := f, cells := cn, slots := sn, locals := 40 * f }
def rsF (i : Nat) : List (Nat × Nat) := [(1, i), (2, i), (3, i), (4, i), (5, i), (6, i), (7, i)]
def rsN (i : Nat) : List (Nat × Nat) := [(8, i), (9, i)]
def rsY (i : Nat) : List (Nat × Nat) := [(16, i), (17, i)]
def rsR : List (Nat × Nat) := [(11, 0), (12, 0)]
def rsS : List (Nat × Nat) := [(18, 0), (19, 0)]
def rsT : List (Nat × Nat) := (10, 0) :: ((([] ++ rsR) ++ rsF 1) ++ rsN 1)
def rsB : List (Nat × Nat) := (28, 0) :: (([] ++ rsF 3) ++ rsY 1)
set_option maxRecDepth 100000 in
set_option maxHeartbeats 4000000 in
theorem ct_F (l : Launch) (D : va_G) (k : ct_K3) (i : Nat) : ct_Met l ⟨"TownForest$Forest", "<init>", "()V"⟩ prog_2_method_1_code 1 (ct_rm 1 6 144) D k (.inr (0, ct_raw 0 8)) (1, i) (rsF i) := by
  refine ct_ofW (by decide) rfl (by decide) ?_
  intro p e s m args below meth c Q ls h0 A C kret
  obtain ⟨⟨hx, hb, -, -, -⟩, -⟩ := id C
  refine ct_super C (pc := 0) (idx := 3) (pl := 96) (by decide +kernel) (by decide +kernel) (by decide +kernel) ⟨Nat.le_of_ble_eq_true rfl, Nat.le_of_ble_eq_true rfl⟩ ?_
  refine ct_arr C (pc := 4) (ln := 2) (n := 24) (N' := 24) (idx := 9) (pl := 97) (f := 0) (ci := 0) (Cn := RX0) (T := TX0) (N := 8) (by decide +kernel) (fun H locs w => lv_bipush (n := 24) hx hb (by decide +kernel) (by decide) w) (by decide +kernel) (by decide +kernel) (by decide) (by decide) (Nat.le_of_ble_eq_true rfl) (Nat.le_of_ble_eq_true rfl) (Nat.le_of_ble_eq_true rfl) rfl (Nat.le_of_ble_eq_true rfl) (by decide +kernel) (Or.inr ⟨rfl, rfl⟩) rfl (Nat.le_of_ble_eq_true rfl) (fun q1 => ?_)
  refine ct_arr C (pc := 12) (ln := 2) (n := 24) (N' := 24) (idx := 15) (pl := 101) (f := 1) (ci := 0) (Cn := RX0) (T := TX0) (N := 8) (by decide +kernel) (fun H locs w => lv_bipush (n := 24) hx hb (by decide +kernel) (by decide) w) (by decide +kernel) (by decide +kernel) (by decide) (by decide) (Nat.le_of_ble_eq_true rfl) (Nat.le_of_ble_eq_true rfl) (Nat.le_of_ble_eq_true rfl) rfl (Nat.le_of_ble_eq_true rfl) (by decide +kernel) (Or.inr ⟨rfl, rfl⟩) rfl (Nat.le_of_ble_eq_true rfl) (fun q2 => ?_)
  refine ct_arr C (pc := 20) (ln := 2) (n := 24) (N' := 24) (idx := 18) (pl := 104) (f := 2) (ci := 0) (Cn := RX0) (T := TX0) (N := 8) (by decide +kernel) (fun H locs w => lv_bipush (n := 24) hx hb (by decide +kernel) (by decide) w) (by decide +kernel) (by decide +kernel) (by decide) (by decide) (Nat.le_of_ble_eq_true rfl) (Nat.le_of_ble_eq_true rfl) (Nat.le_of_ble_eq_true rfl) rfl (Nat.le_of_ble_eq_true rfl) (by decide +kernel) (Or.inr ⟨rfl, rfl⟩) rfl (Nat.le_of_ble_eq_true rfl) (fun q3 => ?_)
  refine ct_arr C (pc := 28) (ln := 2) (n := 24) (N' := 24) (idx := 21) (pl := 109) (f := 3) (ci := 0) (Cn := RX0) (T := TX0) (N := 8) (by decide +kernel) (fun H locs w => lv_bipush (n := 24) hx hb (by decide +kernel) (by decide) w) (by decide +kernel) (by decide +kernel) (by decide) (by decide) (Nat.le_of_ble_eq_true rfl) (Nat.le_of_ble_eq_true rfl) (Nat.le_of_ble_eq_true rfl) rfl (Nat.le_of_ble_eq_true rfl) (by decide +kernel) (Or.inr ⟨rfl, rfl⟩) rfl (Nat.le_of_ble_eq_true rfl) (fun q4 => ?_)
  refine ct_arr C (pc := 36) (ln := 2) (n := 24) (N' := 24) (idx := 24) (pl := 112) (f := 4) (ci := 0) (Cn := RX0) (T := TX0) (N := 8) (by decide +kernel) (fun H locs w => lv_bipush (n := 24) hx hb (by decide +kernel) (by decide) w) (by decide +kernel) (by decide +kernel) (by decide) (by decide) (Nat.le_of_ble_eq_true rfl) (Nat.le_of_ble_eq_true rfl) (Nat.le_of_ble_eq_true rfl) rfl (Nat.le_of_ble_eq_true rfl) (by decide +kernel) (Or.inr ⟨rfl, rfl⟩) rfl (Nat.le_of_ble_eq_true rfl) (fun q5 => ?_)
  refine ct_arr C (pc := 44) (ln := 2) (n := 24) (N' := 24) (idx := 27) (pl := 115) (f := 5) (ci := 0) (Cn := RX0) (T := TX0) (N := 8) (by decide +kernel) (fun H locs w => lv_bipush (n := 24) hx hb (by decide +kernel) (by decide) w) (by decide +kernel) (by decide +kernel) (by decide) (by decide) (Nat.le_of_ble_eq_true rfl) (Nat.le_of_ble_eq_true rfl) (Nat.le_of_ble_eq_true rfl) rfl (Nat.le_of_ble_eq_true rfl) (by decide +kernel) (Or.inr ⟨rfl, rfl⟩) rfl (Nat.le_of_ble_eq_true rfl) (fun q6 => ?_)
  refine ct_int C (pc := 52) (idx := 30) (pl := 116) (f := 6) (ci := 0) (n := 0) (v := 0) (Cn := RX0) (T := TX0) (N := 8) (by decide +kernel) (by decide +kernel) (by decide) (by decide +kernel) rfl (Nat.le_of_ble_eq_true rfl) (by decide +kernel) rfl rfl rfl (Nat.le_of_ble_eq_true rfl) ?_
  refine ct_int C (pc := 57) (idx := 34) (pl := 120) (f := 7) (ci := 0) (n := 0) (v := 0) (Cn := RX0) (T := TX0) (N := 8) (by decide +kernel) (by decide +kernel) (by decide) (by decide +kernel) rfl (Nat.le_of_ble_eq_true rfl) (by decide +kernel) rfl rfl rfl (Nat.le_of_ble_eq_true rfl) ?_
  intro H locs hP hD hS
  exact kret 62 ls H locs (fun c _ => match c with | 1 => h0 | 2 => q1 | 3 => q2 | 4 => q3 | 5 => q4 | 6 => q5 | 7 => q6 | _ => 0) (by decide +kernel) rfl hP hD hS
set_option maxRecDepth 100000 in
set_option maxHeartbeats 4000000 in
theorem ct_N (l : Launch) (D : va_G) (k : ct_K3) (i : Nat) : ct_Met l ⟨"TownForest$Names", "<init>", "()V"⟩ prog_5_method_1_code 1 (ct_rm 1 1 24) D k (.inr (3, ct_raw 3 4)) (8, i) (rsN i) := by
  refine ct_ofW (by decide) rfl (by decide) ?_
  intro p e s m args below meth c Q ls h0 A C kret
  obtain ⟨⟨hx, hb, -, -, -⟩, -⟩ := id C
  refine ct_super C (pc := 0) (idx := 3) (pl := 146) (by decide +kernel) (by decide +kernel) (by decide +kernel) ⟨Nat.le_of_ble_eq_true rfl, Nat.le_of_ble_eq_true rfl⟩ ?_
  refine ct_arr C (pc := 4) (ln := 2) (n := 24) (N' := 24) (idx := 9) (pl := 147) (f := 0) (ci := 3) (Cn := RX3) (T := TX3) (N := 4) (by decide +kernel) (fun H locs w => lv_bipush (n := 24) hx hb (by decide +kernel) (by decide) w) (by decide +kernel) (by decide +kernel) (by decide) (by decide) (Nat.le_of_ble_eq_true rfl) (Nat.le_of_ble_eq_true rfl) (Nat.le_of_ble_eq_true rfl) rfl (Nat.le_of_ble_eq_true rfl) (by decide +kernel) (Or.inr ⟨rfl, rfl⟩) rfl (Nat.le_of_ble_eq_true rfl) (fun q1 => ?_)
  refine ct_int C (pc := 12) (idx := 15) (pl := 148) (f := 1) (ci := 3) (n := 0) (v := 0) (Cn := RX3) (T := TX3) (N := 4) (by decide +kernel) (by decide +kernel) (by decide) (by decide +kernel) rfl (Nat.le_of_ble_eq_true rfl) (by decide +kernel) rfl rfl rfl (Nat.le_of_ble_eq_true rfl) ?_
  refine ct_int C (pc := 17) (idx := 19) (pl := 150) (f := 2) (ci := 3) (n := 0) (v := 0) (Cn := RX3) (T := TX3) (N := 4) (by decide +kernel) (by decide +kernel) (by decide) (by decide +kernel) rfl (Nat.le_of_ble_eq_true rfl) (by decide +kernel) rfl rfl rfl (Nat.le_of_ble_eq_true rfl) ?_
  refine ct_int C (pc := 22) (idx := 22) (pl := 153) (f := 3) (ci := 3) (n := 0) (v := 0) (Cn := RX3) (T := TX3) (N := 4) (by decide +kernel) (by decide +kernel) (by decide) (by decide +kernel) rfl (Nat.le_of_ble_eq_true rfl) (by decide +kernel) rfl rfl rfl (Nat.le_of_ble_eq_true rfl) ?_
  intro H locs hP hD hS
  exact kret 27 ls H locs (fun c _ => match c with | 8 => h0 | 9 => q1 | _ => 0) (by decide +kernel) rfl hP hD hS
set_option maxRecDepth 100000 in
set_option maxHeartbeats 4000000 in
theorem ct_Y (l : Launch) (D : va_G) (k : ct_K3) (i : Nat) : ct_Met l ⟨"TownForest$Way", "<init>", "()V"⟩ prog_10_method_1_code 1 (ct_rm 1 1 24) D k (.inr (8, ct_raw 8 2)) (16, i) (rsY i) := by
  refine ct_ofW (by decide) rfl (by decide) ?_
  intro p e s m args below meth c Q ls h0 A C kret
  obtain ⟨⟨hx, hb, -, -, -⟩, -⟩ := id C
  refine ct_super C (pc := 0) (idx := 3) (pl := 270) (by decide +kernel) (by decide +kernel) (by decide +kernel) ⟨Nat.le_of_ble_eq_true rfl, Nat.le_of_ble_eq_true rfl⟩ ?_
  refine ct_arr C (pc := 4) (ln := 2) (n := 24) (N' := 24) (idx := 9) (pl := 271) (f := 0) (ci := 8) (Cn := RX8) (T := TX8) (N := 2) (by decide +kernel) (fun H locs w => lv_bipush (n := 24) hx hb (by decide +kernel) (by decide) w) (by decide +kernel) (by decide +kernel) (by decide) (by decide) (Nat.le_of_ble_eq_true rfl) (Nat.le_of_ble_eq_true rfl) (Nat.le_of_ble_eq_true rfl) rfl (Nat.le_of_ble_eq_true rfl) (by decide +kernel) (Or.inr ⟨rfl, rfl⟩) rfl (Nat.le_of_ble_eq_true rfl) (fun q1 => ?_)
  refine ct_int C (pc := 12) (idx := 15) (pl := 274) (f := 1) (ci := 8) (n := 0) (v := 0) (Cn := RX8) (T := TX8) (N := 2) (by decide +kernel) (by decide +kernel) (by decide) (by decide +kernel) rfl (Nat.le_of_ble_eq_true rfl) (by decide +kernel) rfl rfl rfl (Nat.le_of_ble_eq_true rfl) ?_
  intro H locs hP hD hS
  exact kret 17 ls H locs (fun c _ => match c with | 16 => h0 | 17 => q1 | _ => 0) (by decide +kernel) rfl hP hD hS
set_option maxRecDepth 100000 in
set_option maxHeartbeats 4000000 in
theorem ct_R (l : Launch) (D : va_G) (k : ct_K3) : ct_Met l ⟨"TownForest$Reader", "<init>", "()V"⟩ prog_6_method_1_code 1 (ct_rm 1 1 0) D k (.inr (4, ct_raw 4 7)) (11, 0) rsR := by
  refine ct_ofW (by decide) rfl (by decide) ?_
  intro p e s m args below meth c Q ls h0 A C kret
  obtain ⟨⟨hx, hb, -, -, -⟩, -⟩ := id C
  refine ct_super C (pc := 0) (idx := 3) (pl := 175) (by decide +kernel) (by decide +kernel) (by decide +kernel) ⟨Nat.le_of_ble_eq_true rfl, Nat.le_of_ble_eq_true rfl⟩ ?_
  refine ct_arr C (pc := 4) (ln := 1) (n := 0) (N' := 0) (idx := 9) (pl := 176) (f := 0) (ci := 4) (Cn := RX4) (T := TX4) (N := 7) (by decide +kernel) (fun H locs w => lv_iconst (n := 0) hx hb (by decide +kernel) (by decide) w) (by decide +kernel) (by decide +kernel) (by decide) (by decide) (Nat.le_of_ble_eq_true rfl) (Nat.le_of_ble_eq_true rfl) (Nat.le_of_ble_eq_true rfl) rfl (Nat.le_of_ble_eq_true rfl) (by decide +kernel) (Or.inl rfl) rfl (Nat.le_of_ble_eq_true rfl) (fun q1 => ?_)
  refine ct_int C (pc := 11) (idx := 15) (pl := 177) (f := 1) (ci := 4) (n := 0) (v := 0) (Cn := RX4) (T := TX4) (N := 7) (by decide +kernel) (by decide +kernel) (by decide) (by decide +kernel) rfl (Nat.le_of_ble_eq_true rfl) (by decide +kernel) rfl rfl rfl (Nat.le_of_ble_eq_true rfl) ?_
  refine ct_int C (pc := 16) (idx := 19) (pl := 178) (f := 2) (ci := 4) (n := 0) (v := 0) (Cn := RX4) (T := TX4) (N := 7) (by decide +kernel) (by decide +kernel) (by decide) (by decide +kernel) rfl (Nat.le_of_ble_eq_true rfl) (by decide +kernel) rfl rfl rfl (Nat.le_of_ble_eq_true rfl) ?_
  refine ct_int C (pc := 21) (idx := 22) (pl := 179) (f := 3) (ci := 4) (n := 0) (v := 0) (Cn := RX4) (T := TX4) (N := 7) (by decide +kernel) (by decide +kernel) (by decide) (by decide +kernel) rfl (Nat.le_of_ble_eq_true rfl) (by decide +kernel) rfl rfl rfl (Nat.le_of_ble_eq_true rfl) ?_
  refine ct_int C (pc := 26) (idx := 25) (pl := 181) (f := 4) (ci := 4) (n := 0) (v := 0) (Cn := RX4) (T := TX4) (N := 7) (by decide +kernel) (by decide +kernel) (by decide) (by decide +kernel) rfl (Nat.le_of_ble_eq_true rfl) (by decide +kernel) rfl rfl rfl (Nat.le_of_ble_eq_true rfl) ?_
  refine ct_int C (pc := 31) (idx := 28) (pl := 183) (f := 5) (ci := 4) (n := 0) (v := 0) (Cn := RX4) (T := TX4) (N := 7) (by decide +kernel) (by decide +kernel) (by decide) (by decide +kernel) rfl (Nat.le_of_ble_eq_true rfl) (by decide +kernel) rfl rfl rfl (Nat.le_of_ble_eq_true rfl) ?_
  refine ct_int C (pc := 36) (idx := 31) (pl := 185) (f := 6) (ci := 4) (n := 0) (v := 0) (Cn := RX4) (T := TX4) (N := 7) (by decide +kernel) (by decide +kernel) (by decide) (by decide +kernel) rfl (Nat.le_of_ble_eq_true rfl) (by decide +kernel) rfl rfl rfl (Nat.le_of_ble_eq_true rfl) ?_
  intro H locs hP hD hS
  exact kret 41 ls H locs (fun c _ => match c with | 11 => h0 | 12 => q1 | _ => 0) (by decide +kernel) rfl hP hD hS
set_option maxRecDepth 100000 in
set_option maxHeartbeats 4000000 in
theorem ct_S (l : Launch) (D : va_G) (k : ct_K3) : ct_Met l ⟨"TownForest$Sight", "<init>", "()V"⟩ prog_7_method_1_code 1 (ct_rm 1 1 9) D k (.inr (5, ct_raw 5 2)) (18, 0) rsS := by
  refine ct_ofW (by decide) rfl (by decide) ?_
  intro p e s m args below meth c Q ls h0 A C kret
  obtain ⟨⟨hx, hb, -, -, -⟩, -⟩ := id C
  refine ct_super C (pc := 0) (idx := 3) (pl := 255) (by decide +kernel) (by decide +kernel) (by decide +kernel) ⟨Nat.le_of_ble_eq_true rfl, Nat.le_of_ble_eq_true rfl⟩ ?_
  refine ct_arr C (pc := 4) (ln := 2) (n := 9) (N' := 9) (idx := 9) (pl := 256) (f := 0) (ci := 5) (Cn := RX5) (T := TX5) (N := 2) (by decide +kernel) (fun H locs w => lv_bipush (n := 9) hx hb (by decide +kernel) (by decide) w) (by decide +kernel) (by decide +kernel) (by decide) (by decide) (Nat.le_of_ble_eq_true rfl) (Nat.le_of_ble_eq_true rfl) (Nat.le_of_ble_eq_true rfl) rfl (Nat.le_of_ble_eq_true rfl) (by decide +kernel) (Or.inr ⟨rfl, rfl⟩) rfl (Nat.le_of_ble_eq_true rfl) (fun q1 => ?_)
  refine ct_int C (pc := 12) (idx := 15) (pl := 258) (f := 1) (ci := 5) (n := 0) (v := 0) (Cn := RX5) (T := TX5) (N := 2) (by decide +kernel) (by decide +kernel) (by decide) (by decide +kernel) rfl (Nat.le_of_ble_eq_true rfl) (by decide +kernel) rfl rfl rfl (Nat.le_of_ble_eq_true rfl) ?_
  intro H locs hP hD hS
  exact kret 17 ls H locs (fun c _ => match c with | 18 => h0 | 19 => q1 | _ => 0) (by decide +kernel) rfl hP hD hS
set_option maxRecDepth 100000 in
set_option maxHeartbeats 4000000 in
theorem ct_T (l : Launch) (D : va_G) (k : ct_K3) : ct_Met l ⟨"TownForest$Teller", "<init>", "()V"⟩ prog_9_method_1_code 1 (ct_rm 2 11 187) D k (.inr (7, ct_raw 7 6)) (10, 0) rsT := by
  refine ct_ofW (by decide) rfl (by decide) ?_
  intro p e s m args below meth c Q ls h0 A C kret
  obtain ⟨⟨hx, hb, -, -, -⟩, -⟩ := id C
  refine ct_super C (pc := 0) (idx := 3) (pl := 169) (by decide +kernel) (by decide +kernel) (by decide +kernel) ⟨Nat.le_of_ble_eq_true rfl, Nat.le_of_ble_eq_true rfl⟩ ?_
  show ct_W p l e _ s m args below meth c Q ls D A _ (_ :: am_ws [] (fun _ _ => 0) (ct_ca k) ct_g) _ _
  refine ct_obj C (pc := 4) (ik := 9) (ii := 11) (idx := 12) (pl := 206) (f := 0) (ci := 7) (p1 := 170) (p2 := 171) (p3 := 69) (p4 := 172) (p5 := 173) (p6 := 174) (Cn := RX7) (T := TX7) (N := 6) (C1 := RX4) (T1 := TX4) (ct_R l D k) rfl ⟨rfl, rfl, by decide +kernel⟩ (by decide) (by decide +kernel) (by decide +kernel) (by decide +kernel) (by decide +kernel) (by decide +kernel) (by decide +kernel) ⟨Nat.le_of_ble_eq_true rfl, Nat.le_of_ble_eq_true rfl⟩ (Nat.le_of_ble_eq_true rfl) (Nat.le_of_ble_eq_true rfl) (by decide +kernel) (by decide +kernel) (by decide +kernel) (by decide +kernel) (by decide +kernel) rfl (Nat.le_of_ble_eq_true rfl) (by decide +kernel) ⟨rfl, rfl⟩ rfl (Nat.le_of_ble_eq_true rfl) (by decide +kernel) (by decide +kernel) (by decide +kernel) (by decide +kernel) (fun q1 ad1 a1 b1 => ?_)
  refine ct_obj C (pc := 15) (ik := 18) (ii := 20) (idx := 21) (pl := 207) (f := 1) (ci := 7) (p1 := 202) (p2 := 92) (p3 := 66) (p4 := 203) (p5 := 94) (p6 := 95) (Cn := RX7) (T := TX7) (N := 6) (C1 := RX0) (T1 := TX0) (ct_F l D k 1) rfl ⟨rfl, rfl, by decide +kernel⟩ (by decide) (by decide +kernel) (by decide +kernel) (by decide +kernel) (by decide +kernel) (by decide +kernel) (by decide +kernel) ⟨Nat.le_of_ble_eq_true rfl, Nat.le_of_ble_eq_true rfl⟩ (Nat.le_of_ble_eq_true rfl) (Nat.le_of_ble_eq_true rfl) (by decide +kernel) (by decide +kernel) (by decide +kernel) (by decide +kernel) (by decide +kernel) rfl (Nat.le_of_ble_eq_true rfl) (by decide +kernel) ⟨rfl, rfl⟩ rfl (Nat.le_of_ble_eq_true rfl) (by decide +kernel) (by decide +kernel) (by decide +kernel) (by decide +kernel) (fun q2 ad2 a2 b2 => ?_)
  refine ct_obj C (pc := 26) (ik := 25) (ii := 27) (idx := 28) (pl := 209) (f := 2) (ci := 7) (p1 := 204) (p2 := 142) (p3 := 67) (p4 := 205) (p5 := 144) (p6 := 145) (Cn := RX7) (T := TX7) (N := 6) (C1 := RX3) (T1 := TX3) (ct_N l D k 1) rfl ⟨rfl, rfl, by decide +kernel⟩ (by decide) (by decide +kernel) (by decide +kernel) (by decide +kernel) (by decide +kernel) (by decide +kernel) (by decide +kernel) ⟨Nat.le_of_ble_eq_true rfl, Nat.le_of_ble_eq_true rfl⟩ (Nat.le_of_ble_eq_true rfl) (Nat.le_of_ble_eq_true rfl) (by decide +kernel) (by decide +kernel) (by decide +kernel) (by decide +kernel) (by decide +kernel) rfl (Nat.le_of_ble_eq_true rfl) (by decide +kernel) ⟨rfl, rfl⟩ rfl (Nat.le_of_ble_eq_true rfl) (by decide +kernel) (by decide +kernel) (by decide +kernel) (by decide +kernel) (fun q3 ad3 a3 b3 => ?_)
  refine ct_int C (pc := 37) (idx := 32) (pl := 211) (f := 3) (ci := 7) (n := 0) (v := 0) (Cn := RX7) (T := TX7) (N := 6) (by decide +kernel) (by decide +kernel) (by decide) (by decide +kernel) rfl (Nat.le_of_ble_eq_true rfl) (by decide +kernel) rfl rfl rfl (Nat.le_of_ble_eq_true rfl) ?_
  refine ct_int C (pc := 42) (idx := 36) (pl := 213) (f := 4) (ci := 7) (n := 0) (v := 0) (Cn := RX7) (T := TX7) (N := 6) (by decide +kernel) (by decide +kernel) (by decide) (by decide +kernel) rfl (Nat.le_of_ble_eq_true rfl) (by decide +kernel) rfl rfl rfl (Nat.le_of_ble_eq_true rfl) ?_
  refine ct_int C (pc := 47) (idx := 39) (pl := 215) (f := 5) (ci := 7) (n := (-1)) (v := (-1)) (Cn := RX7) (T := TX7) (N := 6) (by decide +kernel) (by decide +kernel) (by decide) (by decide +kernel) rfl (Nat.le_of_ble_eq_true rfl) (by decide +kernel) rfl rfl rfl (Nat.le_of_ble_eq_true rfl) ?_
  intro H locs hP hD hS
  have f1 : ad3 11 0 = q1 := (b3 (11, 0) (by decide +kernel)).trans ((b2 (11, 0) (by decide +kernel)).trans (a1))
  have f2 : ad3 1 1 = q2 := (b3 (1, 1) (by decide +kernel)).trans (a2)
  have f3 : ad3 8 1 = q3 := a3
  obtain ⟨hP1, hD1⟩ := ct_root (r0 := (10, 0)) hP hD (by decide +kernel) (by decide +kernel) ct_g4 (by
    show Sum.inr (7, [Value.ref q1, Value.ref q2, Value.ref q3, Value.int 0, Value.int 0, Value.int (-1)]) = Sum.inr (7, [Value.ref (ad3 11 0), Value.ref (ad3 1 1), Value.ref (ad3 8 1), Value.int 0, Value.int 0, Value.int (-1)])
    rw [f1, f2, f3])
  exact kret 52 ls H locs _ (by decide +kernel) rfl hP1 hD1 hS
set_option maxRecDepth 100000 in
set_option maxHeartbeats 4000000 in
theorem ct_B (l : Launch) (D : va_G) (k : ct_K3) : ct_Met l ⟨"TownForest$Gamble", "<init>", "()V"⟩ prog_3_method_1_code 1 (ct_rm 2 9 178) D k (.inr (1, ct_raw 1 3)) (28, 0) rsB := by
  refine ct_ofW (by decide) rfl (by decide) ?_
  intro p e s m args below meth c Q ls h0 A C kret
  obtain ⟨⟨hx, hb, -, -, -⟩, -⟩ := id C
  refine ct_super C (pc := 0) (idx := 1) (pl := 320) (by decide +kernel) (by decide +kernel) (by decide +kernel) ⟨Nat.le_of_ble_eq_true rfl, Nat.le_of_ble_eq_true rfl⟩ ?_
  show ct_W p l e _ s m args below meth c Q ls D A _ (_ :: am_ws [] (fun _ _ => 0) (ct_ca k) ct_g) _ _
  refine ct_obj C (pc := 4) (ik := 7) (ii := 9) (idx := 10) (pl := 325) (f := 0) (ci := 1) (p1 := 321) (p2 := 92) (p3 := 66) (p4 := 322) (p5 := 94) (p6 := 95) (Cn := RX1) (T := TX1) (N := 3) (C1 := RX0) (T1 := TX0) (ct_F l D k 3) rfl ⟨rfl, rfl, by decide +kernel⟩ (by decide) (by decide +kernel) (by decide +kernel) (by decide +kernel) (by decide +kernel) (by decide +kernel) (by decide +kernel) ⟨Nat.le_of_ble_eq_true rfl, Nat.le_of_ble_eq_true rfl⟩ (Nat.le_of_ble_eq_true rfl) (Nat.le_of_ble_eq_true rfl) (by decide +kernel) (by decide +kernel) (by decide +kernel) (by decide +kernel) (by decide +kernel) rfl (Nat.le_of_ble_eq_true rfl) (by decide +kernel) ⟨rfl, rfl⟩ rfl (Nat.le_of_ble_eq_true rfl) (by decide +kernel) (by decide +kernel) (by decide +kernel) (by decide +kernel) (fun q1 ad1 a1 b1 => ?_)
  refine ct_obj C (pc := 15) (ik := 16) (ii := 18) (idx := 19) (pl := 327) (f := 1) (ci := 1) (p1 := 323) (p2 := 266) (p3 := 72) (p4 := 324) (p5 := 268) (p6 := 269) (Cn := RX1) (T := TX1) (N := 3) (C1 := RX8) (T1 := TX8) (ct_Y l D k 1) rfl ⟨rfl, rfl, by decide +kernel⟩ (by decide) (by decide +kernel) (by decide +kernel) (by decide +kernel) (by decide +kernel) (by decide +kernel) (by decide +kernel) ⟨Nat.le_of_ble_eq_true rfl, Nat.le_of_ble_eq_true rfl⟩ (Nat.le_of_ble_eq_true rfl) (Nat.le_of_ble_eq_true rfl) (by decide +kernel) (by decide +kernel) (by decide +kernel) (by decide +kernel) (by decide +kernel) rfl (Nat.le_of_ble_eq_true rfl) (by decide +kernel) ⟨rfl, rfl⟩ rfl (Nat.le_of_ble_eq_true rfl) (by decide +kernel) (by decide +kernel) (by decide +kernel) (by decide +kernel) (fun q2 ad2 a2 b2 => ?_)
  refine ct_int C (pc := 26) (idx := 23) (pl := 328) (f := 2) (ci := 1) (n := 0) (v := 0) (Cn := RX1) (T := TX1) (N := 3) (by decide +kernel) (by decide +kernel) (by decide) (by decide +kernel) rfl (Nat.le_of_ble_eq_true rfl) (by decide +kernel) rfl rfl rfl (Nat.le_of_ble_eq_true rfl) ?_
  intro H locs hP hD hS
  have f1 : ad2 1 3 = q1 := (b2 (1, 3) (by decide +kernel)).trans (a1)
  have f2 : ad2 16 1 = q2 := a2
  obtain ⟨hP1, hD1⟩ := ct_root (r0 := (28, 0)) hP hD (by decide +kernel) (by decide +kernel) ct_g4 (by
    show Sum.inr (1, [Value.ref q1, Value.ref q2, Value.int 0]) = Sum.inr (1, [Value.ref (ad2 1 3), Value.ref (ad2 16 1), Value.int 0])
    rw [f1, f2])
  exact kret 31 ls H locs _ (by decide +kernel) rfl hP1 hD1 hS
