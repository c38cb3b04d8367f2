/-! ===== what a run from a cut is: by wip/whole/write.py ===== -/
set_option maxRecDepth 50000 in
theorem eC_feed_0 (ct : am_T) (n : Nat) (x1 : Int32) (x2 : Int32) (x3 : Int32) (x4 : Int32) (x5 : Int32) (g : am_G) : am_run ct 84 (n + 1) 0 [some (.inr (.inr (0, 0))), some (.inl x1), some (.inl x2), some (.inl x3), some (.inl x4), some (.inl x5)] [] g =
  if ((g 100 0 0) + (20 : Int32)) ≤ (700 : Int32) then
    (am_bv (ct 129 [.inr (.inr (0, 0)), .inl x1] g) (fun g1 =>
    am_bv (ct 129 [.inr (.inr (0, 0)), .inl x2] g1) (fun g2 =>
    am_bv (ct 129 [.inr (.inr (0, 0)), .inl x3] g2) (fun g3 =>
    am_bv (ct 129 [.inr (.inr (0, 0)), .inl x4] g3) (fun g4 =>
    am_bv (ct 129 [.inr (.inr (0, 0)), .inl x5] g4) (fun g5 =>
    some (some (.inl (g5 100 0 0)), g5)))))))
  else
    (some (some (.inl (-1 : Int32)), g)) := rfl
set_option maxRecDepth 50000 in
theorem eC_text_0 (ct : am_T) (n : Nat) (x1 : Int32) (g : am_G) : am_run ct 85 (n + 1) 0 [some (.inr (.inr (0, 0))), some (.inl x1)] [] g =
  if x1 < 0 then
    (some (some (.inl (-2 : Int32)), g))
  else
    (if x1 ≤ (g 100 0 0) then
      (am_bi (ct 62 [.inr (.inr (10, 0)), .inr (.inr (13, 0)), .inl x1] (am_put g 100 0 (0 : Int32))) (fun r1 g1 =>
      if r1 = 0 then
        (some (some (.inl (-1 : Int32)), g1))
      else
        (am_bv (ct 130 [.inr (.inr (0, 0))] g1) (fun g2 =>
        some (some (.inl (g2 107 0 0)), g2)))))
    else
      (some (some (.inl (-2 : Int32)), g))) := rfl
set_option maxRecDepth 50000 in
theorem eC_fault_0 (ct : am_T) (n : Nat) (x1 : Int32) (g : am_G) : am_run ct 86 (n + 1) 0 [some (.inr (.inr (0, 0))), some (.inl x1)] [] g =
  if x1 = 0 then
    (some (some (.inl (g 108 0 0)), g))
  else if x1 = 1 then
    (some (some (.inl (g 109 0 0)), g))
  else (some (some (.inl (-1 : Int32)), g)) := rfl
set_option maxRecDepth 50000 in
theorem eC_named_0 (ct : am_T) (n : Nat) (x1 : Int32) (g : am_G) : am_run ct 87 (n + 1) 0 [some (.inr (.inr (0, 0))), some (.inl x1)] [] g =
  am_bi (ct 44 [.inr (.inr (8, 0)), .inl x1] g) (fun r1 g1 =>
  some (some (.inl r1), g1)) := rfl
set_option maxRecDepth 50000 in
theorem eC_touch_0 (ct : am_T) (n : Nat) (x1 : Int32) (g : am_G) : am_run ct 88 (n + 1) 0 [some (.inr (.inr (0, 0))), some (.inl x1), none] [] g =
  am_bi (ct 3 [.inr (.inr (1, 0)), .inl x1] g) (fun r1 g1 =>
  if r1 = 0 then
    (some (some (.inl (-1 : Int32)), g1))
  else
    (am_bv (ct 39 [.inr (.inr (14, 0)), .inr (.inr (1, 0))] g1) (fun g2 =>
    am_bv (ct 5 [.inr (.inr (1, 0)), .inl x1] g2) (fun g3 =>
    some (some (.inl ((g3 103 0 0) - (g2 103 0 0))), g3))))) := rfl
set_option maxRecDepth 50000 in
theorem eC_reroot_0 (ct : am_T) (n : Nat) (x1 : Int32) (g : am_G) : am_run ct 89 (n + 1) 0 [some (.inr (.inr (0, 0))), some (.inl x1), none] [] g =
  am_bi (ct 3 [.inr (.inr (1, 0)), .inl x1] g) (fun r1 g1 =>
  if r1 = 0 then
    (some (some (.inl (-1 : Int32)), g1))
  else
    (am_bv (ct 39 [.inr (.inr (14, 0)), .inr (.inr (1, 0))] g1) (fun g2 =>
    am_bv (ct 6 [.inr (.inr (1, 0)), .inl x1] g2) (fun g3 =>
    some (some (.inl ((g3 103 0 0) - (g2 103 0 0))), g3))))) := rfl
set_option maxRecDepth 50000 in
theorem eC_link_0 (ct : am_T) (n : Nat) (x1 : Int32) (x2 : Int32) (x3 : Int32) (x4 : Int32) (g : am_G) : am_run ct 90 (n + 1) 0 [some (.inr (.inr (0, 0))), some (.inl x1), some (.inl x2), some (.inl x3), some (.inl x4)] [] g =
  am_bi (ct 128 [.inr (.inr (0, 0)), .inl x1, .inl x2, .inl x3, .inl x4] g) (fun r1 g1 =>
  if r1 = 0 then
    (some (some (.inl (-1 : Int32)), g1))
  else
    (am_bi (ct 15 [.inr (.inr (1, 0)), .inl x1, .inl x2] g1) (fun r2 g2 =>
    if r2 = 0 then
      (am_bv (ct 39 [.inr (.inr (14, 0)), .inr (.inr (1, 0))] g2) (fun g3 =>
      am_bv (ct 8 [.inr (.inr (1, 0)), .inl x1, .inl x2, .inl x3, .inl x4] g3) (fun g4 =>
      am_bi (ct 11 [.inr (.inr (1, 0)), .inl x1] g4) (fun r5 g5 =>
      am_bi (ct 23 [.inr (.inr (1, 0)), .inl r5] g5) (fun r6 g6 =>
      some (some (.inl r6), g6))))))
    else
      (some (some (.inl (-2 : Int32)), g2))))) := rfl
set_option maxRecDepth 50000 in
theorem eC_cut_0 (ct : am_T) (n : Nat) (x1 : Int32) (x2 : Int32) (g : am_G) : am_run ct 91 (n + 1) 0 [some (.inr (.inr (0, 0))), some (.inl x1), some (.inl x2), none, none] [] g =
  am_bi (ct 4 [.inr (.inr (1, 0)), .inl x1, .inl x2] g) (fun r1 g1 =>
  if r1 = 0 then
    (some (some (.inl (-1 : Int32)), g1))
  else
    (am_bi (ct 17 [.inr (.inr (1, 0)), .inl x1, .inl x2] g1) (fun r2 g2 =>
    if r2 = (-1 : Int32) then
      (some (some (.inl (-2 : Int32)), g2))
    else
      (bif am_in r2 24 then
        (am_bv (ct 39 [.inr (.inr (14, 0)), .inr (.inr (1, 0))] g2) (fun g3 =>
      am_bv (ct 9 [.inr (.inr (1, 0)), .inl x1, .inl x2] g3) (fun g4 =>
      some (some (.inl (g2 4 0 r2.toNatClampNeg)), g4))))
      else none)))) := rfl
set_option maxRecDepth 50000 in
theorem eC_walk_0 (ct : am_T) (n : Nat) (x1 : Int32) (x2 : Int32) (g : am_G) : am_run ct 92 (n + 1) 0 [some (.inr (.inr (0, 0))), some (.inl x1), some (.inl x2), none] [] g =
  am_bi (ct 4 [.inr (.inr (1, 0)), .inl x1, .inl x2] g) (fun r1 g1 =>
  if r1 = 0 then
    (some (some (.inl (-1 : Int32)), g1))
  else
    (am_bv (ct 74 [.inr (.inr (16, 0)), .inr (.inr (1, 0)), .inl x1, .inl x2] g1) (fun g2 =>
    if (g2 119 0 0) = 0 then
      (some (some (.inl (-2 : Int32)), g2))
    else
      (am_bv (ct 39 [.inr (.inr (14, 0)), .inr (.inr (1, 0))] g2) (fun g3 =>
      am_bv (ct 7 [.inr (.inr (1, 0)), .inl x1, .inl x2] g3) (fun g4 =>
      am_bv (ct 51 [.inr (.inr (18, 0)), .inr (.inr (1, 0)), .inr (.inr (16, 0)), .inl ((g4 103 0 0) - (g3 103 0 0))] g4) (fun g5 =>
      am_bi (ct 76 [.inr (.inr (16, 0)), .inr (.inr (1, 0))] g5) (fun r6 g6 =>
      some (some (.inl r6), g6))))))))) := rfl
set_option maxRecDepth 50000 in
theorem eC_seen_0 (ct : am_T) (n : Nat) (x1 : Int32) (g : am_G) : am_run ct 93 (n + 1) 0 [some (.inr (.inr (0, 0))), some (.inl x1)] [] g =
  if x1 < 0 then
    (some (some (.inl (-1 : Int32)), g))
  else
    (if x1 < (9 : Int32) then
      (if (g 120 0 0) = 0 then
        (some (some (.inl (-3 : Int32)), g))
      else
        (bif am_in x1 9 then
          (some (some (.inl (g 19 0 x1.toNatClampNeg)), g))
        else none))
    else
      (some (some (.inl (-1 : Int32)), g))) := rfl
set_option maxRecDepth 50000 in
theorem eC_meet_0 (ct : am_T) (n : Nat) (x1 : Int32) (x2 : Int32) (g : am_G) : am_run ct 94 (n + 1) 0 [some (.inr (.inr (0, 0))), some (.inl x1), some (.inl x2), none] [] g =
  am_bi (ct 4 [.inr (.inr (1, 0)), .inl x1, .inl x2] g) (fun r1 g1 =>
  if r1 = 0 then
    (some (some (.inl (-1 : Int32)), g1))
  else
    (am_bi (ct 16 [.inr (.inr (1, 0)), .inl x1, .inl x2] g1) (fun r2 g2 =>
    if r2 = (-1 : Int32) then
      (some (some (.inl (-2 : Int32)), g2))
    else
      (am_bv (ct 39 [.inr (.inr (14, 0)), .inr (.inr (1, 0))] g2) (fun g3 =>
      am_bv (ct 5 [.inr (.inr (1, 0)), .inl x1] g3) (fun g4 =>
      am_bv (ct 5 [.inr (.inr (1, 0)), .inl x2] g4) (fun g5 =>
      some (some (.inl r2), g5)))))))) := rfl
set_option maxRecDepth 50000 in
theorem eC_raise_0 (ct : am_T) (n : Nat) (x1 : Int32) (x2 : Int32) (x3 : Int32) (g : am_G) : am_run ct 95 (n + 1) 0 [some (.inr (.inr (0, 0))), some (.inl x1), some (.inl x2), some (.inl x3)] [] g =
  am_bi (ct 4 [.inr (.inr (1, 0)), .inl x1, .inl x2] g) (fun r1 g1 =>
  if r1 = 0 then
    (some (some (.inl (-1 : Int32)), g1))
  else
    (am_bi (ct 127 [.inl x3, .inl (-9999 : Int32), .inl (9999 : Int32)] g1) (fun r2 g2 =>
    if r2 = 0 then
      (some (some (.inl (-1 : Int32)), g2))
    else
      (am_bv (ct 74 [.inr (.inr (16, 0)), .inr (.inr (1, 0)), .inl x1, .inl x2] g2) (fun g3 =>
      if (g3 119 0 0) = 0 then
        (some (some (.inl (-2 : Int32)), g3))
      else
        (am_bi (ct 82 [.inr (.inr (16, 0)), .inr (.inr (1, 0)), .inr (.inr (4, 0)), .inl x3, .inl (1 : Int32)] g3) (fun r4 g4 =>
        if r4 = 0 then
          (some (some (.inl (-3 : Int32)), g4))
        else
          (am_bv (ct 39 [.inr (.inr (14, 0)), .inr (.inr (1, 0))] g4) (fun g5 =>
          am_bv (ct 7 [.inr (.inr (1, 0)), .inl x1, .inl x2] g5) (fun g6 =>
          am_bv (ct 83 [.inr (.inr (16, 0)), .inr (.inr (1, 0)), .inr (.inr (4, 0)), .inl x3] g6) (fun g7 =>
          some (some (.inl ((g7 119 0 0) - (1 : Int32))), g7)))))))))))) := rfl
set_option maxRecDepth 50000 in
theorem eC_cutDearest_0 (ct : am_T) (n : Nat) (x1 : Int32) (x2 : Int32) (g : am_G) : am_run ct 96 (n + 1) 0 [some (.inr (.inr (0, 0))), some (.inl x1), some (.inl x2), none] [] g =
  am_bi (ct 4 [.inr (.inr (1, 0)), .inl x1, .inl x2] g) (fun r1 g1 =>
  if r1 = 0 then
    (some (some (.inl (-1 : Int32)), g1))
  else
    (am_bv (ct 74 [.inr (.inr (16, 0)), .inr (.inr (1, 0)), .inl x1, .inl x2] g1) (fun g2 =>
    if (2 : Int32) ≤ (g2 119 0 0) then
      (am_bi (ct 79 [.inr (.inr (16, 0)), .inr (.inr (1, 0))] g2) (fun r3 g3 =>
      am_bv (ct 39 [.inr (.inr (14, 0)), .inr (.inr (1, 0))] g3) (fun g4 =>
      am_bv (ct 7 [.inr (.inr (1, 0)), .inl x1, .inl x2] g4) (fun g5 =>
      am_bv (ct 80 [.inr (.inr (16, 0)), .inr (.inr (1, 0))] g5) (fun g6 =>
      some (some (.inl r3), g6))))))
    else
      (some (some (.inl (-2 : Int32)), g2))))) := rfl
set_option maxRecDepth 50000 in
theorem eC_send_0 (ct : am_T) (n : Nat) (x1 : Int32) (x2 : Int32) (x3 : Int32) (g : am_G) : am_run ct 97 (n + 1) 0 [some (.inr (.inr (0, 0))), some (.inl x1), some (.inl x2), some (.inl x3)] [] g =
  am_bi (ct 4 [.inr (.inr (1, 0)), .inl x1, .inl x2] g) (fun r1 g1 =>
  if r1 = 0 then
    (some (some (.inl (-1 : Int32)), g1))
  else
    (am_bi (ct 127 [.inl x3, .inl (-9999 : Int32), .inl (9999 : Int32)] g1) (fun r2 g2 =>
    if r2 = 0 then
      (some (some (.inl (-1 : Int32)), g2))
    else
      (am_bv (ct 74 [.inr (.inr (16, 0)), .inr (.inr (1, 0)), .inl x1, .inl x2] g2) (fun g3 =>
      if (g3 119 0 0) = 0 then
        (some (some (.inl (-2 : Int32)), g3))
      else
        (am_bi (ct 82 [.inr (.inr (16, 0)), .inr (.inr (1, 0)), .inr (.inr (5, 0)), .inl (-x3), .inl (0 : Int32)] g3) (fun r4 g4 =>
        if r4 = 0 then
          (some (some (.inl (-3 : Int32)), g4))
        else
          (am_bv (ct 39 [.inr (.inr (14, 0)), .inr (.inr (1, 0))] g4) (fun g5 =>
          am_bv (ct 7 [.inr (.inr (1, 0)), .inl x1, .inl x2] g5) (fun g6 =>
          am_bv (ct 83 [.inr (.inr (16, 0)), .inr (.inr (1, 0)), .inr (.inr (5, 0)), .inl (-x3)] g6) (fun g7 =>
          some (some (.inl ((g7 119 0 0) - (1 : Int32))), g7)))))))))))) := rfl
set_option maxRecDepth 50000 in
theorem eC_settle_0 (ct : am_T) (n : Nat) (x1 : Int32) (g : am_G) : am_run ct 98 (n + 1) 0 [some (.inr (.inr (0, 0))), some (.inl x1)] [] g =
  am_bi (ct 3 [.inr (.inr (1, 0)), .inl x1] g) (fun r1 g1 =>
  if r1 = 0 then
    (some (some (.inl (-1 : Int32)), g1))
  else
    (am_bv (ct 39 [.inr (.inr (14, 0)), .inr (.inr (1, 0))] g1) (fun g2 =>
    am_bi (ct 10 [.inr (.inr (1, 0)), .inl x1] g2) (fun r3 g3 =>
    some (some (.inl r3), g3))))) := rfl
set_option maxRecDepth 50000 in
theorem eC_exchange_0 (ct : am_T) (n : Nat) (x1 : Int32) (x2 : Int32) (x3 : Int32) (x4 : Int32) (g : am_G) : am_run ct 99 (n + 1) 0 [some (.inr (.inr (0, 0))), some (.inl x1), some (.inl x2), some (.inl x3), some (.inl x4), none] [] g =
  am_bi (ct 128 [.inr (.inr (0, 0)), .inl x1, .inl x2, .inl x3, .inl x4] g) (fun r1 g1 =>
  if r1 = 0 then
    (some (some (.inl (-1 : Int32)), g1))
  else
    (am_bv (ct 74 [.inr (.inr (16, 0)), .inr (.inr (1, 0)), .inl x1, .inl x2] g1) (fun g2 =>
    if (g2 119 0 0) = (1 : Int32) then
      (some (some (.inl (-2 : Int32)), g2))
    else
      (if (g2 119 0 0) ≤ (1 : Int32) then
        (am_bv (ct 39 [.inr (.inr (14, 0)), .inr (.inr (1, 0))] g2) (fun g3 =>
        if (g3 119 0 0) ≤ (1 : Int32) then
          (am_bv (ct 8 [.inr (.inr (1, 0)), .inl x1, .inl x2, .inl x3, .inl x4] g3) (fun g4 =>
          some (some (.inl (0 : Int32)), g4)))
        else
          (am_bi (ct 79 [.inr (.inr (16, 0)), .inr (.inr (1, 0))] g3) (fun r5 g5 =>
          am_bv (ct 7 [.inr (.inr (1, 0)), .inl x1, .inl x2] g5) (fun g6 =>
          am_bv (ct 80 [.inr (.inr (16, 0)), .inr (.inr (1, 0))] g6) (fun g7 =>
          am_bv (ct 8 [.inr (.inr (1, 0)), .inl x1, .inl x2, .inl x3, .inl x4] g7) (fun g8 =>
          some (some (.inl r5), g8))))))))
      else
        (am_bi (ct 79 [.inr (.inr (16, 0)), .inr (.inr (1, 0))] g2) (fun r9 g9 =>
        if x3 < r9 then
          (am_bv (ct 39 [.inr (.inr (14, 0)), .inr (.inr (1, 0))] g9) (fun g10 =>
          if (g10 119 0 0) ≤ (1 : Int32) then
            (am_bv (ct 8 [.inr (.inr (1, 0)), .inl x1, .inl x2, .inl x3, .inl x4] g10) (fun g11 =>
            some (some (.inl (0 : Int32)), g11)))
          else
            (am_bi (ct 79 [.inr (.inr (16, 0)), .inr (.inr (1, 0))] g10) (fun r12 g12 =>
            am_bv (ct 7 [.inr (.inr (1, 0)), .inl x1, .inl x2] g12) (fun g13 =>
            am_bv (ct 80 [.inr (.inr (16, 0)), .inr (.inr (1, 0))] g13) (fun g14 =>
            am_bv (ct 8 [.inr (.inr (1, 0)), .inl x1, .inl x2, .inl x3, .inl x4] g14) (fun g15 =>
            some (some (.inl r12), g15))))))))
        else
          (some (some (.inl (-2 : Int32)), g9)))))))) := rfl
set_option maxRecDepth 50000 in
theorem eC_shed_0 (ct : am_T) (n : Nat) (x1 : Int32) (g : am_G) : am_run ct 100 (n + 1) 0 [some (.inr (.inr (0, 0))), some (.inl x1), none, none] [] g =
  am_bi (ct 3 [.inr (.inr (1, 0)), .inl x1] g) (fun r1 g1 =>
  if r1 = 0 then
    (some (some (.inl (-1 : Int32)), g1))
  else
    (bif am_in x1 24 then
      (if (g1 2 0 x1.toNatClampNeg) = (-1 : Int32) then
      (some (some (.inl (-2 : Int32)), g1))
    else
      (bif am_in x1 24 then
        (am_bv (ct 39 [.inr (.inr (14, 0)), .inr (.inr (1, 0))] g1) (fun g2 =>
      am_bv (ct 9 [.inr (.inr (1, 0)), .inl (g1 2 0 x1.toNatClampNeg), .inl x1] g2) (fun g3 =>
      some (some (.inl (g1 4 0 x1.toNatClampNeg)), g3))))
      else none))
    else none)) := rfl
set_option maxRecDepth 50000 in
theorem eC_value_0 (ct : am_T) (n : Nat) (x1 : Int32) (x2 : Int32) (g : am_G) : am_run ct 101 (n + 1) 0 [some (.inr (.inr (0, 0))), some (.inl x1), some (.inl x2), none] [] g =
  am_bi (ct 3 [.inr (.inr (1, 0)), .inl x1] g) (fun r1 g1 =>
  if r1 = 0 then
    (some (some (.inl (-20000 : Int32)), g1))
  else
    (am_bi (ct 127 [.inl x2, .inl (-9999 : Int32), .inl (9999 : Int32)] g1) (fun r2 g2 =>
    if r2 = 0 then
      (some (some (.inl (-20000 : Int32)), g2))
    else
      (am_bv (ct 39 [.inr (.inr (14, 0)), .inr (.inr (1, 0))] g2) (fun g3 =>
      bif am_in x1 24 then
        (bif am_in x1 24 then
        (some (some (.inl (g3 6 0 x1.toNatClampNeg)), am_sto g3 6 0 x1.toNatClampNeg x2))
      else none)
      else none))))) := rfl
set_option maxRecDepth 50000 in
theorem eC_town_0 (ct : am_T) (n : Nat) (x1 : Int32) (x2 : Int32) (g : am_G) : am_run ct 102 (n + 1) 0 [some (.inr (.inr (0, 0))), some (.inl x1), some (.inl x2)] [] g =
  am_bi (ct 3 [.inr (.inr (1, 0)), .inl x1] g) (fun r1 g1 =>
  if r1 = 0 then
    (none)
  else
    (if x2 < 0 then
      (none)
    else
      (if x2 < (10 : Int32) then
        (am_bi (ct 131 [.inr (.inr (0, 0)), .inl x1, .inl x2] g1) (fun r2 g2 =>
        some (some (.inl r2), g2)))
      else
        (none)))) := rfl
set_option maxRecDepth 50000 in
theorem eC_chain_0 (ct : am_T) (n : Nat) (x1 : Int32) (x2 : Int32) (g : am_G) : am_run ct 103 (n + 1) 0 [some (.inr (.inr (0, 0))), some (.inl x1), some (.inl x2), none, none] [] g =
  am_bi (ct 3 [.inr (.inr (1, 0)), .inl x1] g) (fun r1 g1 =>
  if r1 = 0 then
    (some (some (.inl (-1 : Int32)), g1))
  else
    (if x2 < 0 then
      (some (some (.inl (-1 : Int32)), g1))
    else
      (if x2 < (5 : Int32) then
        (am_bi (ct 18 [.inr (.inr (1, 0)), .inl x1] g1) (fun r2 g2 =>
        am_bi (ct 19 [.inr (.inr (1, 0)), .inl x1] g2) (fun r3 g3 =>
        if x2 = 0 then
          (some (some (.inl r2), g3))
        else if x2 = 1 then
          (some (some (.inl r3), g3))
        else if x2 = 2 then
          (am_bi (ct 12 [.inr (.inr (1, 0)), .inl r3] g3) (fun r4 g4 =>
          am_bi (ct 12 [.inr (.inr (1, 0)), .inl r2] g4) (fun r5 g5 =>
          some (some (.inl ((r4 - r5) + (1 : Int32))), g5))))
        else if x2 = 3 then
          (am_bi (ct 12 [.inr (.inr (1, 0)), .inl x1] g3) (fun r6 g6 =>
          am_bi (ct 12 [.inr (.inr (1, 0)), .inl r2] g6) (fun r7 g7 =>
          some (some (.inl (r6 - r7)), g7))))
        else (am_bv (ct 74 [.inr (.inr (16, 0)), .inr (.inr (1, 0)), .inl r2, .inl r3] g3) (fun g8 =>
          am_bi (ct 76 [.inr (.inr (16, 0)), .inr (.inr (1, 0))] g8) (fun r9 g9 =>
          some (some (.inl r9), g9)))))))
      else
        (some (some (.inl (-1 : Int32)), g1))))) := rfl
set_option maxRecDepth 50000 in
theorem eC_above_0 (ct : am_T) (n : Nat) (x1 : Int32) (x2 : Int32) (g : am_G) : am_run ct 104 (n + 1) 0 [some (.inr (.inr (0, 0))), some (.inl x1), some (.inl x2)] [] g =
  am_bi (ct 3 [.inr (.inr (1, 0)), .inl x1] g) (fun r1 g1 =>
  if r1 = 0 then
    (some (some (.inl (-1 : Int32)), g1))
  else
    (if 0 ≤ x2 then
      (am_bi (ct 12 [.inr (.inr (1, 0)), .inl x1] g1) (fun r2 g2 =>
      if x2 ≤ r2 then
        (am_bi (ct 13 [.inr (.inr (1, 0)), .inl x1, .inl x2] g2) (fun r3 g3 =>
        some (some (.inl r3), g3)))
      else
        (some (some (.inl (-2 : Int32)), g2))))
    else
      (some (some (.inl (-1 : Int32)), g1)))) := rfl
set_option maxRecDepth 50000 in
theorem eC_along_0 (ct : am_T) (n : Nat) (x1 : Int32) (x2 : Int32) (x3 : Int32) (g : am_G) : am_run ct 105 (n + 1) 0 [some (.inr (.inr (0, 0))), some (.inl x1), some (.inl x2), some (.inl x3)] [] g =
  am_bi (ct 4 [.inr (.inr (1, 0)), .inl x1, .inl x2] g) (fun r1 g1 =>
  if r1 = 0 then
    (some (some (.inl (-1 : Int32)), g1))
  else
    (if 0 ≤ x3 then
      (am_bv (ct 74 [.inr (.inr (16, 0)), .inr (.inr (1, 0)), .inl x1, .inl x2] g1) (fun g2 =>
      if (g2 119 0 0) ≤ x3 then
        (some (some (.inl (-2 : Int32)), g2))
      else
        (bif am_in x3 24 then
          (some (some (.inl (g2 17 0 x3.toNatClampNeg)), g2))
        else none)))
    else
      (some (some (.inl (-1 : Int32)), g1)))) := rfl
set_option maxRecDepth 50000 in
theorem eC_together_0 (ct : am_T) (n : Nat) (x1 : Int32) (x2 : Int32) (g : am_G) : am_run ct 106 (n + 1) 0 [some (.inr (.inr (0, 0))), some (.inl x1), some (.inl x2)] [] g =
  am_bi (ct 4 [.inr (.inr (1, 0)), .inl x1, .inl x2] g) (fun r1 g1 =>
  if r1 = 0 then
    (some (some (.inl (-1 : Int32)), g1))
  else
    (am_bi (ct 15 [.inr (.inr (1, 0)), .inl x1, .inl x2] g1) (fun r2 g2 =>
    if r2 = 0 then
      (some (some (.inl (0 : Int32)), g2))
    else
      (some (some (.inl (1 : Int32)), g2))))) := rfl
set_option maxRecDepth 50000 in
theorem eC_far_0 (ct : am_T) (n : Nat) (x1 : Int32) (x2 : Int32) (g : am_G) : am_run ct 107 (n + 1) 0 [some (.inr (.inr (0, 0))), some (.inl x1), some (.inl x2)] [] g =
  am_bi (ct 4 [.inr (.inr (1, 0)), .inl x1, .inl x2] g) (fun r1 g1 =>
  if r1 = 0 then
    (some (some (.inl (-1 : Int32)), g1))
  else
    (am_bv (ct 74 [.inr (.inr (16, 0)), .inr (.inr (1, 0)), .inl x1, .inl x2] g1) (fun g2 =>
    if (g2 119 0 0) = 0 then
      (some (some (.inl (-2 : Int32)), g2))
    else
      (am_bi (ct 76 [.inr (.inr (16, 0)), .inr (.inr (1, 0))] g2) (fun r3 g3 =>
      some (some (.inl r3), g3)))))) := rfl
set_option maxRecDepth 50000 in
theorem eC_meets_0 (ct : am_T) (n : Nat) (x1 : Int32) (x2 : Int32) (g : am_G) : am_run ct 108 (n + 1) 0 [some (.inr (.inr (0, 0))), some (.inl x1), some (.inl x2), none] [] g =
  am_bi (ct 4 [.inr (.inr (1, 0)), .inl x1, .inl x2] g) (fun r1 g1 =>
  if r1 = 0 then
    (some (some (.inl (-1 : Int32)), g1))
  else
    (am_bi (ct 16 [.inr (.inr (1, 0)), .inl x1, .inl x2] g1) (fun r2 g2 =>
    if r2 = (-1 : Int32) then
      (some (some (.inl (-2 : Int32)), g2))
    else
      (some (some (.inl r2), g2))))) := rfl
set_option maxRecDepth 50000 in
theorem eC_room_0 (ct : am_T) (n : Nat) (x1 : Int32) (x2 : Int32) (g : am_G) : am_run ct 109 (n + 1) 0 [some (.inr (.inr (0, 0))), some (.inl x1), some (.inl x2)] [] g =
  am_bi (ct 4 [.inr (.inr (1, 0)), .inl x1, .inl x2] g) (fun r1 g1 =>
  if r1 = 0 then
    (some (some (.inl (-1 : Int32)), g1))
  else
    (am_bv (ct 74 [.inr (.inr (16, 0)), .inr (.inr (1, 0)), .inl x1, .inl x2] g1) (fun g2 =>
    am_bi (ct 81 [.inr (.inr (16, 0)), .inr (.inr (1, 0)), .inr (.inr (5, 0))] g2) (fun r3 g3 =>
    some (some (.inl r3), g3))))) := rfl
set_option maxRecDepth 50000 in
theorem eC_order_0 (ct : am_T) (n : Nat) (x1 : Int32) (x2 : Int32) (g : am_G) : am_run ct 110 (n + 1) 0 [some (.inr (.inr (0, 0))), some (.inl x1), some (.inl x2)] [] g =
  am_bi (ct 3 [.inr (.inr (1, 0)), .inl x1] g) (fun r1 g1 =>
  if r1 = 0 then
    (some (some (.inl (-1 : Int32)), g1))
  else
    (if 0 ≤ x2 then
      (am_bi (ct 11 [.inr (.inr (1, 0)), .inl x1] g1) (fun r2 g2 =>
      am_bv (ct 52 [.inr (.inr (20, 0)), .inr (.inr (1, 0)), .inl r2] g2) (fun g3 =>
      if (g3 121 0 0) ≤ x2 then
        (some (some (.inl (-2 : Int32)), g3))
      else
        (bif am_in x2 24 then
          (some (some (.inl (g3 21 0 x2.toNatClampNeg)), g3))
        else none))))
    else
      (some (some (.inl (-1 : Int32)), g1)))) := rfl
set_option maxRecDepth 50000 in
theorem eC_place_0 (ct : am_T) (n : Nat) (x1 : Int32) (g : am_G) : am_run ct 111 (n + 1) 0 [some (.inr (.inr (0, 0))), some (.inl x1)] [] g =
  am_bi (ct 3 [.inr (.inr (1, 0)), .inl x1] g) (fun r1 g1 =>
  if r1 = 0 then
    (some (some (.inl (-1 : Int32)), g1))
  else
    (am_bi (ct 11 [.inr (.inr (1, 0)), .inl x1] g1) (fun r2 g2 =>
    am_bv (ct 52 [.inr (.inr (20, 0)), .inr (.inr (1, 0)), .inl r2] g2) (fun g3 =>
    am_bi (ct 54 [.inr (.inr (20, 0)), .inl x1] g3) (fun r4 g4 =>
    some (some (.inl r4), g4)))))) := rfl
set_option maxRecDepth 50000 in
theorem eC_joint_0 (ct : am_T) (n : Nat) (x1 : Int32) (x2 : Int32) (x3 : Int32) (g : am_G) : am_run ct 112 (n + 1) 0 [some (.inr (.inr (0, 0))), some (.inl x1), some (.inl x2), some (.inl x3)] [] g =
  am_bi (ct 4 [.inr (.inr (1, 0)), .inl x1, .inl x2] g) (fun r1 g1 =>
  if r1 = 0 then
    (some (some (.inl (-1 : Int32)), g1))
  else
    (if x3 < 0 then
      (some (some (.inl (-1 : Int32)), g1))
    else
      (if x3 < (3 : Int32) then
        (am_bi (ct 15 [.inr (.inr (1, 0)), .inl x1, .inl x2] g1) (fun r2 g2 =>
        if r2 = 0 then
          (am_bv (ct 61 [.inr (.inr (20, 0)), .inr (.inr (1, 0)), .inl x1, .inl x2] g2) (fun g3 =>
          bif am_in x3 3 then
            (some (some (.inl (g3 27 0 x3.toNatClampNeg)), g3))
          else none))
        else
          (some (some (.inl (-2 : Int32)), g2))))
      else
        (some (some (.inl (-1 : Int32)), g1))))) := rfl
set_option maxRecDepth 50000 in
theorem eC_tightest_0 (ct : am_T) (n : Nat) (x1 : Int32) (g : am_G) : am_run ct 113 (n + 1) 0 [some (.inr (.inr (0, 0))), some (.inl x1)] [] g =
  am_bi (ct 3 [.inr (.inr (1, 0)), .inl x1] g) (fun r1 g1 =>
  if r1 = 0 then
    (some (some (.inl (-1 : Int32)), g1))
  else
    (am_bi (ct 30 [.inr (.inr (1, 0)), .inl x1, .inr (.inr (5, 0)), .inl (-1 : Int32)] g1) (fun r2 g2 =>
    some (some (.inl r2), g2)))) := rfl
set_option maxRecDepth 50000 in
theorem eC_heavy_0 (ct : am_T) (n : Nat) (x1 : Int32) (g : am_G) : am_run ct 114 (n + 1) 0 [some (.inr (.inr (0, 0))), some (.inl x1), none] [] g =
  am_bi (ct 3 [.inr (.inr (1, 0)), .inl x1] g) (fun r1 g1 =>
  if r1 = 0 then
    (some (some (.inl (-1 : Int32)), g1))
  else
    (am_bi (ct 26 [.inr (.inr (1, 0)), .inl x1] g1) (fun r2 g2 =>
    if r2 = (-1 : Int32) then
      (some (some (.inl (-2 : Int32)), g2))
    else
      (some (some (.inl r2), g2))))) := rfl
set_option maxRecDepth 50000 in
theorem eC_potential_0 (ct : am_T) (n : Nat)  (g : am_G) : am_run ct 115 (n + 1) 0 [some (.inr (.inr (0, 0)))] [] g =
  am_bi (ct 28 [.inr (.inr (1, 0))] g) (fun r1 g1 =>
  some (some (.inl r1), g1)) := rfl
set_option maxRecDepth 50000 in
theorem eC_would_0 (ct : am_T) (n : Nat) (x1 : Int32) (g : am_G) : am_run ct 116 (n + 1) 0 [some (.inr (.inr (0, 0))), some (.inl x1)] [] g =
  am_bi (ct 3 [.inr (.inr (1, 0)), .inl x1] g) (fun r1 g1 =>
  if r1 = 0 then
    (some (some (.inl (-1 : Int32)), g1))
  else
    (am_bi (ct 29 [.inr (.inr (1, 0)), .inl x1] g1) (fun r2 g2 =>
    some (some (.inl r2), g2)))) := rfl
set_option maxRecDepth 50000 in
theorem eC_widest_0 (ct : am_T) (n : Nat) (x1 : Int32) (x2 : Int32) (g : am_G) : am_run ct 117 (n + 1) 0 [some (.inr (.inr (0, 0))), some (.inl x1), some (.inl x2)] [] g =
  am_bi (ct 3 [.inr (.inr (1, 0)), .inl x1] g) (fun r1 g1 =>
  if r1 = 0 then
    (some (some (.inl (-1 : Int32)), g1))
  else
    (if x2 < 0 then
      (some (some (.inl (-1 : Int32)), g1))
    else
      (if x2 < (3 : Int32) then
        (am_bv (ct 60 [.inr (.inr (20, 0)), .inr (.inr (1, 0)), .inl x1] g1) (fun g2 =>
        bif am_in x2 3 then
          (some (some (.inl (g2 27 0 x2.toNatClampNeg)), g2))
        else none))
      else
        (some (some (.inl (-1 : Int32)), g1))))) := rfl
set_option maxRecDepth 50000 in
theorem eC_midst_0 (ct : am_T) (n : Nat) (x1 : Int32) (g : am_G) : am_run ct 118 (n + 1) 0 [some (.inr (.inr (0, 0))), some (.inl x1)] [] g =
  am_bi (ct 3 [.inr (.inr (1, 0)), .inl x1] g) (fun r1 g1 =>
  if r1 = 0 then
    (some (some (.inl (-1 : Int32)), g1))
  else
    (am_bi (ct 31 [.inr (.inr (1, 0)), .inl x1] g1) (fun r2 g2 =>
    some (some (.inl r2), g2)))) := rfl
set_option maxRecDepth 50000 in
theorem eC_parts_0 (ct : am_T) (n : Nat) (x1 : Int32) (g : am_G) : am_run ct 119 (n + 1) 0 [some (.inr (.inr (0, 0))), some (.inl x1)] [] g =
  am_bi (ct 127 [.inl x1, .inl (0 : Int32), .inl (9999 : Int32)] g) (fun r1 g1 =>
  if r1 = 0 then
    (some (some (.inl (-1 : Int32)), g1))
  else
    (am_bi (ct 33 [.inr (.inr (1, 0)), .inl x1] g1) (fun r2 g2 =>
    some (some (.inl r2), g2)))) := rfl
set_option maxRecDepth 50000 in
theorem eC_dearest_0 (ct : am_T) (n : Nat) (x1 : Int32) (g : am_G) : am_run ct 120 (n + 1) 0 [some (.inr (.inr (0, 0))), some (.inl x1)] [] g =
  am_bi (ct 3 [.inr (.inr (1, 0)), .inl x1] g) (fun r1 g1 =>
  if r1 = 0 then
    (some (some (.inl (-1 : Int32)), g1))
  else
    (am_bi (ct 30 [.inr (.inr (1, 0)), .inl x1, .inr (.inr (4, 0)), .inl (1 : Int32)] g1) (fun r2 g2 =>
    some (some (.inl r2), g2)))) := rfl
set_option maxRecDepth 50000 in
theorem eC_leastFor_0 (ct : am_T) (n : Nat) (x1 : Int32) (g : am_G) : am_run ct 121 (n + 1) 0 [some (.inr (.inr (0, 0))), some (.inl x1), none] [] g =
  am_bi (ct 127 [.inl x1, .inl (1 : Int32), .inl (24 : Int32)] g) (fun r1 g1 =>
  if r1 = 0 then
    (some (some (.inl (-1 : Int32)), g1))
  else
    (am_bi (ct 34 [.inr (.inr (1, 0)), .inl x1] g1) (fun r2 g2 =>
    if r2 = (-1 : Int32) then
      (some (some (.inl (-2 : Int32)), g2))
    else
      (some (some (.inl r2), g2))))) := rfl
set_option maxRecDepth 50000 in
theorem eC_chance_0 (ct : am_T) (n : Nat) (x1 : Int32) (x2 : Int32) (x3 : Int32) (g : am_G) : am_run ct 122 (n + 1) 0 [some (.inr (.inr (0, 0))), some (.inl x1), some (.inl x2), some (.inl x3), none] [] g =
  if x1 < (-1 : Int32) then
    (some (some (.inl (-1 : Int32)), g))
  else
    (am_bi (ct 127 [.inl x2, .inl (1 : Int32), .inl (60 : Int32)] g) (fun r1 g1 =>
    if r1 = 0 then
      (some (some (.inl (-1 : Int32)), g1))
    else
      (if x3 < 0 then
        (some (some (.inl (-1 : Int32)), g1))
      else
        (if (4 : Int32) ≤ x3 then
          (some (some (.inl (-1 : Int32)), g1))
        else
          (if (g1 102 0 0) = 0 then
            (some (some (.inl (-1 : Int32)), g1))
          else
            (if x1 = (-1 : Int32) then
              (am_bv (ct 35 [.inr (.inr (28, 0)), .inr (.inr (1, 0)), .inl (g1 105 0 0)] g1) (fun g3 =>
              am_run ct 122 n 36 [some (.inr (.inr (0, 0))), some (.inl x1), some (.inl x2), some (.inl x3), some (.inl (0 : Int32))] [] g3))
            else
              (am_bv (ct 35 [.inr (.inr (28, 0)), .inr (.inr (1, 0)), .inl x1] g1) (fun g2 =>
              am_run ct 122 n 36 [some (.inr (.inr (0, 0))), some (.inl x1), some (.inl x2), some (.inl x3), some (.inl (0 : Int32))] [] g2)))))))) := rfl
set_option maxRecDepth 50000 in
theorem eC_chance_36 (ct : am_T) (n : Nat) (x1 : Int32) (x2 : Int32) (x3 : Int32) (x4 : Int32) (g : am_G) : am_run ct 122 (n + 1) 36 [some (.inr (.inr (0, 0))), some (.inl x1), some (.inl x2), some (.inl x3), some (.inl x4)] [] g =
  if x2 ≤ x4 then
    (if x3 = 0 then
      (am_bi (ct 20 [.inr (.inr (1, 3))] g) (fun r1 g1 =>
      some (some (.inl r1), g1)))
    else if x3 = 1 then
      (some (some (.inl (g 103 3 0)), g))
    else if x3 = 2 then
      (am_bi (ct 28 [.inr (.inr (1, 3))] g) (fun r2 g2 =>
      some (some (.inl r2), g2)))
    else (am_bi (ct 11 [.inr (.inr (1, 3)), .inl (0 : Int32)] g) (fun r3 g3 =>
      some (some (.inl r3), g3))))
  else
    (am_bv (ct 37 [.inr (.inr (28, 0))] g) (fun g4 =>
    am_run ct 122 n 36 [some (.inr (.inr (0, 0))), some (.inl x1), some (.inl x2), some (.inl x3), some (.inl (x4 + 1))] [] g4)) := rfl
set_option maxRecDepth 50000 in
theorem eC_undo_0 (ct : am_T) (n : Nat)  (g : am_G) : am_run ct 123 (n + 1) 0 [some (.inr (.inr (0, 0)))] [] g =
  am_bi (ct 40 [.inr (.inr (14, 0)), .inr (.inr (1, 0))] g) (fun r1 g1 =>
  if r1 = 0 then
    (some (some (.inl (-1 : Int32)), g1))
  else
    (some (some (.inl (g1 118 0 0)), g1))) := rfl
set_option maxRecDepth 50000 in
theorem eC_keep_0 (ct : am_T) (n : Nat)  (g : am_G) : am_run ct 124 (n + 1) 0 [some (.inr (.inr (0, 0)))] [] g =
  am_bv (ct 1 [.inr (.inr (1, 2)), .inr (.inr (1, 0))] g) (fun g1 =>
  am_bi (ct 20 [.inr (.inr (1, 0))] (am_put g1 101 0 (1 : Int32))) (fun r2 g2 =>
  some (some (.inl r2), g2))) := rfl
set_option maxRecDepth 50000 in
theorem eC_back_0 (ct : am_T) (n : Nat)  (g : am_G) : am_run ct 125 (n + 1) 0 [some (.inr (.inr (0, 0)))] [] g =
  if (g 101 0 0) = 0 then
    (some (some (.inl (-1 : Int32)), g))
  else
    (am_bv (ct 1 [.inr (.inr (1, 0)), .inr (.inr (1, 2))] g) (fun g1 =>
    am_bv (ct 38 [.inr (.inr (14, 0))] g1) (fun g2 =>
    am_bi (ct 20 [.inr (.inr (1, 0))] g2) (fun r3 g3 =>
    some (some (.inl r3), g3))))) := rfl
set_option maxRecDepth 50000 in
theorem eC_count_0 (ct : am_T) (n : Nat) (x1 : Int32) (g : am_G) : am_run ct 126 (n + 1) 0 [some (.inr (.inr (0, 0))), some (.inl x1)] [] g =
  if x1 = 0 then
    (some (some (.inl (g 102 0 0)), g))
  else if x1 = 1 then
    (am_bi (ct 20 [.inr (.inr (1, 0))] g) (fun r1 g1 =>
    some (some (.inl ((g 102 0 0) - r1)), g1)))
  else if x1 = 2 then
    (am_bi (ct 20 [.inr (.inr (1, 0))] g) (fun r2 g2 =>
    some (some (.inl r2), g2)))
  else if x1 = 3 then
    (am_bi (ct 21 [.inr (.inr (1, 0))] g) (fun r3 g3 =>
    some (some (.inl r3), g3)))
  else if x1 = 4 then
    (some (some (.inl (g 103 0 0)), g))
  else if x1 = 5 then
    (some (some (.inl (g 118 0 0)), g))
  else if x1 = 6 then
    (some (some (.inl (g 100 0 0)), g))
  else (some (some (.inl (-1 : Int32)), g)) := rfl
set_option maxRecDepth 50000 in
theorem eC_isWithin_0 (ct : am_T) (n : Nat) (x0 : Int32) (x1 : Int32) (x2 : Int32) (g : am_G) : am_run ct 127 (n + 1) 0 [some (.inl x0), some (.inl x1), some (.inl x2)] [] g =
  if x0 < x1 then
    (some (some (.inl (0 : Int32)), g))
  else
    (if x2 < x0 then
      (some (some (.inl (0 : Int32)), g))
    else
      (some (some (.inl (1 : Int32)), g))) := rfl
set_option maxRecDepth 50000 in
theorem eC_canBeLink_0 (ct : am_T) (n : Nat) (x1 : Int32) (x2 : Int32) (x3 : Int32) (x4 : Int32) (g : am_G) : am_run ct 128 (n + 1) 0 [some (.inr (.inr (0, 0))), some (.inl x1), some (.inl x2), some (.inl x3), some (.inl x4)] [] g =
  am_bi (ct 4 [.inr (.inr (1, 0)), .inl x1, .inl x2] g) (fun r1 g1 =>
  if r1 = 0 then
    (some (some (.inl (0 : Int32)), g1))
  else
    (am_bi (ct 127 [.inl x3, .inl (1 : Int32), .inl (9999 : Int32)] g1) (fun r2 g2 =>
    if r2 = 0 then
      (some (some (.inl (0 : Int32)), g2))
    else
      (am_bi (ct 127 [.inl x4, .inl (1 : Int32), .inl (9999 : Int32)] g2) (fun r3 g3 =>
      if r3 = 0 then
        (some (some (.inl (0 : Int32)), g3))
      else
        (some (some (.inl (1 : Int32)), g3))))))) := rfl
set_option maxRecDepth 50000 in
theorem eC_feedNumber_0 (ct : am_T) (n : Nat) (x1 : Int32) (g : am_G) : am_run ct 129 (n + 1) 0 [some (.inr (.inr (0, 0))), some (.inl x1), none] [] g =
  am_run ct 129 n 2 [some (.inr (.inr (0, 0))), some (.inl x1), some (.inl (24 : Int32))] [] g := rfl
set_option maxRecDepth 50000 in
theorem eC_feedNumber_2 (ct : am_T) (n : Nat) (x1 : Int32) (x2 : Int32) (g : am_G) : am_run ct 129 (n + 1) 2 [some (.inr (.inr (0, 0))), some (.inl x1), some (.inl x2)] [] g =
  if x2 < 0 then
    (some (none, g))
  else
    (if (700 : Int32) ≤ (g 100 0 0) then
      (am_run ct 129 n 2 [some (.inr (.inr (0, 0))), some (.inl x1), some (.inl (x2 + (-8)))] [] g)
    else
      (bif am_in (g 100 0 0) 700 then
        (am_run ct 129 n 2 [some (.inr (.inr (0, 0))), some (.inl x1), some (.inl (x2 + (-8)))] [] (am_put (am_sto g 13 0 (g 100 0 0).toNatClampNeg ((x1 >>> (x2 &&& 31)) &&& (255 : Int32))) 100 0 (((am_sto g 13 0 (g 100 0 0).toNatClampNeg ((x1 >>> (x2 &&& 31)) &&& (255 : Int32))) 100 0 0) + (1 : Int32))))
      else none)) := rfl
set_option maxRecDepth 50000 in
theorem eC_takeTold_0 (ct : am_T) (n : Nat)  (g : am_G) : am_run ct 130 (n + 1) 0 [some (.inr (.inr (0, 0)))] [] g =
  am_bv (ct 1 [.inr (.inr (1, 0)), .inr (.inr (1, 1))] g) (fun g1 =>
  am_bv (ct 42 [.inr (.inr (8, 0)), .inr (.inr (8, 1))] g1) (fun g2 =>
  am_bv (ct 38 [.inr (.inr (14, 0))] (am_put (am_put g2 103 0 (0 : Int32)) 101 0 (0 : Int32))) (fun g3 =>
  some (none, am_put g3 120 0 (0 : Int32))))) := rfl
set_option maxRecDepth 50000 in
theorem eC_factOfTown_0 (ct : am_T) (n : Nat) (x1 : Int32) (x2 : Int32) (g : am_G) : am_run ct 131 (n + 1) 0 [some (.inr (.inr (0, 0))), some (.inl x1), some (.inl x2), none] [] g =
  bif am_in x1 24 then
    (if (g 2 0 x1.toNatClampNeg) = (-1 : Int32) then
    (if x2 = 0 then
      (bif am_in x1 24 then
        (some (some (.inl (g 6 0 x1.toNatClampNeg)), g))
      else none)
    else if x2 = 1 then
      (if (1 : Int32) = 0 then
        (bif am_in x1 24 then
          (some (some (.inl (g 2 0 x1.toNatClampNeg)), g))
        else none)
      else
        (some (some (.inl (-2 : Int32)), g)))
    else if x2 = 2 then
      (bif am_in x1 24 then
        (if (g 3 0 x1.toNatClampNeg) = (-1 : Int32) then
        (some (some (.inl (-2 : Int32)), g))
      else
        (bif am_in x1 24 then
          (some (some (.inl (g 3 0 x1.toNatClampNeg)), g))
        else none))
      else none)
    else if x2 = 3 then
      (am_bi (ct 11 [.inr (.inr (1, 0)), .inl x1] g) (fun r6 g6 =>
      some (some (.inl r6), g6)))
    else if x2 = 4 then
      (am_bi (ct 12 [.inr (.inr (1, 0)), .inl x1] g) (fun r7 g7 =>
      some (some (.inl r7), g7)))
    else if x2 = 5 then
      (am_bi (ct 23 [.inr (.inr (1, 0)), .inl x1] g) (fun r8 g8 =>
      some (some (.inl r8), g8)))
    else if x2 = 6 then
      (am_bi (ct 24 [.inr (.inr (1, 0)), .inl x1] g) (fun r9 g9 =>
      some (some (.inl r9), g9)))
    else if x2 = 7 then
      (if (1 : Int32) = 0 then
        (bif am_in x1 24 then
          (some (some (.inl (g 4 0 x1.toNatClampNeg)), g))
        else none)
      else
        (some (some (.inl (-2 : Int32)), g)))
    else if x2 = 8 then
      (if (1 : Int32) = 0 then
        (bif am_in x1 24 then
          (some (some (.inl (g 5 0 x1.toNatClampNeg)), g))
        else none)
      else
        (some (some (.inl (-2 : Int32)), g)))
    else (am_bi (ct 25 [.inr (.inr (1, 0)), .inl x1] g) (fun r10 g10 =>
      some (some (.inl r10), g10))))
  else
    (if x2 = 0 then
      (bif am_in x1 24 then
        (some (some (.inl (g 6 0 x1.toNatClampNeg)), g))
      else none)
    else if x2 = 1 then
      (if (0 : Int32) = 0 then
        (bif am_in x1 24 then
          (some (some (.inl (g 2 0 x1.toNatClampNeg)), g))
        else none)
      else
        (some (some (.inl (-2 : Int32)), g)))
    else if x2 = 2 then
      (bif am_in x1 24 then
        (if (g 3 0 x1.toNatClampNeg) = (-1 : Int32) then
        (some (some (.inl (-2 : Int32)), g))
      else
        (bif am_in x1 24 then
          (some (some (.inl (g 3 0 x1.toNatClampNeg)), g))
        else none))
      else none)
    else if x2 = 3 then
      (am_bi (ct 11 [.inr (.inr (1, 0)), .inl x1] g) (fun r1 g1 =>
      some (some (.inl r1), g1)))
    else if x2 = 4 then
      (am_bi (ct 12 [.inr (.inr (1, 0)), .inl x1] g) (fun r2 g2 =>
      some (some (.inl r2), g2)))
    else if x2 = 5 then
      (am_bi (ct 23 [.inr (.inr (1, 0)), .inl x1] g) (fun r3 g3 =>
      some (some (.inl r3), g3)))
    else if x2 = 6 then
      (am_bi (ct 24 [.inr (.inr (1, 0)), .inl x1] g) (fun r4 g4 =>
      some (some (.inl r4), g4)))
    else if x2 = 7 then
      (if (0 : Int32) = 0 then
        (bif am_in x1 24 then
          (some (some (.inl (g 4 0 x1.toNatClampNeg)), g))
        else none)
      else
        (some (some (.inl (-2 : Int32)), g)))
    else if x2 = 8 then
      (if (0 : Int32) = 0 then
        (bif am_in x1 24 then
          (some (some (.inl (g 5 0 x1.toNatClampNeg)), g))
        else none)
      else
        (some (some (.inl (-2 : Int32)), g)))
    else (am_bi (ct 25 [.inr (.inr (1, 0)), .inl x1] g) (fun r5 g5 =>
      some (some (.inl r5), g5)))))
  else none := rfl
