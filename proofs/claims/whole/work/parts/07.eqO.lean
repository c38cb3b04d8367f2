/-! ===== what a run from a cut is: by wip/whole/write.py ===== -/
set_option maxRecDepth 50000 in
theorem eB_start_0 (ct : am_T) (n : Nat) (i : Nat) (x2 : Int32) (g : am_G) : am_run ct 35 (n + 1) 0 [some (.inr (.inr (28, 0))), some (.inr (.inr (1, i))), some (.inl x2)] [] g =
  am_bv (ct 1 [.inr (.inr (1, 3)), .inr (.inr (1, i))] g) (fun g1 =>
  some (none, am_put (am_put g1 103 3 (0 : Int32)) 122 0 x2)) := rfl
set_option maxRecDepth 50000 in
theorem eB_draw_0 (ct : am_T) (n : Nat) (x1 : Int32) (g : am_G) : am_run ct 36 (n + 1) 0 [some (.inr (.inr (28, 0))), some (.inl x1)] [] g =
  if x1 ≤ 0 then
    (some (some (.inl (0 : Int32)), am_put g 122 0 ((((g 122 0 0) * (1103515245 : Int32)) + (12345 : Int32)) &&& (2147483647 : Int32))))
  else
    (if x1 = 0 then none else
    some (some (.inl ((((am_put g 122 0 ((((g 122 0 0) * (1103515245 : Int32)) + (12345 : Int32)) &&& (2147483647 : Int32))) 122 0 0) >>> ((16 : Int32) &&& 31)) - (((am_put g 122 0 ((((g 122 0 0) * (1103515245 : Int32)) + (12345 : Int32)) &&& (2147483647 : Int32))) 122 0 0) >>> ((16 : Int32) &&& 31)) / x1 * x1)), am_put g 122 0 ((((g 122 0 0) * (1103515245 : Int32)) + (12345 : Int32)) &&& (2147483647 : Int32)))) := rfl
set_option maxRecDepth 50000 in
theorem eB_doOne_0 (ct : am_T) (n : Nat)  (g : am_G) : am_run ct 37 (n + 1) 0 [some (.inr (.inr (28, 0))), none, none, none] [] g =
  am_bi (ct 36 [.inr (.inr (28, 0)), .inl (4 : Int32)] g) (fun r1 g1 =>
  am_bi (ct 36 [.inr (.inr (28, 0)), .inl (g1 102 3 0)] g1) (fun r2 g2 =>
  am_bi (ct 36 [.inr (.inr (28, 0)), .inl (g2 102 3 0)] g2) (fun r3 g3 =>
  if r1 = 0 then
    (am_bv (ct 5 [.inr (.inr (1, 3)), .inl r2] g3) (fun g4 =>
    some (none, g4)))
  else if r1 = 1 then
    (am_bv (ct 6 [.inr (.inr (1, 3)), .inl r2] g3) (fun g5 =>
    some (none, g5)))
  else if r1 = 2 then
    (am_bi (ct 15 [.inr (.inr (1, 3)), .inl r2, .inl r3] g3) (fun r6 g6 =>
    if r6 = 0 then
      (am_bi (ct 36 [.inr (.inr (28, 0)), .inl (100 : Int32)] g6) (fun r7 g7 =>
      am_bv (ct 8 [.inr (.inr (1, 3)), .inl r2, .inl r3, .inl (r7 + (1 : Int32)), .inl (1 : Int32)] g7) (fun g8 =>
      some (none, g8))))
    else
      (some (none, g6))))
  else (am_bv (ct 74 [.inr (.inr (16, 1)), .inr (.inr (1, 3)), .inl r2, .inl r3] g3) (fun g9 =>
    am_bv (ct 80 [.inr (.inr (16, 1)), .inr (.inr (1, 3))] g9) (fun g10 =>
    some (none, g10))))))) := rfl
set_option maxRecDepth 50000 in
theorem eH_forget_0 (ct : am_T) (n : Nat)  (g : am_G) : am_run ct 38 (n + 1) 0 [some (.inr (.inr (14, 0)))] [] g =
  some (none, am_put (am_put g 117 0 (0 : Int32)) 118 0 (0 : Int32)) := rfl
set_option maxRecDepth 50000 in
theorem eH_remember_0 (ct : am_T) (n : Nat) (i : Nat) (g : am_G) : am_run ct 39 (n + 1) 0 [some (.inr (.inr (14, 0))), some (.inr (.inr (1, i)))] [] g =
  if (20 : Int32) = 0 then none else
  bif am_in (((g 117 0 0) + (g 118 0 0)) - ((g 117 0 0) + (g 118 0 0)) / (20 : Int32) * (20 : Int32)) 20 then
    (am_bv (ct 1 [.inr (.inr (1, (4 + (((g 117 0 0) + (g 118 0 0)) - ((g 117 0 0) + (g 118 0 0)) / (20 : Int32) * (20 : Int32)).toNatClampNeg))), .inr (.inr (1, i))] g) (fun g1 =>
  if (20 : Int32) ≤ (g1 118 0 0) then
    (if (20 : Int32) = 0 then none else
    some (none, am_put g1 117 0 (((g1 117 0 0) + (1 : Int32)) - ((g1 117 0 0) + (1 : Int32)) / (20 : Int32) * (20 : Int32))))
  else
    (some (none, am_put g1 118 0 ((g1 118 0 0) + (1 : Int32))))))
  else none := rfl
set_option maxRecDepth 50000 in
theorem eH_goBack_0 (ct : am_T) (n : Nat) (i : Nat) (g : am_G) : am_run ct 40 (n + 1) 0 [some (.inr (.inr (14, 0))), some (.inr (.inr (1, i)))] [] g =
  if (g 118 0 0) = 0 then
    (some (some (.inl (0 : Int32)), g))
  else
    (if (20 : Int32) = 0 then none else
    bif am_in ((((am_put g 118 0 ((g 118 0 0) - (1 : Int32))) 117 0 0) + ((am_put g 118 0 ((g 118 0 0) - (1 : Int32))) 118 0 0)) - (((am_put g 118 0 ((g 118 0 0) - (1 : Int32))) 117 0 0) + ((am_put g 118 0 ((g 118 0 0) - (1 : Int32))) 118 0 0)) / (20 : Int32) * (20 : Int32)) 20 then
      (am_bv (ct 1 [.inr (.inr (1, i)), .inr (.inr (1, (4 + ((((am_put g 118 0 ((g 118 0 0) - (1 : Int32))) 117 0 0) + ((am_put g 118 0 ((g 118 0 0) - (1 : Int32))) 118 0 0)) - (((am_put g 118 0 ((g 118 0 0) - (1 : Int32))) 117 0 0) + ((am_put g 118 0 ((g 118 0 0) - (1 : Int32))) 118 0 0)) / (20 : Int32) * (20 : Int32)).toNatClampNeg)))] (am_put g 118 0 ((g 118 0 0) - (1 : Int32)))) (fun g1 =>
    some (some (.inl (1 : Int32)), g1)))
    else none) := rfl
set_option maxRecDepth 50000 in
theorem eN_clear_0 (ct : am_T) (n : Nat) (i : Nat) (g : am_G) : am_run ct 41 (n + 1) 0 [some (.inr (.inr (8, i)))] [] g =
  some (none, am_put (am_put (am_put g 104 i (0 : Int32)) 105 i (0 : Int32)) 106 i (0 : Int32)) := rfl
set_option maxRecDepth 50000 in
theorem eN_copyFrom_0 (ct : am_T) (n : Nat) (i j : Nat) (g : am_G) : am_run ct 42 (n + 1) 0 [some (.inr (.inr (8, i))), some (.inr (.inr (8, j)))] [] g =
  bif am_01 ((am_put (am_put (am_set g 9 i (va_cpy (g 9 j) (g 9 i) 0 0 24)) 104 i ((am_set g 9 i (va_cpy (g 9 j) (g 9 i) 0 0 24)) 104 j 0)) 105 i ((am_put (am_set g 9 i (va_cpy (g 9 j) (g 9 i) 0 0 24)) 104 i ((am_set g 9 i (va_cpy (g 9 j) (g 9 i) 0 0 24)) 104 j 0)) 105 j 0)) 106 j 0) then
    (some (none, am_put (am_put (am_put (am_set g 9 i (va_cpy (g 9 j) (g 9 i) 0 0 24)) 104 i ((am_set g 9 i (va_cpy (g 9 j) (g 9 i) 0 0 24)) 104 j 0)) 105 i ((am_put (am_set g 9 i (va_cpy (g 9 j) (g 9 i) 0 0 24)) 104 i ((am_set g 9 i (va_cpy (g 9 j) (g 9 i) 0 0 24)) 104 j 0)) 105 j 0)) 106 i ((am_put (am_put (am_set g 9 i (va_cpy (g 9 j) (g 9 i) 0 0 24)) 104 i ((am_set g 9 i (va_cpy (g 9 j) (g 9 i) 0 0 24)) 104 j 0)) 105 i ((am_put (am_set g 9 i (va_cpy (g 9 j) (g 9 i) 0 0 24)) 104 i ((am_set g 9 i (va_cpy (g 9 j) (g 9 i) 0 0 24)) 104 j 0)) 105 j 0)) 106 j 0)))
  else none := rfl
set_option maxRecDepth 50000 in
theorem eN_add_0 (ct : am_T) (n : Nat) (i : Nat) (x1 : Int32) (g : am_G) : am_run ct 43 (n + 1) 0 [some (.inr (.inr (8, i))), some (.inl x1)] [] g =
  if (24 : Int32) ≤ (g 104 i 0) then
    (some (none, g))
  else
    (bif am_in (g 104 i 0) 24 then
      (some (none, am_put (am_sto g 9 i (g 104 i 0).toNatClampNeg x1) 104 i (((am_sto g 9 i (g 104 i 0).toNatClampNeg x1) 104 i 0) + (1 : Int32))))
    else none) := rfl
set_option maxRecDepth 50000 in
theorem eN_find_0 (ct : am_T) (n : Nat) (i : Nat) (x1 : Int32) (g : am_G) : am_run ct 44 (n + 1) 0 [some (.inr (.inr (8, i))), some (.inl x1), none] [] g =
  am_run ct 44 n 2 [some (.inr (.inr (8, i))), some (.inl x1), some (.inl (0 : Int32))] [] g := rfl
set_option maxRecDepth 50000 in
theorem eN_find_2 (ct : am_T) (n : Nat) (i : Nat) (x1 : Int32) (x2 : Int32) (g : am_G) : am_run ct 44 (n + 1) 2 [some (.inr (.inr (8, i))), some (.inl x1), some (.inl x2)] [] g =
  if (g 104 i 0) ≤ x2 then
    (some (some (.inl (-1 : Int32)), g))
  else
    (bif am_in x2 24 then
      (if (g 9 i x2.toNatClampNeg) = x1 then
      (some (some (.inl x2), g))
    else
      (am_run ct 44 n 2 [some (.inr (.inr (8, i))), some (.inl x1), some (.inl (x2 + 1))] [] g))
    else none) := rfl
set_option maxRecDepth 50000 in
theorem eR_opn_0 (ct : am_T) (n : Nat) (x2 : Int32) (g : am_G) : am_run ct 45 (n + 1) 0 [some (.inr (.inr (11, 0))), some (.inr (.inr (13, 0))), some (.inl x2)] [] g =
  am_bv (ct 46 [.inr (.inr (11, 0))] (am_put (am_put (am_put g 110 0 1) 111 0 (if (nI 700) < x2 then (nI 700) else x2)) 112 0 (0 : Int32))) (fun g1 =>
  some (none, g1)) := rfl
set_option maxRecDepth 50000 in
theorem eR_step_0 (ct : am_T) (n : Nat)  (g : am_G) : am_run ct 46 (n + 1) 0 [some (.inr (.inr (11, 0)))] [] g =
  if (g 111 0 0) ≤ (g 112 0 0) then
    (if ((am_put g 114 0 (g 112 0 0)) 112 0 0) < ((am_put g 114 0 (g 112 0 0)) 111 0 0) then
      (am_bi (ct 47 [.inr (.inr (11, 0)), .inl ((am_put g 114 0 (g 112 0 0)) 112 0 0)] (am_put g 114 0 (g 112 0 0))) (fun r1 g1 =>
      if r1 = 0 then
        (am_bi (ct 48 [.inr (.inr (11, 0)), .inl (g1 112 0 0)] g1) (fun r2 g2 =>
        if r2 = 0 then
          (if g2 110 0 0 = 0 then none else
          bif am_in (g2 112 0 0) 700 then
            (if (g2 13 0 (g2 112 0 0).toNatClampNeg) = (45 : Int32) then
            (am_bi (ct 48 [.inr (.inr (11, 0)), .inl ((g2 112 0 0) + (1 : Int32))] g2) (fun r3 g3 =>
            if r3 = 0 then
              (if g3 110 0 0 = 0 then none else
              bif am_in (g3 112 0 0) 700 then
                (if (g3 13 0 (g3 112 0 0).toNatClampNeg) = (59 : Int32) then
                (some (none, am_put (am_put g3 113 0 (4 : Int32)) 112 0 (((am_put g3 113 0 (4 : Int32)) 112 0 0) + (1 : Int32))))
              else
                (some (none, am_put (am_put g3 113 0 (5 : Int32)) 112 0 (((am_put g3 113 0 (5 : Int32)) 112 0 0) + (1 : Int32)))))
              else none)
            else
              (am_bv (ct 50 [.inr (.inr (11, 0))] (am_put (am_put g3 113 0 (3 : Int32)) 112 0 (((am_put g3 113 0 (3 : Int32)) 112 0 0) + (1 : Int32)))) (fun g4 =>
              some (none, am_put g4 116 0 (-(g4 116 0 0)))))))
          else
            (if g2 110 0 0 = 0 then none else
            bif am_in (g2 112 0 0) 700 then
              (if (g2 13 0 (g2 112 0 0).toNatClampNeg) = (59 : Int32) then
              (some (none, am_put (am_put g2 113 0 (4 : Int32)) 112 0 (((am_put g2 113 0 (4 : Int32)) 112 0 0) + (1 : Int32))))
            else
              (some (none, am_put (am_put g2 113 0 (5 : Int32)) 112 0 (((am_put g2 113 0 (5 : Int32)) 112 0 0) + (1 : Int32)))))
            else none))
          else none)
        else
          (am_bv (ct 50 [.inr (.inr (11, 0))] (am_put g2 113 0 (2 : Int32))) (fun g5 =>
          some (none, g5)))))
      else
        (am_bv (ct 49 [.inr (.inr (11, 0))] g1) (fun g6 =>
        some (none, g6)))))
    else
      (some (none, am_put (am_put g 114 0 (g 112 0 0)) 113 0 (0 : Int32))))
  else
    (if g 110 0 0 = 0 then none else
    bif am_in (g 112 0 0) 700 then
      (if (g 13 0 (g 112 0 0).toNatClampNeg) = (10 : Int32) then
      (am_run ct 46 n 0 [some (.inr (.inr (11, 0)))] [] (am_put g 112 0 ((g 112 0 0) + (1 : Int32))))
    else
      (if g 110 0 0 = 0 then none else
      bif am_in (g 112 0 0) 700 then
        (if (g 13 0 (g 112 0 0).toNatClampNeg) = (32 : Int32) then
        (am_run ct 46 n 0 [some (.inr (.inr (11, 0)))] [] (am_put g 112 0 ((g 112 0 0) + (1 : Int32))))
      else
        (if ((am_put g 114 0 (g 112 0 0)) 112 0 0) < ((am_put g 114 0 (g 112 0 0)) 111 0 0) then
          (am_bi (ct 47 [.inr (.inr (11, 0)), .inl ((am_put g 114 0 (g 112 0 0)) 112 0 0)] (am_put g 114 0 (g 112 0 0))) (fun r7 g7 =>
          if r7 = 0 then
            (am_bi (ct 48 [.inr (.inr (11, 0)), .inl (g7 112 0 0)] g7) (fun r8 g8 =>
            if r8 = 0 then
              (if g8 110 0 0 = 0 then none else
              bif am_in (g8 112 0 0) 700 then
                (if (g8 13 0 (g8 112 0 0).toNatClampNeg) = (45 : Int32) then
                (am_bi (ct 48 [.inr (.inr (11, 0)), .inl ((g8 112 0 0) + (1 : Int32))] g8) (fun r9 g9 =>
                if r9 = 0 then
                  (if g9 110 0 0 = 0 then none else
                  bif am_in (g9 112 0 0) 700 then
                    (if (g9 13 0 (g9 112 0 0).toNatClampNeg) = (59 : Int32) then
                    (some (none, am_put (am_put g9 113 0 (4 : Int32)) 112 0 (((am_put g9 113 0 (4 : Int32)) 112 0 0) + (1 : Int32))))
                  else
                    (some (none, am_put (am_put g9 113 0 (5 : Int32)) 112 0 (((am_put g9 113 0 (5 : Int32)) 112 0 0) + (1 : Int32)))))
                  else none)
                else
                  (am_bv (ct 50 [.inr (.inr (11, 0))] (am_put (am_put g9 113 0 (3 : Int32)) 112 0 (((am_put g9 113 0 (3 : Int32)) 112 0 0) + (1 : Int32)))) (fun g10 =>
                  some (none, am_put g10 116 0 (-(g10 116 0 0)))))))
              else
                (if g8 110 0 0 = 0 then none else
                bif am_in (g8 112 0 0) 700 then
                  (if (g8 13 0 (g8 112 0 0).toNatClampNeg) = (59 : Int32) then
                  (some (none, am_put (am_put g8 113 0 (4 : Int32)) 112 0 (((am_put g8 113 0 (4 : Int32)) 112 0 0) + (1 : Int32))))
                else
                  (some (none, am_put (am_put g8 113 0 (5 : Int32)) 112 0 (((am_put g8 113 0 (5 : Int32)) 112 0 0) + (1 : Int32)))))
                else none))
              else none)
            else
              (am_bv (ct 50 [.inr (.inr (11, 0))] (am_put g8 113 0 (2 : Int32))) (fun g11 =>
              some (none, g11)))))
          else
            (am_bv (ct 49 [.inr (.inr (11, 0))] g7) (fun g12 =>
            some (none, g12)))))
        else
          (some (none, am_put (am_put g 114 0 (g 112 0 0)) 113 0 (0 : Int32)))))
      else none))
    else none) := rfl
set_option maxRecDepth 50000 in
theorem eR_isLetterAt_0 (ct : am_T) (n : Nat) (x1 : Int32) (g : am_G) : am_run ct 47 (n + 1) 0 [some (.inr (.inr (11, 0))), some (.inl x1)] [] g =
  if (g 111 0 0) ≤ x1 then
    (some (some (.inl (0 : Int32)), g))
  else
    (if g 110 0 0 = 0 then none else
    bif am_in x1 700 then
      (if (g 13 0 x1.toNatClampNeg) < (97 : Int32) then
      (some (some (.inl (0 : Int32)), g))
    else
      (if g 110 0 0 = 0 then none else
      bif am_in x1 700 then
        (if (122 : Int32) < (g 13 0 x1.toNatClampNeg) then
        (some (some (.inl (0 : Int32)), g))
      else
        (some (some (.inl (1 : Int32)), g)))
      else none))
    else none) := rfl
set_option maxRecDepth 50000 in
theorem eR_isDigitAt_0 (ct : am_T) (n : Nat) (x1 : Int32) (g : am_G) : am_run ct 48 (n + 1) 0 [some (.inr (.inr (11, 0))), some (.inl x1)] [] g =
  if (g 111 0 0) ≤ x1 then
    (some (some (.inl (0 : Int32)), g))
  else
    (if g 110 0 0 = 0 then none else
    bif am_in x1 700 then
      (if (g 13 0 x1.toNatClampNeg) < (48 : Int32) then
      (some (some (.inl (0 : Int32)), g))
    else
      (if g 110 0 0 = 0 then none else
      bif am_in x1 700 then
        (if (57 : Int32) < (g 13 0 x1.toNatClampNeg) then
        (some (some (.inl (0 : Int32)), g))
      else
        (some (some (.inl (1 : Int32)), g)))
      else none))
    else none) := rfl
set_option maxRecDepth 50000 in
theorem eR_readWord_0 (ct : am_T) (n : Nat)  (g : am_G) : am_run ct 49 (n + 1) 0 [some (.inr (.inr (11, 0))), none] [] g =
  am_run ct 49 n 5 [some (.inr (.inr (11, 0))), some (.inl (25 : Int32))] [] (am_put g 115 0 (0 : Int32)) := rfl
set_option maxRecDepth 50000 in
theorem eR_readWord_5 (ct : am_T) (n : Nat) (x1 : Int32) (g : am_G) : am_run ct 49 (n + 1) 5 [some (.inr (.inr (11, 0))), some (.inl x1)] [] g =
  if (g 111 0 0) ≤ (g 112 0 0) then
    (if ((g 112 0 0) - (g 114 0 0)) ≤ (6 : Int32) then
      (some (none, am_put g 113 0 (1 : Int32)))
    else
      (some (none, am_put g 113 0 (5 : Int32))))
  else
    (am_bi (ct 47 [.inr (.inr (11, 0)), .inl (g 112 0 0)] g) (fun r1 g1 =>
    if r1 = 0 then
      (if ((g1 112 0 0) - (g1 114 0 0)) ≤ (6 : Int32) then
        (some (none, am_put g1 113 0 (1 : Int32)))
      else
        (some (none, am_put g1 113 0 (5 : Int32))))
    else
      (if x1 < 0 then
        (am_run ct 49 n 5 [some (.inr (.inr (11, 0))), some (.inl (x1 + (-5)))] [] (am_put g1 112 0 ((g1 112 0 0) + (1 : Int32))))
      else
        (if g1 110 0 0 = 0 then none else
        bif am_in (g1 112 0 0) 700 then
          (am_run ct 49 n 5 [some (.inr (.inr (11, 0))), some (.inl (x1 + (-5)))] [] (am_put (am_put g1 115 0 ((g1 115 0 0) ||| (((g1 13 0 (g1 112 0 0).toNatClampNeg) - (96 : Int32)) <<< (x1 &&& 31)))) 112 0 (((am_put g1 115 0 ((g1 115 0 0) ||| (((g1 13 0 (g1 112 0 0).toNatClampNeg) - (96 : Int32)) <<< (x1 &&& 31)))) 112 0 0) + (1 : Int32))))
        else none)))) := rfl
set_option maxRecDepth 50000 in
theorem eR_readDigits_0 (ct : am_T) (n : Nat)  (g : am_G) : am_run ct 50 (n + 1) 0 [some (.inr (.inr (11, 0)))] [] g =
  am_run ct 50 n 3 [some (.inr (.inr (11, 0)))] [] (am_put g 116 0 (0 : Int32)) := rfl
set_option maxRecDepth 50000 in
theorem eR_readDigits_3 (ct : am_T) (n : Nat)  (g : am_G) : am_run ct 50 (n + 1) 3 [some (.inr (.inr (11, 0)))] [] g =
  if (g 111 0 0) ≤ (g 112 0 0) then
    (some (none, g))
  else
    (am_bi (ct 48 [.inr (.inr (11, 0)), .inl (g 112 0 0)] g) (fun r1 g1 =>
    if r1 = 0 then
      (some (none, g1))
    else
      (if (99999 : Int32) < (g1 116 0 0) then
        (am_run ct 50 n 3 [some (.inr (.inr (11, 0)))] [] (am_put g1 112 0 ((g1 112 0 0) + (1 : Int32))))
      else
        (if g1 110 0 0 = 0 then none else
        bif am_in (g1 112 0 0) 700 then
          (am_run ct 50 n 3 [some (.inr (.inr (11, 0)))] [] (am_put (am_put g1 116 0 ((((g1 116 0 0) * (10 : Int32)) + (g1 13 0 (g1 112 0 0).toNatClampNeg)) - (48 : Int32))) 112 0 (((am_put g1 116 0 ((((g1 116 0 0) * (10 : Int32)) + (g1 13 0 (g1 112 0 0).toNatClampNeg)) - (48 : Int32))) 112 0 0) + (1 : Int32))))
        else none)))) := rfl
set_option maxRecDepth 50000 in
theorem eS_look_0 (ct : am_T) (n : Nat) (i w : Nat) (x3 : Int32) (g : am_G) : am_run ct 51 (n + 1) 0 [some (.inr (.inr (18, 0))), some (.inr (.inr (1, i))), some (.inr (.inr (16, w))), some (.inl x3), none] [] g =
  am_bi (ct 78 [.inr (.inr (16, w)), .inr (.inr (1, i))] g) (fun r1 g1 =>
  am_bi (ct 76 [.inr (.inr (16, w)), .inr (.inr (1, i))] (am_put g1 120 0 (1 : Int32))) (fun r2 g2 =>
  bif am_in (0 : Int32) 9 then
    (am_bi (ct 79 [.inr (.inr (16, w)), .inr (.inr (1, i))] (am_sto g2 19 0 (0 : Int32).toNatClampNeg r2)) (fun r3 g3 =>
  bif am_in (1 : Int32) 9 then
    (if r1 = (-1 : Int32) then
    (bif am_in (2 : Int32) 9 then
      (if r1 = (-1 : Int32) then
      (bif am_in (3 : Int32) 9 then
        (am_bi (ct 81 [.inr (.inr (16, w)), .inr (.inr (1, i)), .inr (.inr (5, i))] (am_sto (am_sto (am_sto g3 19 0 (1 : Int32).toNatClampNeg r3) 19 0 (2 : Int32).toNatClampNeg (-2 : Int32)) 19 0 (3 : Int32).toNatClampNeg (-2 : Int32))) (fun r13 g13 =>
      bif am_in (4 : Int32) 9 then
        (am_bi (ct 77 [.inr (.inr (16, w)), .inr (.inr (1, i))] (am_sto g13 19 0 (4 : Int32).toNatClampNeg r13)) (fun r14 g14 =>
      bif am_in (5 : Int32) 9 then
        (bif am_in (6 : Int32) 9 then
        (bif am_in (7 : Int32) 9 then
        (am_bi (ct 81 [.inr (.inr (16, w)), .inr (.inr (1, i)), .inr (.inr (4, i))] (am_sto (am_sto (am_sto g14 19 0 (5 : Int32).toNatClampNeg r14) 19 0 (6 : Int32).toNatClampNeg ((am_sto g14 19 0 (5 : Int32).toNatClampNeg r14) 119 w 0)) 19 0 (7 : Int32).toNatClampNeg x3)) (fun r15 g15 =>
      bif am_in (8 : Int32) 9 then
        (some (none, am_sto g15 19 0 (8 : Int32).toNatClampNeg r15))
      else none))
      else none)
      else none)
      else none))
      else none))
      else none)
    else
      (bif am_in (r1 + (1 : Int32)) 24 then
        (bif am_in (3 : Int32) 9 then
        (am_bi (ct 81 [.inr (.inr (16, w)), .inr (.inr (1, i)), .inr (.inr (5, i))] (am_sto (am_sto (am_sto g3 19 0 (1 : Int32).toNatClampNeg r3) 19 0 (2 : Int32).toNatClampNeg (-2 : Int32)) 19 0 (3 : Int32).toNatClampNeg ((am_sto (am_sto g3 19 0 (1 : Int32).toNatClampNeg r3) 19 0 (2 : Int32).toNatClampNeg (-2 : Int32)) 17 w (r1 + (1 : Int32)).toNatClampNeg))) (fun r10 g10 =>
      bif am_in (4 : Int32) 9 then
        (am_bi (ct 77 [.inr (.inr (16, w)), .inr (.inr (1, i))] (am_sto g10 19 0 (4 : Int32).toNatClampNeg r10)) (fun r11 g11 =>
      bif am_in (5 : Int32) 9 then
        (bif am_in (6 : Int32) 9 then
        (bif am_in (7 : Int32) 9 then
        (am_bi (ct 81 [.inr (.inr (16, w)), .inr (.inr (1, i)), .inr (.inr (4, i))] (am_sto (am_sto (am_sto g11 19 0 (5 : Int32).toNatClampNeg r11) 19 0 (6 : Int32).toNatClampNeg ((am_sto g11 19 0 (5 : Int32).toNatClampNeg r11) 119 w 0)) 19 0 (7 : Int32).toNatClampNeg x3)) (fun r12 g12 =>
      bif am_in (8 : Int32) 9 then
        (some (none, am_sto g12 19 0 (8 : Int32).toNatClampNeg r12))
      else none))
      else none)
      else none)
      else none))
      else none))
      else none)
      else none))
    else none)
  else
    (bif am_in r1 24 then
      (bif am_in (2 : Int32) 9 then
      (if r1 = (-1 : Int32) then
      (bif am_in (3 : Int32) 9 then
        (am_bi (ct 81 [.inr (.inr (16, w)), .inr (.inr (1, i)), .inr (.inr (5, i))] (am_sto (am_sto (am_sto g3 19 0 (1 : Int32).toNatClampNeg r3) 19 0 (2 : Int32).toNatClampNeg ((am_sto g3 19 0 (1 : Int32).toNatClampNeg r3) 17 w r1.toNatClampNeg)) 19 0 (3 : Int32).toNatClampNeg (-2 : Int32))) (fun r7 g7 =>
      bif am_in (4 : Int32) 9 then
        (am_bi (ct 77 [.inr (.inr (16, w)), .inr (.inr (1, i))] (am_sto g7 19 0 (4 : Int32).toNatClampNeg r7)) (fun r8 g8 =>
      bif am_in (5 : Int32) 9 then
        (bif am_in (6 : Int32) 9 then
        (bif am_in (7 : Int32) 9 then
        (am_bi (ct 81 [.inr (.inr (16, w)), .inr (.inr (1, i)), .inr (.inr (4, i))] (am_sto (am_sto (am_sto g8 19 0 (5 : Int32).toNatClampNeg r8) 19 0 (6 : Int32).toNatClampNeg ((am_sto g8 19 0 (5 : Int32).toNatClampNeg r8) 119 w 0)) 19 0 (7 : Int32).toNatClampNeg x3)) (fun r9 g9 =>
      bif am_in (8 : Int32) 9 then
        (some (none, am_sto g9 19 0 (8 : Int32).toNatClampNeg r9))
      else none))
      else none)
      else none)
      else none))
      else none))
      else none)
    else
      (bif am_in (r1 + (1 : Int32)) 24 then
        (bif am_in (3 : Int32) 9 then
        (am_bi (ct 81 [.inr (.inr (16, w)), .inr (.inr (1, i)), .inr (.inr (5, i))] (am_sto (am_sto (am_sto g3 19 0 (1 : Int32).toNatClampNeg r3) 19 0 (2 : Int32).toNatClampNeg ((am_sto g3 19 0 (1 : Int32).toNatClampNeg r3) 17 w r1.toNatClampNeg)) 19 0 (3 : Int32).toNatClampNeg ((am_sto (am_sto g3 19 0 (1 : Int32).toNatClampNeg r3) 19 0 (2 : Int32).toNatClampNeg ((am_sto g3 19 0 (1 : Int32).toNatClampNeg r3) 17 w r1.toNatClampNeg)) 17 w (r1 + (1 : Int32)).toNatClampNeg))) (fun r4 g4 =>
      bif am_in (4 : Int32) 9 then
        (am_bi (ct 77 [.inr (.inr (16, w)), .inr (.inr (1, i))] (am_sto g4 19 0 (4 : Int32).toNatClampNeg r4)) (fun r5 g5 =>
      bif am_in (5 : Int32) 9 then
        (bif am_in (6 : Int32) 9 then
        (bif am_in (7 : Int32) 9 then
        (am_bi (ct 81 [.inr (.inr (16, w)), .inr (.inr (1, i)), .inr (.inr (4, i))] (am_sto (am_sto (am_sto g5 19 0 (5 : Int32).toNatClampNeg r5) 19 0 (6 : Int32).toNatClampNeg ((am_sto g5 19 0 (5 : Int32).toNatClampNeg r5) 119 w 0)) 19 0 (7 : Int32).toNatClampNeg x3)) (fun r6 g6 =>
      bif am_in (8 : Int32) 9 then
        (some (none, am_sto g6 19 0 (8 : Int32).toNatClampNeg r6))
      else none))
      else none)
      else none)
      else none))
      else none))
      else none)
      else none))
    else none)
    else none))
  else none))
  else none)) := rfl
set_option maxRecDepth 50000 in
theorem eV_lineUp_0 (ct : am_T) (n : Nat) (i : Nat) (x2 : Int32) (g : am_G) : am_run ct 52 (n + 1) 0 [some (.inr (.inr (20, 0))), some (.inr (.inr (1, i))), some (.inl x2), none, none, none] [] g =
  bif am_in (0 : Int32) 24 then
    (am_run ct 52 n 12 [some (.inr (.inr (20, 0))), some (.inr (.inr (1, i))), some (.inl x2), some (.inl (1 : Int32)), some (.inl (0 : Int32)), none] [] (am_sto (am_put g 121 0 (0 : Int32)) 22 0 (0 : Int32).toNatClampNeg x2))
  else none := rfl
set_option maxRecDepth 50000 in
theorem eV_lineUp_12 (ct : am_T) (n : Nat) (i : Nat) (x2 : Int32) (x3 : Int32) (x4 : Int32) (o5 : Option am_V) (g : am_G) : am_run ct 52 (n + 1) 12 [some (.inr (.inr (20, 0))), some (.inr (.inr (1, i))), some (.inl x2), some (.inl x3), some (.inl x4), o5] [] g =
  if (24 : Int32) ≤ x4 then
    (some (none, g))
  else
    (if x3 ≤ 0 then
      (some (none, g))
    else
      (am_run ct 52 n 18 [some (.inr (.inr (20, 0))), some (.inr (.inr (1, i))), some (.inl x2), some (.inl (x3 + (-1))), some (.inl x4), o5] [] g)) := rfl
set_option maxRecDepth 50000 in
theorem eV_lineUp_18 (ct : am_T) (n : Nat) (i : Nat) (x2 : Int32) (x3 : Int32) (x4 : Int32) (o5 : Option am_V) (g : am_G) : am_run ct 52 (n + 1) 18 [some (.inr (.inr (20, 0))), some (.inr (.inr (1, i))), some (.inl x2), some (.inl x3), some (.inl x4), o5] [] g =
  bif am_in x3 24 then
    (bif am_in (g 121 0 0) 24 then
    (am_bi (ct 53 [.inr (.inr (20, 0)), .inr (.inr (1, i)), .inl (g 22 0 x3.toNatClampNeg), .inl x3] (am_put (am_sto g 21 0 (g 121 0 0).toNatClampNeg (g 22 0 x3.toNatClampNeg)) 121 0 (((am_sto g 21 0 (g 121 0 0).toNatClampNeg (g 22 0 x3.toNatClampNeg)) 121 0 0) + (1 : Int32)))) (fun r1 g1 =>
  am_run ct 52 n 12 [some (.inr (.inr (20, 0))), some (.inr (.inr (1, i))), some (.inl x2), some (.inl r1), some (.inl (x4 + 1)), some (.inl (g 22 0 x3.toNatClampNeg))] [] g1))
  else none)
  else none := rfl
set_option maxRecDepth 50000 in
theorem eV_opnChildren_0 (ct : am_T) (n : Nat) (i : Nat) (x2 : Int32) (x3 : Int32) (g : am_G) : am_run ct 53 (n + 1) 0 [some (.inr (.inr (20, 0))), some (.inr (.inr (1, i))), some (.inl x2), some (.inl x3), none, none, none] [] g =
  bif am_in x2 24 then
    (am_run ct 53 n 12 [some (.inr (.inr (20, 0))), some (.inr (.inr (1, i))), some (.inl x2), some (.inl x3), some (.inl x3), some (.inl (g 3 i x2.toNatClampNeg)), some (.inl ((g 102 i 0) - (1 : Int32)))] [] g)
  else none := rfl
set_option maxRecDepth 50000 in
theorem eV_opnChildren_12 (ct : am_T) (n : Nat) (i : Nat) (x2 : Int32) (x3 : Int32) (x4 : Int32) (x5 : Int32) (x6 : Int32) (g : am_G) : am_run ct 53 (n + 1) 12 [some (.inr (.inr (20, 0))), some (.inr (.inr (1, i))), some (.inl x2), some (.inl x3), some (.inl x4), some (.inl x5), some (.inl x6)] [] g =
  if x6 < 0 then
    (if x5 = (-1 : Int32) then
      (some (some (.inl x4), g))
    else
      (if (24 : Int32) ≤ x4 then
        (some (some (.inl x4), g))
      else
        (bif am_in x4 24 then
          (some (some (.inl (x4 + 1)), am_sto g 22 0 x4.toNatClampNeg x5))
        else none)))
  else
    (bif am_in x6 24 then
      (if (g 2 i x6.toNatClampNeg) = x2 then
      (if x6 = x5 then
        (am_run ct 53 n 12 [some (.inr (.inr (20, 0))), some (.inr (.inr (1, i))), some (.inl x2), some (.inl x3), some (.inl x4), some (.inl x5), some (.inl (x6 + (-1)))] [] g)
      else
        (if (24 : Int32) ≤ x4 then
          (am_run ct 53 n 12 [some (.inr (.inr (20, 0))), some (.inr (.inr (1, i))), some (.inl x2), some (.inl x3), some (.inl x4), some (.inl x5), some (.inl (x6 + (-1)))] [] g)
        else
          (bif am_in x4 24 then
            (am_run ct 53 n 12 [some (.inr (.inr (20, 0))), some (.inr (.inr (1, i))), some (.inl x2), some (.inl x3), some (.inl (x4 + 1)), some (.inl x5), some (.inl (x6 + (-1)))] [] (am_sto g 22 0 x4.toNatClampNeg x6))
          else none)))
    else
      (am_run ct 53 n 12 [some (.inr (.inr (20, 0))), some (.inr (.inr (1, i))), some (.inl x2), some (.inl x3), some (.inl x4), some (.inl x5), some (.inl (x6 + (-1)))] [] g))
    else none) := rfl
set_option maxRecDepth 50000 in
theorem eV_placeOf_0 (ct : am_T) (n : Nat) (x1 : Int32) (g : am_G) : am_run ct 54 (n + 1) 0 [some (.inr (.inr (20, 0))), some (.inl x1), none] [] g =
  am_run ct 54 n 2 [some (.inr (.inr (20, 0))), some (.inl x1), some (.inl (0 : Int32))] [] g := rfl
set_option maxRecDepth 50000 in
theorem eV_placeOf_2 (ct : am_T) (n : Nat) (x1 : Int32) (x2 : Int32) (g : am_G) : am_run ct 54 (n + 1) 2 [some (.inr (.inr (20, 0))), some (.inl x1), some (.inl x2)] [] g =
  if (g 121 0 0) ≤ x2 then
    (some (some (.inl (-1 : Int32)), g))
  else
    (bif am_in x2 24 then
      (if (g 21 0 x2.toNatClampNeg) = x1 then
      (some (some (.inl x2), g))
    else
      (am_run ct 54 n 2 [some (.inr (.inr (20, 0))), some (.inl x1), some (.inl (x2 + 1))] [] g))
    else none) := rfl
set_option maxRecDepth 50000 in
theorem eV_measure_0 (ct : am_T) (n : Nat) (i : Nat) (x2 : Int32) (g : am_G) : am_run ct 55 (n + 1) 0 [some (.inr (.inr (20, 0))), some (.inr (.inr (1, i))), some (.inl x2), none, none, none, none, none, none] [] g =
  am_bv (ct 52 [.inr (.inr (20, 0)), .inr (.inr (1, i)), .inl x2] g) (fun g1 =>
  am_run ct 55 n 6 [some (.inr (.inr (20, 0))), some (.inr (.inr (1, i))), some (.inl x2), some (.inl (0 : Int32)), none, none, none, none, none] [] g1) := rfl
set_option maxRecDepth 50000 in
theorem eV_measure_6 (ct : am_T) (n : Nat) (i : Nat) (x2 : Int32) (x3 : Int32) (o4 : Option am_V) (o5 : Option am_V) (o6 : Option am_V) (o7 : Option am_V) (o8 : Option am_V) (g : am_G) : am_run ct 55 (n + 1) 6 [some (.inr (.inr (20, 0))), some (.inr (.inr (1, i))), some (.inl x2), some (.inl x3), o4, o5, o6, o7, o8] [] g =
  if (g 121 0 0) ≤ x3 then
    (am_run ct 55 n 72 [some (.inr (.inr (20, 0))), some (.inr (.inr (1, i))), some (.inl x2), some (.inl (0 : Int32)), o4, o5, o6, o7, o8] [] g)
  else
    (bif am_in x3 24 then
      (bif am_in (g 21 0 x3.toNatClampNeg) 24 then
      (bif am_in (g 21 0 x3.toNatClampNeg) 24 then
      (bif am_in (g 21 0 x3.toNatClampNeg) 24 then
      (am_run ct 55 n 29 [some (.inr (.inr (20, 0))), some (.inr (.inr (1, i))), some (.inl x2), some (.inl x3), some (.inl (g 21 0 x3.toNatClampNeg)), some (.inl (g 2 i (g 21 0 x3.toNatClampNeg).toNatClampNeg)), some (.inl (0 : Int32)), o7, o8] [] (am_sto g 25 (0 + (g 21 0 x3.toNatClampNeg).toNatClampNeg) (g 21 0 x3.toNatClampNeg).toNatClampNeg (0 : Int32)))
    else none)
    else none)
    else none)
    else none) := rfl
set_option maxRecDepth 50000 in
theorem eV_measure_29 (ct : am_T) (n : Nat) (i : Nat) (x2 : Int32) (x3 : Int32) (x4 : Int32) (x5 : Int32) (x6 : Int32) (o7 : Option am_V) (o8 : Option am_V) (g : am_G) : am_run ct 55 (n + 1) 29 [some (.inr (.inr (20, 0))), some (.inr (.inr (1, i))), some (.inl x2), some (.inl x3), some (.inl x4), some (.inl x5), some (.inl x6), o7, o8] [] g =
  if x3 ≤ x6 then
    (am_run ct 55 n 6 [some (.inr (.inr (20, 0))), some (.inr (.inr (1, i))), some (.inl x2), some (.inl (x3 + 1)), some (.inl x4), some (.inl x5), some (.inl x6), o7, o8] [] g)
  else
    (if x5 = (-1 : Int32) then
      (am_run ct 55 n 6 [some (.inr (.inr (20, 0))), some (.inr (.inr (1, i))), some (.inl x2), some (.inl (x3 + 1)), some (.inl x4), some (.inl x5), some (.inl x6), o7, o8] [] g)
    else
      (bif am_in x6 24 then
        (bif am_in x5 24 then
        (bif am_in (g 21 0 x6.toNatClampNeg) 24 then
        (bif am_in x4 24 then
        (bif am_in x4 24 then
        (bif am_in (g 21 0 x6.toNatClampNeg) 24 then
        (bif am_in (g 21 0 x6.toNatClampNeg) 24 then
        (bif am_in x4 24 then
        (am_run ct 55 n 29 [some (.inr (.inr (20, 0))), some (.inr (.inr (1, i))), some (.inl x2), some (.inl x3), some (.inl x4), some (.inl x5), some (.inl (x6 + 1)), some (.inl (g 21 0 x6.toNatClampNeg)), some (.inl ((g 25 (0 + x5.toNatClampNeg) (g 21 0 x6.toNatClampNeg).toNatClampNeg) + (g 4 i x4.toNatClampNeg)))] [] (am_sto (am_sto g 25 (0 + x4.toNatClampNeg) (g 21 0 x6.toNatClampNeg).toNatClampNeg ((g 25 (0 + x5.toNatClampNeg) (g 21 0 x6.toNatClampNeg).toNatClampNeg) + (g 4 i x4.toNatClampNeg))) 25 (0 + (g 21 0 x6.toNatClampNeg).toNatClampNeg) x4.toNatClampNeg ((g 25 (0 + x5.toNatClampNeg) (g 21 0 x6.toNatClampNeg).toNatClampNeg) + (g 4 i x4.toNatClampNeg))))
      else none)
      else none)
      else none)
      else none)
      else none)
      else none)
      else none)
      else none)) := rfl
set_option maxRecDepth 50000 in
theorem eV_measure_72 (ct : am_T) (n : Nat) (i : Nat) (x2 : Int32) (x3 : Int32) (o4 : Option am_V) (o5 : Option am_V) (o6 : Option am_V) (o7 : Option am_V) (o8 : Option am_V) (g : am_G) : am_run ct 55 (n + 1) 72 [some (.inr (.inr (20, 0))), some (.inr (.inr (1, i))), some (.inl x2), some (.inl x3), o4, o5, o6, o7, o8] [] g =
  if (g 121 0 0) ≤ x3 then
    (some (none, g))
  else
    (bif am_in x3 24 then
      (bif am_in x3 24 then
      (am_bi (ct 56 [.inr (.inr (20, 0)), .inl (g 21 0 x3.toNatClampNeg)] g) (fun r1 g1 =>
    bif am_in (g 21 0 x3.toNatClampNeg) 24 then
      (am_run ct 55 n 72 [some (.inr (.inr (20, 0))), some (.inr (.inr (1, i))), some (.inl x2), some (.inl (x3 + 1)), o4, o5, o6, o7, o8] [] (am_sto g1 26 0 (g 21 0 x3.toNatClampNeg).toNatClampNeg r1))
    else none))
    else none)
    else none) := rfl
set_option maxRecDepth 50000 in
theorem eV_farthestFrom_0 (ct : am_T) (n : Nat) (x1 : Int32) (g : am_G) : am_run ct 56 (n + 1) 0 [some (.inr (.inr (20, 0))), some (.inl x1), none, none] [] g =
  am_run ct 56 n 4 [some (.inr (.inr (20, 0))), some (.inl x1), some (.inl (0 : Int32)), some (.inl (0 : Int32))] [] g := rfl
set_option maxRecDepth 50000 in
theorem eV_farthestFrom_4 (ct : am_T) (n : Nat) (x1 : Int32) (x2 : Int32) (x3 : Int32) (g : am_G) : am_run ct 56 (n + 1) 4 [some (.inr (.inr (20, 0))), some (.inl x1), some (.inl x2), some (.inl x3)] [] g =
  if (g 121 0 0) ≤ x3 then
    (some (some (.inl x2), g))
  else
    (bif am_in x1 24 then
      (bif am_in x3 24 then
      (bif am_in (g 21 0 x3.toNatClampNeg) 24 then
      (am_run ct 56 n 4 [some (.inr (.inr (20, 0))), some (.inl x1), some (.inl (if x2 < (g 25 (0 + x1.toNatClampNeg) (g 21 0 x3.toNatClampNeg).toNatClampNeg) then (g 25 (0 + x1.toNatClampNeg) (g 21 0 x3.toNatClampNeg).toNatClampNeg) else x2)), some (.inl (x3 + 1))] [] g)
    else none)
    else none)
    else none) := rfl
set_option maxRecDepth 50000 in
theorem eV_widestReach_0 (ct : am_T) (n : Nat)  (g : am_G) : am_run ct 57 (n + 1) 0 [some (.inr (.inr (20, 0))), none, none] [] g =
  am_run ct 57 n 4 [some (.inr (.inr (20, 0))), some (.inl (0 : Int32)), some (.inl (0 : Int32))] [] g := rfl
set_option maxRecDepth 50000 in
theorem eV_widestReach_4 (ct : am_T) (n : Nat) (x1 : Int32) (x2 : Int32) (g : am_G) : am_run ct 57 (n + 1) 4 [some (.inr (.inr (20, 0))), some (.inl x1), some (.inl x2)] [] g =
  if (g 121 0 0) ≤ x2 then
    (some (some (.inl x1), g))
  else
    (bif am_in x2 24 then
      (bif am_in (g 21 0 x2.toNatClampNeg) 24 then
      (am_run ct 57 n 4 [some (.inr (.inr (20, 0))), some (.inl (if x1 < (g 26 0 (g 21 0 x2.toNatClampNeg).toNatClampNeg) then (g 26 0 (g 21 0 x2.toNatClampNeg).toNatClampNeg) else x1)), some (.inl (x2 + 1))] [] g)
    else none)
    else none) := rfl
set_option maxRecDepth 50000 in
theorem eV_findHomes_0 (ct : am_T) (n : Nat) (i : Nat) (g : am_G) : am_run ct 58 (n + 1) 0 [some (.inr (.inr (20, 0))), some (.inr (.inr (1, i))), none] [] g =
  am_run ct 58 n 2 [some (.inr (.inr (20, 0))), some (.inr (.inr (1, i))), some (.inl (0 : Int32))] [] g := rfl
set_option maxRecDepth 50000 in
theorem eV_findHomes_2 (ct : am_T) (n : Nat) (i : Nat) (x2 : Int32) (g : am_G) : am_run ct 58 (n + 1) 2 [some (.inr (.inr (20, 0))), some (.inr (.inr (1, i))), some (.inl x2)] [] g =
  if (g 102 i 0) ≤ x2 then
    (some (none, g))
  else
    (am_bi (ct 11 [.inr (.inr (1, i)), .inl x2] g) (fun r1 g1 =>
    bif am_in x2 24 then
      (am_run ct 58 n 2 [some (.inr (.inr (20, 0))), some (.inr (.inr (1, i))), some (.inl (x2 + 1))] [] (am_sto g1 23 0 x2.toNatClampNeg r1))
    else none)) := rfl
set_option maxRecDepth 50000 in
theorem eV_setPair_0 (ct : am_T) (n : Nat) (x1 : Int32) (x2 : Int32) (x3 : Int32) (g : am_G) : am_run ct 59 (n + 1) 0 [some (.inr (.inr (20, 0))), some (.inl x1), some (.inl x2), some (.inl x3)] [] g =
  bif am_in (0 : Int32) 3 then
    (bif am_in (1 : Int32) 3 then
    (bif am_in (2 : Int32) 3 then
    (some (none, am_sto (am_sto (am_sto g 27 0 (0 : Int32).toNatClampNeg x1) 27 0 (1 : Int32).toNatClampNeg x2) 27 0 (2 : Int32).toNatClampNeg x3))
  else none)
  else none)
  else none := rfl
set_option maxRecDepth 50000 in
theorem eV_findWidest_0 (ct : am_T) (n : Nat) (i : Nat) (x2 : Int32) (g : am_G) : am_run ct 60 (n + 1) 0 [some (.inr (.inr (20, 0))), some (.inr (.inr (1, i))), some (.inl x2), none, none, none] [] g =
  am_bi (ct 11 [.inr (.inr (1, i)), .inl x2] g) (fun r1 g1 =>
  am_bv (ct 58 [.inr (.inr (20, 0)), .inr (.inr (1, i))] g1) (fun g2 =>
  am_bv (ct 55 [.inr (.inr (20, 0)), .inr (.inr (1, i)), .inl r1] g2) (fun g3 =>
  am_bv (ct 59 [.inr (.inr (20, 0)), .inl (0 : Int32), .inl x2, .inl x2] g3) (fun g4 =>
  am_run ct 60 n 18 [some (.inr (.inr (20, 0))), some (.inr (.inr (1, i))), some (.inl x2), some (.inl r1), some (.inl (0 : Int32)), none] [] g4)))) := rfl
set_option maxRecDepth 50000 in
theorem eV_findWidest_18 (ct : am_T) (n : Nat) (i : Nat) (x2 : Int32) (x3 : Int32) (x4 : Int32) (o5 : Option am_V) (g : am_G) : am_run ct 60 (n + 1) 18 [some (.inr (.inr (20, 0))), some (.inr (.inr (1, i))), some (.inl x2), some (.inl x3), some (.inl x4), o5] [] g =
  if (g 102 i 0) ≤ x4 then
    (some (none, g))
  else
    (am_run ct 60 n 26 [some (.inr (.inr (20, 0))), some (.inr (.inr (1, i))), some (.inl x2), some (.inl x3), some (.inl x4), some (.inl (x4 + (1 : Int32)))] [] g) := rfl
set_option maxRecDepth 50000 in
theorem eV_findWidest_26 (ct : am_T) (n : Nat) (i : Nat) (x2 : Int32) (x3 : Int32) (x4 : Int32) (x5 : Int32) (g : am_G) : am_run ct 60 (n + 1) 26 [some (.inr (.inr (20, 0))), some (.inr (.inr (1, i))), some (.inl x2), some (.inl x3), some (.inl x4), some (.inl x5)] [] g =
  if (g 102 i 0) ≤ x5 then
    (am_run ct 60 n 18 [some (.inr (.inr (20, 0))), some (.inr (.inr (1, i))), some (.inl x2), some (.inl x3), some (.inl (x4 + 1)), some (.inl x5)] [] g)
  else
    (bif am_in x4 24 then
      (if (g 23 0 x4.toNatClampNeg) = x3 then
      (bif am_in x5 24 then
        (if (g 23 0 x5.toNatClampNeg) = x3 then
        (bif am_in x4 24 then
          (bif am_in x5 24 then
          (bif am_in (0 : Int32) 3 then
          (if (g 25 (0 + x4.toNatClampNeg) x5.toNatClampNeg) ≤ (g 27 0 (0 : Int32).toNatClampNeg) then
          (am_run ct 60 n 26 [some (.inr (.inr (20, 0))), some (.inr (.inr (1, i))), some (.inl x2), some (.inl x3), some (.inl x4), some (.inl (x5 + 1))] [] g)
        else
          (bif am_in x4 24 then
            (bif am_in x5 24 then
            (am_bv (ct 59 [.inr (.inr (20, 0)), .inl (g 25 (0 + x4.toNatClampNeg) x5.toNatClampNeg), .inl x4, .inl x5] g) (fun g1 =>
          am_run ct 60 n 26 [some (.inr (.inr (20, 0))), some (.inr (.inr (1, i))), some (.inl x2), some (.inl x3), some (.inl x4), some (.inl (x5 + 1))] [] g1))
          else none)
          else none))
        else none)
        else none)
        else none)
      else
        (am_run ct 60 n 26 [some (.inr (.inr (20, 0))), some (.inr (.inr (1, i))), some (.inl x2), some (.inl x3), some (.inl x4), some (.inl (x5 + 1))] [] g))
      else none)
    else
      (am_run ct 60 n 26 [some (.inr (.inr (20, 0))), some (.inr (.inr (1, i))), some (.inl x2), some (.inl x3), some (.inl x4), some (.inl (x5 + 1))] [] g))
    else none) := rfl
set_option maxRecDepth 50000 in
theorem eV_findJoint_0 (ct : am_T) (n : Nat) (i : Nat) (x2 : Int32) (x3 : Int32) (g : am_G) : am_run ct 61 (n + 1) 0 [some (.inr (.inr (20, 0))), some (.inr (.inr (1, i))), some (.inl x2), some (.inl x3), none, none, none, none, none, none] [] g =
  am_bi (ct 11 [.inr (.inr (1, i)), .inl x2] g) (fun r1 g1 =>
  am_bi (ct 11 [.inr (.inr (1, i)), .inl x3] g1) (fun r2 g2 =>
  am_bv (ct 58 [.inr (.inr (20, 0)), .inr (.inr (1, i))] g2) (fun g3 =>
  am_bv (ct 55 [.inr (.inr (20, 0)), .inr (.inr (1, i)), .inl r1] g3) (fun g4 =>
  am_bi (ct 57 [.inr (.inr (20, 0))] g4) (fun r5 g5 =>
  am_bv (ct 55 [.inr (.inr (20, 0)), .inr (.inr (1, i)), .inl r2] g5) (fun g6 =>
  am_bi (ct 57 [.inr (.inr (20, 0))] g6) (fun r7 g7 =>
  am_bv (ct 59 [.inr (.inr (20, 0)), .inl (-1 : Int32), .inl (-1 : Int32), .inl (-1 : Int32)] g7) (fun g8 =>
  am_run ct 61 n 34 [some (.inr (.inr (20, 0))), some (.inr (.inr (1, i))), some (.inl x2), some (.inl x3), some (.inl r1), some (.inl r2), some (.inl (if r5 < r7 then r7 else r5)), some (.inl (0 : Int32)), none, none] [] g8)))))))) := rfl
set_option maxRecDepth 50000 in
theorem eV_findJoint_34 (ct : am_T) (n : Nat) (i : Nat) (x2 : Int32) (x3 : Int32) (x4 : Int32) (x5 : Int32) (x6 : Int32) (x7 : Int32) (o8 : Option am_V) (o9 : Option am_V) (g : am_G) : am_run ct 61 (n + 1) 34 [some (.inr (.inr (20, 0))), some (.inr (.inr (1, i))), some (.inl x2), some (.inl x3), some (.inl x4), some (.inl x5), some (.inl x6), some (.inl x7), o8, o9] [] g =
  if (g 102 i 0) ≤ x7 then
    (some (none, g))
  else
    (am_run ct 61 n 40 [some (.inr (.inr (20, 0))), some (.inr (.inr (1, i))), some (.inl x2), some (.inl x3), some (.inl x4), some (.inl x5), some (.inl x6), some (.inl x7), some (.inl (0 : Int32)), o9] [] g) := rfl
set_option maxRecDepth 50000 in
theorem eV_findJoint_40 (ct : am_T) (n : Nat) (i : Nat) (x2 : Int32) (x3 : Int32) (x4 : Int32) (x5 : Int32) (x6 : Int32) (x7 : Int32) (x8 : Int32) (o9 : Option am_V) (g : am_G) : am_run ct 61 (n + 1) 40 [some (.inr (.inr (20, 0))), some (.inr (.inr (1, i))), some (.inl x2), some (.inl x3), some (.inl x4), some (.inl x5), some (.inl x6), some (.inl x7), some (.inl x8), o9] [] g =
  if (g 102 i 0) ≤ x8 then
    (am_run ct 61 n 34 [some (.inr (.inr (20, 0))), some (.inr (.inr (1, i))), some (.inl x2), some (.inl x3), some (.inl x4), some (.inl x5), some (.inl x6), some (.inl (x7 + 1)), some (.inl x8), o9] [] g)
  else
    (bif am_in x7 24 then
      (if (g 23 0 x7.toNatClampNeg) = x4 then
      (bif am_in x8 24 then
        (if (g 23 0 x8.toNatClampNeg) = x5 then
        (bif am_in x7 24 then
          (bif am_in x8 24 then
          (bif am_in (0 : Int32) 3 then
          (if (g 27 0 (0 : Int32).toNatClampNeg) = (-1 : Int32) then
          (am_bv (ct 59 [.inr (.inr (20, 0)), .inl (if x6 < (((g 26 0 x7.toNatClampNeg) + (1 : Int32)) + (g 26 0 x8.toNatClampNeg)) then (((g 26 0 x7.toNatClampNeg) + (1 : Int32)) + (g 26 0 x8.toNatClampNeg)) else x6), .inl x7, .inl x8] g) (fun g1 =>
          am_run ct 61 n 40 [some (.inr (.inr (20, 0))), some (.inr (.inr (1, i))), some (.inl x2), some (.inl x3), some (.inl x4), some (.inl x5), some (.inl x6), some (.inl x7), some (.inl (x8 + 1)), some (.inl (if x6 < (((g 26 0 x7.toNatClampNeg) + (1 : Int32)) + (g 26 0 x8.toNatClampNeg)) then (((g 26 0 x7.toNatClampNeg) + (1 : Int32)) + (g 26 0 x8.toNatClampNeg)) else x6))] [] g1))
        else
          (bif am_in (0 : Int32) 3 then
            (if (g 27 0 (0 : Int32).toNatClampNeg) ≤ (if x6 < (((g 26 0 x7.toNatClampNeg) + (1 : Int32)) + (g 26 0 x8.toNatClampNeg)) then (((g 26 0 x7.toNatClampNeg) + (1 : Int32)) + (g 26 0 x8.toNatClampNeg)) else x6) then
            (am_run ct 61 n 40 [some (.inr (.inr (20, 0))), some (.inr (.inr (1, i))), some (.inl x2), some (.inl x3), some (.inl x4), some (.inl x5), some (.inl x6), some (.inl x7), some (.inl (x8 + 1)), some (.inl (if x6 < (((g 26 0 x7.toNatClampNeg) + (1 : Int32)) + (g 26 0 x8.toNatClampNeg)) then (((g 26 0 x7.toNatClampNeg) + (1 : Int32)) + (g 26 0 x8.toNatClampNeg)) else x6))] [] g)
          else
            (am_bv (ct 59 [.inr (.inr (20, 0)), .inl (if x6 < (((g 26 0 x7.toNatClampNeg) + (1 : Int32)) + (g 26 0 x8.toNatClampNeg)) then (((g 26 0 x7.toNatClampNeg) + (1 : Int32)) + (g 26 0 x8.toNatClampNeg)) else x6), .inl x7, .inl x8] g) (fun g2 =>
            am_run ct 61 n 40 [some (.inr (.inr (20, 0))), some (.inr (.inr (1, i))), some (.inl x2), some (.inl x3), some (.inl x4), some (.inl x5), some (.inl x6), some (.inl x7), some (.inl (x8 + 1)), some (.inl (if x6 < (((g 26 0 x7.toNatClampNeg) + (1 : Int32)) + (g 26 0 x8.toNatClampNeg)) then (((g 26 0 x7.toNatClampNeg) + (1 : Int32)) + (g 26 0 x8.toNatClampNeg)) else x6))] [] g2)))
          else none))
        else none)
        else none)
        else none)
      else
        (am_run ct 61 n 40 [some (.inr (.inr (20, 0))), some (.inr (.inr (1, i))), some (.inl x2), some (.inl x3), some (.inl x4), some (.inl x5), some (.inl x6), some (.inl x7), some (.inl (x8 + 1)), o9] [] g))
      else none)
    else
      (am_run ct 61 n 40 [some (.inr (.inr (20, 0))), some (.inr (.inr (1, i))), some (.inl x2), some (.inl x3), some (.inl x4), some (.inl x5), some (.inl x6), some (.inl x7), some (.inl (x8 + 1)), o9] [] g))
    else none) := rfl
set_option maxRecDepth 50000 in
theorem eT_tell_0 (ct : am_T) (n : Nat) (x2 : Int32) (g : am_G) : am_run ct 62 (n + 1) 0 [some (.inr (.inr (10, 0))), some (.inr (.inr (13, 0))), some (.inl x2), none] [] g =
  am_bv (ct 0 [.inr (.inr (1, 1))] g) (fun g1 =>
  am_bv (ct 41 [.inr (.inr (8, 1))] g1) (fun g2 =>
  am_bv (ct 45 [.inr (.inr (11, 0)), .inr (.inr (13, 0)), .inl x2] (am_put (am_put (am_put g2 107 0 (0 : Int32)) 108 0 (0 : Int32)) 109 0 (-1 : Int32))) (fun g3 =>
  am_run ct 62 n 22 [some (.inr (.inr (10, 0))), some (.inr (.inr (13, 0))), some (.inl x2), some (.inl (0 : Int32))] [] g3))) := rfl
set_option maxRecDepth 50000 in
theorem eT_tell_22 (ct : am_T) (n : Nat) (x2 : Int32) (x3 : Int32) (g : am_G) : am_run ct 62 (n + 1) 22 [some (.inr (.inr (10, 0))), some (.inr (.inr (13, 0))), some (.inl x2), some (.inl x3)] [] g =
  if (700 : Int32) < x3 then
    (some (some (.inl (1 : Int32)), g))
  else
    (if (g 113 0 0) = 0 then
      (some (some (.inl (1 : Int32)), g))
    else
      (am_bi (ct 64 [.inr (.inr (10, 0))] g) (fun r1 g1 =>
      if r1 = 0 then
        (some (some (.inl (0 : Int32)), g1))
      else
        (am_run ct 62 n 22 [some (.inr (.inr (10, 0))), some (.inr (.inr (13, 0))), some (.inl x2), some (.inl (x3 + 1))] [] (am_put g1 107 0 ((g1 107 0 0) + (1 : Int32))))))) := rfl
set_option maxRecDepth 50000 in
theorem eT_fail_0 (ct : am_T) (n : Nat) (x1 : Int32) (g : am_G) : am_run ct 63 (n + 1) 0 [some (.inr (.inr (10, 0))), some (.inl x1)] [] g =
  some (some (.inl (0 : Int32)), am_put (am_put g 108 0 x1) 109 0 ((am_put g 108 0 x1) 114 0 0)) := rfl
set_option maxRecDepth 50000 in
theorem eT_tellLine_0 (ct : am_T) (n : Nat)  (g : am_G) : am_run ct 64 (n + 1) 0 [some (.inr (.inr (10, 0))), none] [] g =
  if (g 113 0 0) = (1 : Int32) then
    (if (g 115 0 0) = 412560384 then
      (am_bi (ct 66 [.inr (.inr (10, 0))] g) (fun r1 g1 =>
      bif am_01 r1 then some (some (.inl r1), g1) else none))
    else if (g 115 0 0) = 620220416 then
      (am_bi (ct 67 [.inr (.inr (10, 0)), .inl (g 115 0 0)] g) (fun r2 g2 =>
      bif am_01 r2 then some (some (.inl r2), g2) else none))
    else if (g 115 0 0) = 642945024 then
      (am_bi (ct 68 [.inr (.inr (10, 0))] g) (fun r3 g3 =>
      bif am_01 r3 then some (some (.inl r3), g3) else none))
    else if (g 115 0 0) = 643453317 then
      (am_bi (ct 67 [.inr (.inr (10, 0)), .inl (g 115 0 0)] g) (fun r4 g4 =>
      bif am_01 r4 then some (some (.inl r4), g4) else none))
    else if (g 115 0 0) = 687508736 then
      (am_bi (ct 67 [.inr (.inr (10, 0)), .inl (g 115 0 0)] g) (fun r5 g5 =>
      bif am_01 r5 then some (some (.inl r5), g5) else none))
    else if (g 115 0 0) = 687585280 then
      (am_bi (ct 65 [.inr (.inr (10, 0))] g) (fun r6 g6 =>
      bif am_01 r6 then some (some (.inl r6), g6) else none))
    else (am_bi (ct 63 [.inr (.inr (10, 0)), .inl (1 : Int32)] g) (fun r7 g7 =>
      bif am_01 r7 then some (some (.inl r7), g7) else none)))
  else
    (am_bi (ct 63 [.inr (.inr (10, 0)), .inl (1 : Int32)] g) (fun r8 g8 =>
    bif am_01 r8 then some (some (.inl r8), g8) else none)) := rfl
set_option maxRecDepth 50000 in
theorem eT_tellTown_0 (ct : am_T) (n : Nat)  (g : am_G) : am_run ct 65 (n + 1) 0 [some (.inr (.inr (10, 0))), none, none] [] g =
  if (g 104 1 0) < (24 : Int32) then
    (am_bv (ct 46 [.inr (.inr (11, 0))] g) (fun g1 =>
    am_bi (ct 69 [.inr (.inr (10, 0))] g1) (fun r2 g2 =>
    if r2 = 0 then
      (am_bi (ct 63 [.inr (.inr (10, 0)), .inl (1 : Int32)] g2) (fun r17 g17 =>
      bif am_01 r17 then some (some (.inl r17), g17) else none))
    else
      (am_bi (ct 44 [.inr (.inr (8, 1)), .inl (g2 115 0 0)] g2) (fun r3 g3 =>
      if r3 = (-1 : Int32) then
        (am_bv (ct 46 [.inr (.inr (11, 0))] g3) (fun g4 =>
        if (g4 113 0 0) = (3 : Int32) then
          (am_bi (ct 127 [.inl (g4 116 0 0), .inl (-9999 : Int32), .inl (9999 : Int32)] g4) (fun r5 g5 =>
          if r5 = 0 then
            (am_bi (ct 63 [.inr (.inr (10, 0)), .inl (2 : Int32)] g5) (fun r9 g9 =>
            bif am_01 r9 then some (some (.inl r9), g9) else none))
          else
            (am_bi (ct 73 [.inr (.inr (10, 0))] g5) (fun r6 g6 =>
            if r6 = 0 then
              (some (some (.inl (0 : Int32)), g6))
            else
              (am_bv (ct 43 [.inr (.inr (8, 1)), .inl (g2 115 0 0)] g6) (fun g7 =>
              am_bv (ct 2 [.inr (.inr (1, 1)), .inl (g4 116 0 0)] g7) (fun g8 =>
              some (some (.inl (1 : Int32)), g8))))))))
        else
          (am_bi (ct 71 [.inr (.inr (10, 0))] g4) (fun r10 g10 =>
          if r10 = 0 then
            (some (some (.inl (0 : Int32)), g10))
          else
            (am_bi (ct 127 [.inl (g10 116 0 0), .inl (-9999 : Int32), .inl (9999 : Int32)] g10) (fun r11 g11 =>
            if r11 = 0 then
              (am_bi (ct 63 [.inr (.inr (10, 0)), .inl (2 : Int32)] g11) (fun r15 g15 =>
              bif am_01 r15 then some (some (.inl r15), g15) else none))
            else
              (am_bi (ct 73 [.inr (.inr (10, 0))] g11) (fun r12 g12 =>
              if r12 = 0 then
                (some (some (.inl (0 : Int32)), g12))
              else
                (am_bv (ct 43 [.inr (.inr (8, 1)), .inl (g2 115 0 0)] g12) (fun g13 =>
                am_bv (ct 2 [.inr (.inr (1, 1)), .inl (g10 116 0 0)] g13) (fun g14 =>
                some (some (.inl (1 : Int32)), g14))))))))))))
      else
        (am_bi (ct 63 [.inr (.inr (10, 0)), .inl (3 : Int32)] g3) (fun r16 g16 =>
        bif am_01 r16 then some (some (.inl r16), g16) else none)))))))
  else
    (am_bi (ct 63 [.inr (.inr (10, 0)), .inl (2 : Int32)] g) (fun r18 g18 =>
    bif am_01 r18 then some (some (.inl r18), g18) else none)) := rfl
set_option maxRecDepth 50000 in
theorem eT_tellLink_0 (ct : am_T) (n : Nat)  (g : am_G) : am_run ct 66 (n + 1) 0 [some (.inr (.inr (10, 0))), none, none, none, none] [] g =
  am_bv (ct 46 [.inr (.inr (11, 0))] g) (fun g1 =>
  am_bi (ct 70 [.inr (.inr (10, 0))] g1) (fun r2 g2 =>
  if r2 = 0 then
    (some (some (.inl (0 : Int32)), g2))
  else
    (am_bi (ct 44 [.inr (.inr (8, 1)), .inl (g2 115 0 0)] g2) (fun r3 g3 =>
    am_bv (ct 46 [.inr (.inr (11, 0))] g3) (fun g4 =>
    am_bi (ct 70 [.inr (.inr (10, 0))] g4) (fun r5 g5 =>
    if r5 = 0 then
      (some (some (.inl (0 : Int32)), g5))
    else
      (am_bi (ct 44 [.inr (.inr (8, 1)), .inl (g5 115 0 0)] g5) (fun r6 g6 =>
      am_bi (ct 4 [.inr (.inr (1, 1)), .inl r3, .inl r6] g6) (fun r7 g7 =>
      if r7 = 0 then
        (am_bi (ct 63 [.inr (.inr (10, 0)), .inl (3 : Int32)] g7) (fun r8 g8 =>
        bif am_01 r8 then some (some (.inl r8), g8) else none))
      else
        (am_bi (ct 15 [.inr (.inr (1, 1)), .inl r3, .inl r6] g7) (fun r9 g9 =>
        if r9 = 0 then
          (am_bv (ct 46 [.inr (.inr (11, 0))] g9) (fun g10 =>
          am_bi (ct 72 [.inr (.inr (10, 0)), .inl (1 : Int32), .inl (9999 : Int32)] g10) (fun r11 g11 =>
          if r11 = 0 then
            (some (some (.inl (0 : Int32)), g11))
          else
            (am_bv (ct 46 [.inr (.inr (11, 0))] g11) (fun g12 =>
            am_bi (ct 72 [.inr (.inr (10, 0)), .inl (1 : Int32), .inl (9999 : Int32)] g12) (fun r13 g13 =>
            if r13 = 0 then
              (some (some (.inl (0 : Int32)), g13))
            else
              (am_bi (ct 73 [.inr (.inr (10, 0))] g13) (fun r14 g14 =>
              if r14 = 0 then
                (some (some (.inl (0 : Int32)), g14))
              else
                (am_bv (ct 8 [.inr (.inr (1, 1)), .inl r3, .inl r6, .inl (g11 116 0 0), .inl (g13 116 0 0)] g14) (fun g15 =>
                some (some (.inl (1 : Int32)), g15)))))))))))
        else
          (am_bi (ct 63 [.inr (.inr (10, 0)), .inl (3 : Int32)] g9) (fun r16 g16 =>
          bif am_01 r16 then some (some (.inl r16), g16) else none))))))))))))) := rfl
set_option maxRecDepth 50000 in
theorem eT_tellDeed_0 (ct : am_T) (n : Nat) (x1 : Int32) (g : am_G) : am_run ct 67 (n + 1) 0 [some (.inr (.inr (10, 0))), some (.inl x1), none] [] g =
  am_bv (ct 46 [.inr (.inr (11, 0))] g) (fun g1 =>
  am_bi (ct 70 [.inr (.inr (10, 0))] g1) (fun r2 g2 =>
  if r2 = 0 then
    (some (some (.inl (0 : Int32)), g2))
  else
    (am_bi (ct 44 [.inr (.inr (8, 1)), .inl (g2 115 0 0)] g2) (fun r3 g3 =>
    am_bi (ct 73 [.inr (.inr (10, 0))] g3) (fun r4 g4 =>
    if r4 = 0 then
      (some (some (.inl (0 : Int32)), g4))
    else
      (am_bi (ct 3 [.inr (.inr (1, 1)), .inl r3] g4) (fun r5 g5 =>
      if r5 = 0 then
        (some (some (.inl (0 : Int32)), g5))
      else
        (if x1 = (620220416 : Int32) then
          (am_bv (ct 6 [.inr (.inr (1, 1)), .inl r3] g5) (fun g8 =>
          some (some (.inl (1 : Int32)), g8)))
        else
          (if x1 = (687508736 : Int32) then
            (am_bv (ct 5 [.inr (.inr (1, 1)), .inl r3] g5) (fun g7 =>
            some (some (.inl (1 : Int32)), g7)))
          else
            (am_bi (ct 10 [.inr (.inr (1, 1)), .inl r3] g5) (fun r6 g6 =>
            some (some (.inl (1 : Int32)), g6)))))))))))) := rfl
set_option maxRecDepth 50000 in
theorem eT_tellSeed_0 (ct : am_T) (n : Nat)  (g : am_G) : am_run ct 68 (n + 1) 0 [some (.inr (.inr (10, 0)))] [] g =
  if (g 106 1 0) = 0 then
    (am_bv (ct 46 [.inr (.inr (11, 0))] g) (fun g1 =>
    am_bi (ct 72 [.inr (.inr (10, 0)), .inl (0 : Int32), .inl (99999 : Int32)] g1) (fun r2 g2 =>
    if r2 = 0 then
      (some (some (.inl (0 : Int32)), g2))
    else
      (am_bi (ct 73 [.inr (.inr (10, 0))] (am_put (am_put g2 105 1 (g2 116 0 0)) 106 1 (1 : Int32))) (fun r3 g3 =>
      bif am_01 r3 then some (some (.inl r3), g3) else none)))))
  else
    (am_bi (ct 63 [.inr (.inr (10, 0)), .inl (3 : Int32)] g) (fun r4 g4 =>
    bif am_01 r4 then some (some (.inl r4), g4) else none)) := rfl
set_option maxRecDepth 50000 in
theorem eT_isAtName_0 (ct : am_T) (n : Nat)  (g : am_G) : am_run ct 69 (n + 1) 0 [some (.inr (.inr (10, 0)))] [] g =
  if (g 113 0 0) = (1 : Int32) then
    (if (g 115 0 0) = 412560384 then
      (some (some (.inl (0 : Int32)), g))
    else if (g 115 0 0) = 620220416 then
      (some (some (.inl (0 : Int32)), g))
    else if (g 115 0 0) = 642945024 then
      (some (some (.inl (0 : Int32)), g))
    else if (g 115 0 0) = 643453317 then
      (some (some (.inl (0 : Int32)), g))
    else if (g 115 0 0) = 687508736 then
      (some (some (.inl (0 : Int32)), g))
    else if (g 115 0 0) = 687585280 then
      (some (some (.inl (0 : Int32)), g))
    else (some (some (.inl (1 : Int32)), g)))
  else
    (some (some (.inl (0 : Int32)), g)) := rfl
set_option maxRecDepth 50000 in
theorem eT_takesTown_0 (ct : am_T) (n : Nat)  (g : am_G) : am_run ct 70 (n + 1) 0 [some (.inr (.inr (10, 0)))] [] g =
  am_bi (ct 69 [.inr (.inr (10, 0))] g) (fun r1 g1 =>
  if r1 = 0 then
    (am_bi (ct 63 [.inr (.inr (10, 0)), .inl (1 : Int32)] g1) (fun r4 g4 =>
    bif am_01 r4 then some (some (.inl r4), g4) else none))
  else
    (am_bi (ct 44 [.inr (.inr (8, 1)), .inl (g1 115 0 0)] g1) (fun r2 g2 =>
    if r2 = (-1 : Int32) then
      (am_bi (ct 63 [.inr (.inr (10, 0)), .inl (4 : Int32)] g2) (fun r3 g3 =>
      if r3 = 0 then
        (some (some (.inl (0 : Int32)), g3))
      else
        (some (some (.inl (1 : Int32)), g3))))
    else
      (some (some (.inl (1 : Int32)), g2))))) := rfl
set_option maxRecDepth 50000 in
theorem eT_takesNumber_0 (ct : am_T) (n : Nat)  (g : am_G) : am_run ct 71 (n + 1) 0 [some (.inr (.inr (10, 0)))] [] g =
  if (g 113 0 0) = (2 : Int32) then
    (some (some (.inl (1 : Int32)), g))
  else
    (am_bi (ct 63 [.inr (.inr (10, 0)), .inl (1 : Int32)] g) (fun r1 g1 =>
    if r1 = 0 then
      (some (some (.inl (0 : Int32)), g1))
    else
      (some (some (.inl (1 : Int32)), g1)))) := rfl
set_option maxRecDepth 50000 in
theorem eT_takesNumberWithin_0 (ct : am_T) (n : Nat) (x1 : Int32) (x2 : Int32) (g : am_G) : am_run ct 72 (n + 1) 0 [some (.inr (.inr (10, 0))), some (.inl x1), some (.inl x2)] [] g =
  am_bi (ct 71 [.inr (.inr (10, 0))] g) (fun r1 g1 =>
  if r1 = 0 then
    (some (some (.inl (0 : Int32)), g1))
  else
    (am_bi (ct 127 [.inl (g1 116 0 0), .inl x1, .inl x2] g1) (fun r2 g2 =>
    if r2 = 0 then
      (am_bi (ct 63 [.inr (.inr (10, 0)), .inl (2 : Int32)] g2) (fun r3 g3 =>
      if r3 = 0 then
        (some (some (.inl (0 : Int32)), g3))
      else
        (some (some (.inl (1 : Int32)), g3))))
    else
      (some (some (.inl (1 : Int32)), g2))))) := rfl
set_option maxRecDepth 50000 in
theorem eT_endsLine_0 (ct : am_T) (n : Nat)  (g : am_G) : am_run ct 73 (n + 1) 0 [some (.inr (.inr (10, 0)))] [] g =
  am_bv (ct 46 [.inr (.inr (11, 0))] g) (fun g1 =>
  if (g1 113 0 0) = (4 : Int32) then
    (am_bv (ct 46 [.inr (.inr (11, 0))] g1) (fun g2 =>
    some (some (.inl (1 : Int32)), g2)))
  else
    (am_bi (ct 63 [.inr (.inr (10, 0)), .inl (1 : Int32)] g1) (fun r3 g3 =>
    bif am_01 r3 then some (some (.inl r3), g3) else none))) := rfl
set_option maxRecDepth 50000 in
theorem eY_lay_0 (ct : am_T) (n : Nat) (w i : Nat) (x2 : Int32) (x3 : Int32) (g : am_G) : am_run ct 74 (n + 1) 0 [some (.inr (.inr (16, w))), some (.inr (.inr (1, i))), some (.inl x2), some (.inl x3), none, none, none, none, none] [] g =
  am_bi (ct 16 [.inr (.inr (1, i)), .inl x2, .inl x3] (am_put g 119 w (0 : Int32))) (fun r1 g1 =>
  if r1 = (-1 : Int32) then
    (some (none, g1))
  else
    (am_bi (ct 12 [.inr (.inr (1, i)), .inl x2] g1) (fun r2 g2 =>
    am_bi (ct 12 [.inr (.inr (1, i)), .inl r1] g2) (fun r3 g3 =>
    am_bi (ct 12 [.inr (.inr (1, i)), .inl x3] g3) (fun r4 g4 =>
    am_bi (ct 12 [.inr (.inr (1, i)), .inl r1] g4) (fun r5 g5 =>
    am_run ct 74 n 41 [some (.inr (.inr (16, w))), some (.inr (.inr (1, i))), some (.inl x2), some (.inl x3), some (.inl r1), some (.inl (r2 - r3)), some (.inl (r4 - r5)), some (.inl x2), some (.inl (0 : Int32))] [] (am_put g5 119 w (if (24 : Int32) < (((r2 - r3) + (1 : Int32)) + (r4 - r5)) then (24 : Int32) else (((r2 - r3) + (1 : Int32)) + (r4 - r5)))))))))) := rfl
set_option maxRecDepth 50000 in
theorem eY_lay_41 (ct : am_T) (n : Nat) (w i : Nat) (x2 : Int32) (x3 : Int32) (x4 : Int32) (x5 : Int32) (x6 : Int32) (x7 : Int32) (x8 : Int32) (g : am_G) : am_run ct 74 (n + 1) 41 [some (.inr (.inr (16, w))), some (.inr (.inr (1, i))), some (.inl x2), some (.inl x3), some (.inl x4), some (.inl x5), some (.inl x6), some (.inl x7), some (.inl x8)] [] g =
  if x5 < x8 then
    (am_run ct 74 n 70 [some (.inr (.inr (16, w))), some (.inr (.inr (1, i))), some (.inl x2), some (.inl x3), some (.inl x4), some (.inl x5), some (.inl x6), some (.inl x3), some (.inl ((g 119 w 0) - (1 : Int32)))] [] g)
  else
    (if (g 119 w 0) ≤ x8 then
      (am_run ct 74 n 70 [some (.inr (.inr (16, w))), some (.inr (.inr (1, i))), some (.inl x2), some (.inl x3), some (.inl x4), some (.inl x5), some (.inl x6), some (.inl x3), some (.inl ((g 119 w 0) - (1 : Int32)))] [] g)
    else
      (if x7 = (-1 : Int32) then
        (am_run ct 74 n 70 [some (.inr (.inr (16, w))), some (.inr (.inr (1, i))), some (.inl x2), some (.inl x3), some (.inl x4), some (.inl x5), some (.inl x6), some (.inl x3), some (.inl ((g 119 w 0) - (1 : Int32)))] [] g)
      else
        (bif am_in x8 24 then
          (bif am_in x7 24 then
          (am_run ct 74 n 41 [some (.inr (.inr (16, w))), some (.inr (.inr (1, i))), some (.inl x2), some (.inl x3), some (.inl x4), some (.inl x5), some (.inl x6), some (.inl ((am_sto g 17 w x8.toNatClampNeg x7) 2 i x7.toNatClampNeg)), some (.inl (x8 + 1))] [] (am_sto g 17 w x8.toNatClampNeg x7))
        else none)
        else none))) := rfl
set_option maxRecDepth 50000 in
theorem eY_lay_70 (ct : am_T) (n : Nat) (w i : Nat) (x2 : Int32) (x3 : Int32) (x4 : Int32) (x5 : Int32) (x6 : Int32) (x7 : Int32) (x8 : Int32) (g : am_G) : am_run ct 74 (n + 1) 70 [some (.inr (.inr (16, w))), some (.inr (.inr (1, i))), some (.inl x2), some (.inl x3), some (.inl x4), some (.inl x5), some (.inl x6), some (.inl x7), some (.inl x8)] [] g =
  if x8 ≤ x5 then
    (some (none, g))
  else
    (if x7 = (-1 : Int32) then
      (some (none, g))
    else
      (bif am_in x8 24 then
        (bif am_in x7 24 then
        (am_run ct 74 n 70 [some (.inr (.inr (16, w))), some (.inr (.inr (1, i))), some (.inl x2), some (.inl x3), some (.inl x4), some (.inl x5), some (.inl x6), some (.inl ((am_sto g 17 w x8.toNatClampNeg x7) 2 i x7.toNatClampNeg)), some (.inl (x8 + (-1)))] [] (am_sto g 17 w x8.toNatClampNeg x7))
      else none)
      else none)) := rfl
set_option maxRecDepth 50000 in
theorem eY_lowerOfLink_0 (ct : am_T) (n : Nat) (w i : Nat) (x2 : Int32) (g : am_G) : am_run ct 75 (n + 1) 0 [some (.inr (.inr (16, w))), some (.inr (.inr (1, i))), some (.inl x2), none] [] g =
  bif am_in x2 24 then
    (bif am_in (x2 + (1 : Int32)) 24 then
    (am_bi (ct 17 [.inr (.inr (1, i)), .inl (g 17 w x2.toNatClampNeg), .inl (g 17 w (x2 + (1 : Int32)).toNatClampNeg)] g) (fun r1 g1 =>
  if r1 = (-1 : Int32) then
    (bif am_in x2 24 then
      (some (some (.inl (g1 17 w x2.toNatClampNeg)), g1))
    else none)
  else
    (some (some (.inl r1), g1))))
  else none)
  else none := rfl
set_option maxRecDepth 50000 in
theorem eY_lengths_0 (ct : am_T) (n : Nat) (w i : Nat) (g : am_G) : am_run ct 76 (n + 1) 0 [some (.inr (.inr (16, w))), some (.inr (.inr (1, i))), none, none] [] g =
  am_run ct 76 n 4 [some (.inr (.inr (16, w))), some (.inr (.inr (1, i))), some (.inl (0 : Int32)), some (.inl (0 : Int32))] [] g := rfl
set_option maxRecDepth 50000 in
theorem eY_lengths_4 (ct : am_T) (n : Nat) (w i : Nat) (x2 : Int32) (x3 : Int32) (g : am_G) : am_run ct 76 (n + 1) 4 [some (.inr (.inr (16, w))), some (.inr (.inr (1, i))), some (.inl x2), some (.inl x3)] [] g =
  if (g 119 w 0) ≤ (x3 + (1 : Int32)) then
    (some (some (.inl x2), g))
  else
    (am_bi (ct 75 [.inr (.inr (16, w)), .inr (.inr (1, i)), .inl x3] g) (fun r1 g1 =>
    bif am_in r1 24 then
      (am_run ct 76 n 4 [some (.inr (.inr (16, w))), some (.inr (.inr (1, i))), some (.inl (x2 + (g1 4 i r1.toNatClampNeg))), some (.inl (x3 + 1))] [] g1)
    else none)) := rfl
set_option maxRecDepth 50000 in
theorem eY_values_0 (ct : am_T) (n : Nat) (w i : Nat) (g : am_G) : am_run ct 77 (n + 1) 0 [some (.inr (.inr (16, w))), some (.inr (.inr (1, i))), none, none] [] g =
  am_run ct 77 n 4 [some (.inr (.inr (16, w))), some (.inr (.inr (1, i))), some (.inl (0 : Int32)), some (.inl (0 : Int32))] [] g := rfl
set_option maxRecDepth 50000 in
theorem eY_values_4 (ct : am_T) (n : Nat) (w i : Nat) (x2 : Int32) (x3 : Int32) (g : am_G) : am_run ct 77 (n + 1) 4 [some (.inr (.inr (16, w))), some (.inr (.inr (1, i))), some (.inl x2), some (.inl x3)] [] g =
  if (g 119 w 0) ≤ x3 then
    (some (some (.inl x2), g))
  else
    (bif am_in x3 24 then
      (bif am_in (g 17 w x3.toNatClampNeg) 24 then
      (am_run ct 77 n 4 [some (.inr (.inr (16, w))), some (.inr (.inr (1, i))), some (.inl (x2 + (g 6 i (g 17 w x3.toNatClampNeg).toNatClampNeg))), some (.inl (x3 + 1))] [] g)
    else none)
    else none) := rfl
set_option maxRecDepth 50000 in
theorem eY_dearestLink_0 (ct : am_T) (n : Nat) (w i : Nat) (g : am_G) : am_run ct 78 (n + 1) 0 [some (.inr (.inr (16, w))), some (.inr (.inr (1, i))), none, none, none, none] [] g =
  am_run ct 78 n 6 [some (.inr (.inr (16, w))), some (.inr (.inr (1, i))), some (.inl (-1 : Int32)), some (.inl (0 : Int32)), some (.inl (0 : Int32)), none] [] g := rfl
set_option maxRecDepth 50000 in
theorem eY_dearestLink_6 (ct : am_T) (n : Nat) (w i : Nat) (x2 : Int32) (x3 : Int32) (x4 : Int32) (o5 : Option am_V) (g : am_G) : am_run ct 78 (n + 1) 6 [some (.inr (.inr (16, w))), some (.inr (.inr (1, i))), some (.inl x2), some (.inl x3), some (.inl x4), o5] [] g =
  if (g 119 w 0) ≤ (x4 + (1 : Int32)) then
    (some (some (.inl x2), g))
  else
    (am_bi (ct 75 [.inr (.inr (16, w)), .inr (.inr (1, i)), .inl x4] g) (fun r1 g1 =>
    bif am_in r1 24 then
      (if (g1 4 i r1.toNatClampNeg) ≤ x3 then
      (am_run ct 78 n 6 [some (.inr (.inr (16, w))), some (.inr (.inr (1, i))), some (.inl x2), some (.inl x3), some (.inl (x4 + 1)), some (.inl (g1 4 i r1.toNatClampNeg))] [] g1)
    else
      (am_run ct 78 n 6 [some (.inr (.inr (16, w))), some (.inr (.inr (1, i))), some (.inl x4), some (.inl (g1 4 i r1.toNatClampNeg)), some (.inl (x4 + 1)), some (.inl (g1 4 i r1.toNatClampNeg))] [] g1))
    else none)) := rfl
set_option maxRecDepth 50000 in
theorem eY_dearestLength_0 (ct : am_T) (n : Nat) (w i : Nat) (g : am_G) : am_run ct 79 (n + 1) 0 [some (.inr (.inr (16, w))), some (.inr (.inr (1, i))), none] [] g =
  am_bi (ct 78 [.inr (.inr (16, w)), .inr (.inr (1, i))] g) (fun r1 g1 =>
  if r1 = (-1 : Int32) then
    (some (some (.inl (-2 : Int32)), g1))
  else
    (am_bi (ct 75 [.inr (.inr (16, w)), .inr (.inr (1, i)), .inl r1] g1) (fun r2 g2 =>
    bif am_in r2 24 then
      (some (some (.inl (g2 4 i r2.toNatClampNeg)), g2))
    else none))) := rfl
set_option maxRecDepth 50000 in
theorem eY_cutDearestLink_0 (ct : am_T) (n : Nat) (w i : Nat) (g : am_G) : am_run ct 80 (n + 1) 0 [some (.inr (.inr (16, w))), some (.inr (.inr (1, i))), none] [] g =
  am_bi (ct 78 [.inr (.inr (16, w)), .inr (.inr (1, i))] g) (fun r1 g1 =>
  if r1 = (-1 : Int32) then
    (some (none, g1))
  else
    (bif am_in r1 24 then
      (bif am_in (r1 + (1 : Int32)) 24 then
      (am_bv (ct 9 [.inr (.inr (1, i)), .inl (g1 17 w r1.toNatClampNeg), .inl (g1 17 w (r1 + (1 : Int32)).toNatClampNeg)] g1) (fun g2 =>
    some (none, g2)))
    else none)
    else none)) := rfl
set_option maxRecDepth 50000 in
theorem eY_leastOf_5_0 (ct : am_T) (n : Nat) (w i : Nat) (g : am_G) : am_run ct 81 (n + 1) 0 [some (.inr (.inr (16, w))), some (.inr (.inr (1, i))), some (.inr (.inr (5, i))), none, none, none] [] g =
  am_run ct 81 n 4 [some (.inr (.inr (16, w))), some (.inr (.inr (1, i))), some (.inr (.inr (5, i))), some (.inl (-2 : Int32)), some (.inl (0 : Int32)), none] [] g := rfl
set_option maxRecDepth 50000 in
theorem eY_leastOf_5_4 (ct : am_T) (n : Nat) (w i : Nat) (x3 : Int32) (x4 : Int32) (o5 : Option am_V) (g : am_G) : am_run ct 81 (n + 1) 4 [some (.inr (.inr (16, w))), some (.inr (.inr (1, i))), some (.inr (.inr (5, i))), some (.inl x3), some (.inl x4), o5] [] g =
  if (g 119 w 0) ≤ (x4 + (1 : Int32)) then
    (some (some (.inl x3), g))
  else
    (am_bi (ct 75 [.inr (.inr (16, w)), .inr (.inr (1, i)), .inl x4] g) (fun r1 g1 =>
    bif am_in r1 24 then
      (if x4 = 0 then
      (am_run ct 81 n 4 [some (.inr (.inr (16, w))), some (.inr (.inr (1, i))), some (.inr (.inr (5, i))), some (.inl (g1 5 i r1.toNatClampNeg)), some (.inl (x4 + 1)), some (.inl (g1 5 i r1.toNatClampNeg))] [] g1)
    else
      (if x3 ≤ (g1 5 i r1.toNatClampNeg) then
        (am_run ct 81 n 4 [some (.inr (.inr (16, w))), some (.inr (.inr (1, i))), some (.inr (.inr (5, i))), some (.inl x3), some (.inl (x4 + 1)), some (.inl (g1 5 i r1.toNatClampNeg))] [] g1)
      else
        (am_run ct 81 n 4 [some (.inr (.inr (16, w))), some (.inr (.inr (1, i))), some (.inr (.inr (5, i))), some (.inl (g1 5 i r1.toNatClampNeg)), some (.inl (x4 + 1)), some (.inl (g1 5 i r1.toNatClampNeg))] [] g1)))
    else none)) := rfl
set_option maxRecDepth 50000 in
theorem eY_leastOf_4_0 (ct : am_T) (n : Nat) (w i : Nat) (g : am_G) : am_run ct 81 (n + 1) 0 [some (.inr (.inr (16, w))), some (.inr (.inr (1, i))), some (.inr (.inr (4, i))), none, none, none] [] g =
  am_run ct 81 n 4 [some (.inr (.inr (16, w))), some (.inr (.inr (1, i))), some (.inr (.inr (4, i))), some (.inl (-2 : Int32)), some (.inl (0 : Int32)), none] [] g := rfl
set_option maxRecDepth 50000 in
theorem eY_leastOf_4_4 (ct : am_T) (n : Nat) (w i : Nat) (x3 : Int32) (x4 : Int32) (o5 : Option am_V) (g : am_G) : am_run ct 81 (n + 1) 4 [some (.inr (.inr (16, w))), some (.inr (.inr (1, i))), some (.inr (.inr (4, i))), some (.inl x3), some (.inl x4), o5] [] g =
  if (g 119 w 0) ≤ (x4 + (1 : Int32)) then
    (some (some (.inl x3), g))
  else
    (am_bi (ct 75 [.inr (.inr (16, w)), .inr (.inr (1, i)), .inl x4] g) (fun r1 g1 =>
    bif am_in r1 24 then
      (if x4 = 0 then
      (am_run ct 81 n 4 [some (.inr (.inr (16, w))), some (.inr (.inr (1, i))), some (.inr (.inr (4, i))), some (.inl (g1 4 i r1.toNatClampNeg)), some (.inl (x4 + 1)), some (.inl (g1 4 i r1.toNatClampNeg))] [] g1)
    else
      (if x3 ≤ (g1 4 i r1.toNatClampNeg) then
        (am_run ct 81 n 4 [some (.inr (.inr (16, w))), some (.inr (.inr (1, i))), some (.inr (.inr (4, i))), some (.inl x3), some (.inl (x4 + 1)), some (.inl (g1 4 i r1.toNatClampNeg))] [] g1)
      else
        (am_run ct 81 n 4 [some (.inr (.inr (16, w))), some (.inr (.inr (1, i))), some (.inr (.inr (4, i))), some (.inl (g1 4 i r1.toNatClampNeg)), some (.inl (x4 + 1)), some (.inl (g1 4 i r1.toNatClampNeg))] [] g1)))
    else none)) := rfl
set_option maxRecDepth 50000 in
theorem eY_keepsWithin_4_0 (ct : am_T) (n : Nat) (w i : Nat) (x3 : Int32) (x4 : Int32) (g : am_G) : am_run ct 82 (n + 1) 0 [some (.inr (.inr (16, w))), some (.inr (.inr (1, i))), some (.inr (.inr (4, i))), some (.inl x3), some (.inl x4), none] [] g =
  am_run ct 82 n 2 [some (.inr (.inr (16, w))), some (.inr (.inr (1, i))), some (.inr (.inr (4, i))), some (.inl x3), some (.inl x4), some (.inl (0 : Int32))] [] g := rfl
set_option maxRecDepth 50000 in
theorem eY_keepsWithin_4_2 (ct : am_T) (n : Nat) (w i : Nat) (x3 : Int32) (x4 : Int32) (x5 : Int32) (g : am_G) : am_run ct 82 (n + 1) 2 [some (.inr (.inr (16, w))), some (.inr (.inr (1, i))), some (.inr (.inr (4, i))), some (.inl x3), some (.inl x4), some (.inl x5)] [] g =
  if (g 119 w 0) ≤ (x5 + (1 : Int32)) then
    (some (some (.inl (1 : Int32)), g))
  else
    (am_bi (ct 75 [.inr (.inr (16, w)), .inr (.inr (1, i)), .inl x5] g) (fun r1 g1 =>
    bif am_in r1 24 then
      (am_bi (ct 127 [.inl ((g1 4 i r1.toNatClampNeg) + x3), .inl x4, .inl (9999 : Int32)] g1) (fun r2 g2 =>
    if r2 = 0 then
      (some (some (.inl (0 : Int32)), g2))
    else
      (am_run ct 82 n 2 [some (.inr (.inr (16, w))), some (.inr (.inr (1, i))), some (.inr (.inr (4, i))), some (.inl x3), some (.inl x4), some (.inl (x5 + 1))] [] g2)))
    else none)) := rfl
set_option maxRecDepth 50000 in
theorem eY_keepsWithin_5_0 (ct : am_T) (n : Nat) (w i : Nat) (x3 : Int32) (x4 : Int32) (g : am_G) : am_run ct 82 (n + 1) 0 [some (.inr (.inr (16, w))), some (.inr (.inr (1, i))), some (.inr (.inr (5, i))), some (.inl x3), some (.inl x4), none] [] g =
  am_run ct 82 n 2 [some (.inr (.inr (16, w))), some (.inr (.inr (1, i))), some (.inr (.inr (5, i))), some (.inl x3), some (.inl x4), some (.inl (0 : Int32))] [] g := rfl
set_option maxRecDepth 50000 in
theorem eY_keepsWithin_5_2 (ct : am_T) (n : Nat) (w i : Nat) (x3 : Int32) (x4 : Int32) (x5 : Int32) (g : am_G) : am_run ct 82 (n + 1) 2 [some (.inr (.inr (16, w))), some (.inr (.inr (1, i))), some (.inr (.inr (5, i))), some (.inl x3), some (.inl x4), some (.inl x5)] [] g =
  if (g 119 w 0) ≤ (x5 + (1 : Int32)) then
    (some (some (.inl (1 : Int32)), g))
  else
    (am_bi (ct 75 [.inr (.inr (16, w)), .inr (.inr (1, i)), .inl x5] g) (fun r1 g1 =>
    bif am_in r1 24 then
      (am_bi (ct 127 [.inl ((g1 5 i r1.toNatClampNeg) + x3), .inl x4, .inl (9999 : Int32)] g1) (fun r2 g2 =>
    if r2 = 0 then
      (some (some (.inl (0 : Int32)), g2))
    else
      (am_run ct 82 n 2 [some (.inr (.inr (16, w))), some (.inr (.inr (1, i))), some (.inr (.inr (5, i))), some (.inl x3), some (.inl x4), some (.inl (x5 + 1))] [] g2)))
    else none)) := rfl
set_option maxRecDepth 50000 in
theorem eY_addToAll_4_0 (ct : am_T) (n : Nat) (w i : Nat) (x3 : Int32) (g : am_G) : am_run ct 83 (n + 1) 0 [some (.inr (.inr (16, w))), some (.inr (.inr (1, i))), some (.inr (.inr (4, i))), some (.inl x3), none] [] g =
  am_run ct 83 n 2 [some (.inr (.inr (16, w))), some (.inr (.inr (1, i))), some (.inr (.inr (4, i))), some (.inl x3), some (.inl (0 : Int32))] [] g := rfl
set_option maxRecDepth 50000 in
theorem eY_addToAll_4_2 (ct : am_T) (n : Nat) (w i : Nat) (x3 : Int32) (x4 : Int32) (g : am_G) : am_run ct 83 (n + 1) 2 [some (.inr (.inr (16, w))), some (.inr (.inr (1, i))), some (.inr (.inr (4, i))), some (.inl x3), some (.inl x4)] [] g =
  if (g 119 w 0) ≤ (x4 + (1 : Int32)) then
    (some (none, g))
  else
    (am_bi (ct 75 [.inr (.inr (16, w)), .inr (.inr (1, i)), .inl x4] g) (fun r1 g1 =>
    bif am_in r1 24 then
      (bif am_in r1 24 then
      (am_run ct 83 n 2 [some (.inr (.inr (16, w))), some (.inr (.inr (1, i))), some (.inr (.inr (4, i))), some (.inl x3), some (.inl (x4 + 1))] [] (am_sto g1 4 i r1.toNatClampNeg ((g1 4 i r1.toNatClampNeg) + x3)))
    else none)
    else none)) := rfl
set_option maxRecDepth 50000 in
theorem eY_addToAll_5_0 (ct : am_T) (n : Nat) (w i : Nat) (x3 : Int32) (g : am_G) : am_run ct 83 (n + 1) 0 [some (.inr (.inr (16, w))), some (.inr (.inr (1, i))), some (.inr (.inr (5, i))), some (.inl x3), none] [] g =
  am_run ct 83 n 2 [some (.inr (.inr (16, w))), some (.inr (.inr (1, i))), some (.inr (.inr (5, i))), some (.inl x3), some (.inl (0 : Int32))] [] g := rfl
set_option maxRecDepth 50000 in
theorem eY_addToAll_5_2 (ct : am_T) (n : Nat) (w i : Nat) (x3 : Int32) (x4 : Int32) (g : am_G) : am_run ct 83 (n + 1) 2 [some (.inr (.inr (16, w))), some (.inr (.inr (1, i))), some (.inr (.inr (5, i))), some (.inl x3), some (.inl x4)] [] g =
  if (g 119 w 0) ≤ (x4 + (1 : Int32)) then
    (some (none, g))
  else
    (am_bi (ct 75 [.inr (.inr (16, w)), .inr (.inr (1, i)), .inl x4] g) (fun r1 g1 =>
    bif am_in r1 24 then
      (bif am_in r1 24 then
      (am_run ct 83 n 2 [some (.inr (.inr (16, w))), some (.inr (.inr (1, i))), some (.inr (.inr (5, i))), some (.inl x3), some (.inl (x4 + 1))] [] (am_sto g1 5 i r1.toNatClampNeg ((g1 5 i r1.toNatClampNeg) + x3)))
    else none)
    else none)) := rfl
