/-! ===== what a run from a cut is: by wip/whole/write.py ===== -/
set_option maxRecDepth 50000 in
theorem eM_thrown_0 (ct : am_T) (n : Nat)  (g : am_G) : am_run ct 132 (n + 1) 0 [some (.inr (.inr (29, 0)))] [] g =
  some (some (.inl (g 131 0 0)), g) := rfl
set_option maxRecDepth 50000 in
theorem eM_feed_0 (ct : am_T) (n : Nat) (x1 : Int32) (x2 : Int32) (x3 : Int32) (x4 : Int32) (x5 : Int32) (g : am_G) : am_run ct 133 (n + 1) 0 [some (.inr (.inr (29, 0))), some (.inl x1), some (.inl x2), some (.inl x3), some (.inl x4), some (.inl x5), none, none] [] g =
  if (((am_put g 131 0 (0 : Int32)) 130 0 0) + (20 : Int32)) ≤ (700 : Int32) then
    (am_run ct 133 n 13 [some (.inr (.inr (29, 0))), some (.inl x1), some (.inl x2), some (.inl x3), some (.inl x4), some (.inl x5), some (.inl (0 : Int32)), none] [] (am_put g 131 0 (0 : Int32)))
  else
    (some (some (.inl (-1 : Int32)), am_put g 131 0 (0 : Int32))) := rfl
set_option maxRecDepth 50000 in
theorem eM_feed_13 (ct : am_T) (n : Nat) (x1 : Int32) (x2 : Int32) (x3 : Int32) (x4 : Int32) (x5 : Int32) (x6 : Int32) (o7 : Option am_V) (g : am_G) : am_run ct 133 (n + 1) 13 [some (.inr (.inr (29, 0))), some (.inl x1), some (.inl x2), some (.inl x3), some (.inl x4), some (.inl x5), some (.inl x6), o7] [] g =
  if (20 : Int32) ≤ x6 then
    (some (some (.inl ((am_put g 130 0 ((g 130 0 0) + (20 : Int32))) 130 0 0)), am_put g 130 0 ((g 130 0 0) + (20 : Int32))))
  else
    (if (4 : Int32) ≤ x6 then
      (if (8 : Int32) ≤ x6 then
        (if (12 : Int32) ≤ x6 then
          (if (16 : Int32) ≤ x6 then
            (if (4 : Int32) = 0 then none else
            bif am_in ((g 130 0 0) + x6) 700 then
              (am_run ct 133 n 13 [some (.inr (.inr (29, 0))), some (.inl x1), some (.inl x2), some (.inl x3), some (.inl x4), some (.inl x5), some (.inl (x6 + 1)), some (.inl x5)] [] (am_sto g 30 0 ((g 130 0 0) + x6).toNatClampNeg ((x5 >>> (((24 : Int32) - ((8 : Int32) * (x6 - x6 / (4 : Int32) * (4 : Int32)))) &&& 31)) &&& (255 : Int32))))
            else none)
          else
            (if (4 : Int32) = 0 then none else
            bif am_in ((g 130 0 0) + x6) 700 then
              (am_run ct 133 n 13 [some (.inr (.inr (29, 0))), some (.inl x1), some (.inl x2), some (.inl x3), some (.inl x4), some (.inl x5), some (.inl (x6 + 1)), some (.inl x4)] [] (am_sto g 30 0 ((g 130 0 0) + x6).toNatClampNeg ((x4 >>> (((24 : Int32) - ((8 : Int32) * (x6 - x6 / (4 : Int32) * (4 : Int32)))) &&& 31)) &&& (255 : Int32))))
            else none))
        else
          (if (4 : Int32) = 0 then none else
          bif am_in ((g 130 0 0) + x6) 700 then
            (am_run ct 133 n 13 [some (.inr (.inr (29, 0))), some (.inl x1), some (.inl x2), some (.inl x3), some (.inl x4), some (.inl x5), some (.inl (x6 + 1)), some (.inl x3)] [] (am_sto g 30 0 ((g 130 0 0) + x6).toNatClampNeg ((x3 >>> (((24 : Int32) - ((8 : Int32) * (x6 - x6 / (4 : Int32) * (4 : Int32)))) &&& 31)) &&& (255 : Int32))))
          else none))
      else
        (if (4 : Int32) = 0 then none else
        bif am_in ((g 130 0 0) + x6) 700 then
          (am_run ct 133 n 13 [some (.inr (.inr (29, 0))), some (.inl x1), some (.inl x2), some (.inl x3), some (.inl x4), some (.inl x5), some (.inl (x6 + 1)), some (.inl x2)] [] (am_sto g 30 0 ((g 130 0 0) + x6).toNatClampNeg ((x2 >>> (((24 : Int32) - ((8 : Int32) * (x6 - x6 / (4 : Int32) * (4 : Int32)))) &&& 31)) &&& (255 : Int32))))
        else none))
    else
      (if (4 : Int32) = 0 then none else
      bif am_in ((g 130 0 0) + x6) 700 then
        (am_run ct 133 n 13 [some (.inr (.inr (29, 0))), some (.inl x1), some (.inl x2), some (.inl x3), some (.inl x4), some (.inl x5), some (.inl (x6 + 1)), some (.inl x1)] [] (am_sto g 30 0 ((g 130 0 0) + x6).toNatClampNeg ((x1 >>> (((24 : Int32) - ((8 : Int32) * (x6 - x6 / (4 : Int32) * (4 : Int32)))) &&& 31)) &&& (255 : Int32))))
      else none)) := rfl
set_option maxRecDepth 50000 in
theorem eM_isIn_0 (ct : am_T) (n : Nat) (x0 : Int32) (x1 : Int32) (x2 : Int32) (g : am_G) : am_run ct 134 (n + 1) 0 [some (.inl x0), some (.inl x1), some (.inl x2)] [] g =
  if x0 < x1 then
    (some (some (.inl (0 : Int32)), g))
  else
    (if x2 < x0 then
      (some (some (.inl (0 : Int32)), g))
    else
      (some (some (.inl (1 : Int32)), g))) := rfl
set_option maxRecDepth 50000 in
theorem eM_wrong_0 (ct : am_T) (n : Nat) (x1 : Int32) (g : am_G) : am_run ct 135 (n + 1) 0 [some (.inr (.inr (29, 0))), some (.inl x1)] [] g =
  some (some (.inl (0 : Int32)), am_put (am_put g 132 0 x1) 133 0 ((am_put g 132 0 x1) 138 0 0)) := rfl
set_option maxRecDepth 50000 in
theorem eM_wordAt_0 (ct : am_T) (n : Nat) (x1 : Int32) (x2 : Int32) (g : am_G) : am_run ct 136 (n + 1) 0 [some (.inr (.inr (29, 0))), some (.inl x1), some (.inl x2), none, none, none, none, none] [] g =
  am_run ct 136 n 4 [some (.inr (.inr (29, 0))), some (.inl x1), some (.inl x2), some (.inl (0 : Int32)), some (.inl (0 : Int32)), none, none, none] [] g := rfl
set_option maxRecDepth 50000 in
theorem eM_wordAt_4 (ct : am_T) (n : Nat) (x1 : Int32) (x2 : Int32) (x3 : Int32) (x4 : Int32) (o5 : Option am_V) (o6 : Option am_V) (o7 : Option am_V) (g : am_G) : am_run ct 136 (n + 1) 4 [some (.inr (.inr (29, 0))), some (.inl x1), some (.inl x2), some (.inl x3), some (.inl x4), o5, o6, o7] [] g =
  if (nI 33) ≤ x4 then
    (some (some (.inl (-1 : Int32)), g))
  else
    (am_run ct 136 n 11 [some (.inr (.inr (29, 0))), some (.inl x1), some (.inl x2), some (.inl x3), some (.inl x4), some (.inl (0 : Int32)), o6, o7] [] g) := rfl
set_option maxRecDepth 50000 in
theorem eM_wordAt_11 (ct : am_T) (n : Nat) (x1 : Int32) (x2 : Int32) (x3 : Int32) (x4 : Int32) (x5 : Int32) (o6 : Option am_V) (o7 : Option am_V) (g : am_G) : am_run ct 136 (n + 1) 11 [some (.inr (.inr (29, 0))), some (.inl x1), some (.inl x2), some (.inl x3), some (.inl x4), some (.inl x5), o6, o7] [] g =
  bif am_in (x4 + x5) 33 then
    (if (g 31 0 (x4 + x5).toNatClampNeg) = (32 : Int32) then
    (if x5 = (x2 - x1) then
      (am_run ct 136 n 32 [some (.inr (.inr (29, 0))), some (.inl x1), some (.inl x2), some (.inl x3), some (.inl x4), some (.inl x5), some (.inl (1 : Int32)), some (.inl (0 : Int32))] [] g)
    else
      (am_run ct 136 n 32 [some (.inr (.inr (29, 0))), some (.inl x1), some (.inl x2), some (.inl x3), some (.inl x4), some (.inl x5), some (.inl (0 : Int32)), some (.inl (0 : Int32))] [] g))
  else
    (am_run ct 136 n 11 [some (.inr (.inr (29, 0))), some (.inl x1), some (.inl x2), some (.inl x3), some (.inl x4), some (.inl (x5 + 1)), o6, o7] [] g))
  else none := rfl
set_option maxRecDepth 50000 in
theorem eM_wordAt_32 (ct : am_T) (n : Nat) (x1 : Int32) (x2 : Int32) (x3 : Int32) (x4 : Int32) (x5 : Int32) (x6 : Int32) (x7 : Int32) (g : am_G) : am_run ct 136 (n + 1) 32 [some (.inr (.inr (29, 0))), some (.inl x1), some (.inl x2), some (.inl x3), some (.inl x4), some (.inl x5), some (.inl x6), some (.inl x7)] [] g =
  if x5 ≤ x7 then
    (if x6 = 0 then
      (am_run ct 136 n 4 [some (.inr (.inr (29, 0))), some (.inl x1), some (.inl x2), some (.inl (x3 + 1)), some (.inl (x4 + (x5 + (1 : Int32)))), some (.inl x5), some (.inl x6), some (.inl x7)] [] g)
    else
      (some (some (.inl x3), g)))
  else
    (if x6 = 0 then
      (if x6 = 0 then
        (am_run ct 136 n 4 [some (.inr (.inr (29, 0))), some (.inl x1), some (.inl x2), some (.inl (x3 + 1)), some (.inl (x4 + (x5 + (1 : Int32)))), some (.inl x5), some (.inl x6), some (.inl x7)] [] g)
      else
        (some (some (.inl x3), g)))
    else
      (bif am_in (x4 + x7) 33 then
        (bif am_in (x1 + x7) 700 then
        (if (g 31 0 (x4 + x7).toNatClampNeg) = (g 30 0 (x1 + x7).toNatClampNeg) then
        (am_run ct 136 n 32 [some (.inr (.inr (29, 0))), some (.inl x1), some (.inl x2), some (.inl x3), some (.inl x4), some (.inl x5), some (.inl (1 : Int32)), some (.inl (x7 + 1))] [] g)
      else
        (am_run ct 136 n 32 [some (.inr (.inr (29, 0))), some (.inl x1), some (.inl x2), some (.inl x3), some (.inl x4), some (.inl x5), some (.inl (0 : Int32)), some (.inl (x7 + 1))] [] g))
      else none)
      else none)) := rfl
set_option maxRecDepth 50000 in
theorem eM_isSmall_0 (ct : am_T) (n : Nat) (x1 : Int32) (g : am_G) : am_run ct 137 (n + 1) 0 [some (.inr (.inr (29, 0))), some (.inl x1)] [] g =
  if (g 134 0 0) ≤ x1 then
    (some (some (.inl (0 : Int32)), g))
  else
    (bif am_in x1 700 then
      (if (g 30 0 x1.toNatClampNeg) < (97 : Int32) then
      (some (some (.inl (0 : Int32)), g))
    else
      (bif am_in x1 700 then
        (if (122 : Int32) < (g 30 0 x1.toNatClampNeg) then
        (some (some (.inl (0 : Int32)), g))
      else
        (some (some (.inl (1 : Int32)), g)))
      else none))
    else none) := rfl
set_option maxRecDepth 50000 in
theorem eM_isDigit_0 (ct : am_T) (n : Nat) (x1 : Int32) (g : am_G) : am_run ct 138 (n + 1) 0 [some (.inr (.inr (29, 0))), some (.inl x1)] [] g =
  if (g 134 0 0) ≤ x1 then
    (some (some (.inl (0 : Int32)), g))
  else
    (bif am_in x1 700 then
      (if (g 30 0 x1.toNatClampNeg) < (48 : Int32) then
      (some (some (.inl (0 : Int32)), g))
    else
      (bif am_in x1 700 then
        (if (57 : Int32) < (g 30 0 x1.toNatClampNeg) then
        (some (some (.inl (0 : Int32)), g))
      else
        (some (some (.inl (1 : Int32)), g)))
      else none))
    else none) := rfl
set_option maxRecDepth 50000 in
theorem eM_token_0 (ct : am_T) (n : Nat)  (g : am_G) : am_run ct 139 (n + 1) 0 [some (.inr (.inr (29, 0)))] [] g =
  if (g 134 0 0) ≤ (g 135 0 0) then
    (if ((am_put g 138 0 (g 135 0 0)) 135 0 0) = ((am_put g 138 0 (g 135 0 0)) 134 0 0) then
      (some (none, am_put (am_put g 138 0 (g 135 0 0)) 136 0 (0 : Int32)))
    else
      (am_bi (ct 137 [.inr (.inr (29, 0)), .inl ((am_put g 138 0 (g 135 0 0)) 135 0 0)] (am_put g 138 0 (g 135 0 0))) (fun r1 g1 =>
      if r1 = 0 then
        (am_bi (ct 138 [.inr (.inr (29, 0)), .inl (g1 135 0 0)] g1) (fun r2 g2 =>
        if r2 = 0 then
          (if (g2 134 0 0) ≤ (g2 135 0 0) then
            (bif am_in (g2 135 0 0) 700 then
              (if (g2 30 0 (g2 135 0 0).toNatClampNeg) = (59 : Int32) then
              (some (none, am_put (am_put g2 136 0 (4 : Int32)) 135 0 (((am_put g2 136 0 (4 : Int32)) 135 0 0) + (1 : Int32))))
            else
              (some (none, am_put (am_put g2 136 0 (5 : Int32)) 135 0 (((am_put g2 136 0 (5 : Int32)) 135 0 0) + (1 : Int32)))))
            else none)
          else
            (bif am_in (g2 135 0 0) 700 then
              (if (g2 30 0 (g2 135 0 0).toNatClampNeg) = (45 : Int32) then
              (am_bi (ct 138 [.inr (.inr (29, 0)), .inl ((g2 135 0 0) + (1 : Int32))] g2) (fun r3 g3 =>
              if r3 = 0 then
                (bif am_in (g3 135 0 0) 700 then
                  (if (g3 30 0 (g3 135 0 0).toNatClampNeg) = (59 : Int32) then
                  (some (none, am_put (am_put g3 136 0 (4 : Int32)) 135 0 (((am_put g3 136 0 (4 : Int32)) 135 0 0) + (1 : Int32))))
                else
                  (some (none, am_put (am_put g3 136 0 (5 : Int32)) 135 0 (((am_put g3 136 0 (5 : Int32)) 135 0 0) + (1 : Int32)))))
                else none)
              else
                (bif am_in (g3 135 0 0) 700 then
                  (if (g3 30 0 (g3 135 0 0).toNatClampNeg) = (45 : Int32) then
                  (if ((am_put g3 136 0 (6 : Int32)) 136 0 0) = (6 : Int32) then
                    (am_run ct 139 n 143 [some (.inr (.inr (29, 0)))] [] (am_put (am_put (am_put g3 136 0 (6 : Int32)) 135 0 (((am_put g3 136 0 (6 : Int32)) 135 0 0) + (1 : Int32))) 137 0 (0 : Int32)))
                  else
                    (am_run ct 139 n 143 [some (.inr (.inr (29, 0)))] [] (am_put (am_put g3 136 0 (6 : Int32)) 137 0 (0 : Int32))))
                else
                  (if ((am_put g3 136 0 (3 : Int32)) 136 0 0) = (6 : Int32) then
                    (am_run ct 139 n 143 [some (.inr (.inr (29, 0)))] [] (am_put (am_put (am_put g3 136 0 (3 : Int32)) 135 0 (((am_put g3 136 0 (3 : Int32)) 135 0 0) + (1 : Int32))) 137 0 (0 : Int32)))
                  else
                    (am_run ct 139 n 143 [some (.inr (.inr (29, 0)))] [] (am_put (am_put g3 136 0 (3 : Int32)) 137 0 (0 : Int32)))))
                else none)))
            else
              (bif am_in (g2 135 0 0) 700 then
                (if (g2 30 0 (g2 135 0 0).toNatClampNeg) = (59 : Int32) then
                (some (none, am_put (am_put g2 136 0 (4 : Int32)) 135 0 (((am_put g2 136 0 (4 : Int32)) 135 0 0) + (1 : Int32))))
              else
                (some (none, am_put (am_put g2 136 0 (5 : Int32)) 135 0 (((am_put g2 136 0 (5 : Int32)) 135 0 0) + (1 : Int32)))))
              else none))
            else none))
        else
          (bif am_in (g2 135 0 0) 700 then
            (if (g2 30 0 (g2 135 0 0).toNatClampNeg) = (45 : Int32) then
            (if ((am_put g2 136 0 (6 : Int32)) 136 0 0) = (6 : Int32) then
              (am_run ct 139 n 143 [some (.inr (.inr (29, 0)))] [] (am_put (am_put (am_put g2 136 0 (6 : Int32)) 135 0 (((am_put g2 136 0 (6 : Int32)) 135 0 0) + (1 : Int32))) 137 0 (0 : Int32)))
            else
              (am_run ct 139 n 143 [some (.inr (.inr (29, 0)))] [] (am_put (am_put g2 136 0 (6 : Int32)) 137 0 (0 : Int32))))
          else
            (if ((am_put g2 136 0 (3 : Int32)) 136 0 0) = (6 : Int32) then
              (am_run ct 139 n 143 [some (.inr (.inr (29, 0)))] [] (am_put (am_put (am_put g2 136 0 (3 : Int32)) 135 0 (((am_put g2 136 0 (3 : Int32)) 135 0 0) + (1 : Int32))) 137 0 (0 : Int32)))
            else
              (am_run ct 139 n 143 [some (.inr (.inr (29, 0)))] [] (am_put (am_put g2 136 0 (3 : Int32)) 137 0 (0 : Int32)))))
          else none)))
      else
        (am_run ct 139 n 44 [some (.inr (.inr (29, 0)))] [] g1))))
  else
    (bif am_in (g 135 0 0) 700 then
      (if (g 30 0 (g 135 0 0).toNatClampNeg) = (10 : Int32) then
      (am_run ct 139 n 0 [some (.inr (.inr (29, 0)))] [] (am_put g 135 0 ((g 135 0 0) + (1 : Int32))))
    else
      (bif am_in (g 135 0 0) 700 then
        (if (g 30 0 (g 135 0 0).toNatClampNeg) = (32 : Int32) then
        (am_run ct 139 n 0 [some (.inr (.inr (29, 0)))] [] (am_put g 135 0 ((g 135 0 0) + (1 : Int32))))
      else
        (if ((am_put g 138 0 (g 135 0 0)) 135 0 0) = ((am_put g 138 0 (g 135 0 0)) 134 0 0) then
          (some (none, am_put (am_put g 138 0 (g 135 0 0)) 136 0 (0 : Int32)))
        else
          (am_bi (ct 137 [.inr (.inr (29, 0)), .inl ((am_put g 138 0 (g 135 0 0)) 135 0 0)] (am_put g 138 0 (g 135 0 0))) (fun r4 g4 =>
          if r4 = 0 then
            (am_bi (ct 138 [.inr (.inr (29, 0)), .inl (g4 135 0 0)] g4) (fun r5 g5 =>
            if r5 = 0 then
              (if (g5 134 0 0) ≤ (g5 135 0 0) then
                (bif am_in (g5 135 0 0) 700 then
                  (if (g5 30 0 (g5 135 0 0).toNatClampNeg) = (59 : Int32) then
                  (some (none, am_put (am_put g5 136 0 (4 : Int32)) 135 0 (((am_put g5 136 0 (4 : Int32)) 135 0 0) + (1 : Int32))))
                else
                  (some (none, am_put (am_put g5 136 0 (5 : Int32)) 135 0 (((am_put g5 136 0 (5 : Int32)) 135 0 0) + (1 : Int32)))))
                else none)
              else
                (bif am_in (g5 135 0 0) 700 then
                  (if (g5 30 0 (g5 135 0 0).toNatClampNeg) = (45 : Int32) then
                  (am_bi (ct 138 [.inr (.inr (29, 0)), .inl ((g5 135 0 0) + (1 : Int32))] g5) (fun r6 g6 =>
                  if r6 = 0 then
                    (bif am_in (g6 135 0 0) 700 then
                      (if (g6 30 0 (g6 135 0 0).toNatClampNeg) = (59 : Int32) then
                      (some (none, am_put (am_put g6 136 0 (4 : Int32)) 135 0 (((am_put g6 136 0 (4 : Int32)) 135 0 0) + (1 : Int32))))
                    else
                      (some (none, am_put (am_put g6 136 0 (5 : Int32)) 135 0 (((am_put g6 136 0 (5 : Int32)) 135 0 0) + (1 : Int32)))))
                    else none)
                  else
                    (bif am_in (g6 135 0 0) 700 then
                      (if (g6 30 0 (g6 135 0 0).toNatClampNeg) = (45 : Int32) then
                      (if ((am_put g6 136 0 (6 : Int32)) 136 0 0) = (6 : Int32) then
                        (am_run ct 139 n 143 [some (.inr (.inr (29, 0)))] [] (am_put (am_put (am_put g6 136 0 (6 : Int32)) 135 0 (((am_put g6 136 0 (6 : Int32)) 135 0 0) + (1 : Int32))) 137 0 (0 : Int32)))
                      else
                        (am_run ct 139 n 143 [some (.inr (.inr (29, 0)))] [] (am_put (am_put g6 136 0 (6 : Int32)) 137 0 (0 : Int32))))
                    else
                      (if ((am_put g6 136 0 (3 : Int32)) 136 0 0) = (6 : Int32) then
                        (am_run ct 139 n 143 [some (.inr (.inr (29, 0)))] [] (am_put (am_put (am_put g6 136 0 (3 : Int32)) 135 0 (((am_put g6 136 0 (3 : Int32)) 135 0 0) + (1 : Int32))) 137 0 (0 : Int32)))
                      else
                        (am_run ct 139 n 143 [some (.inr (.inr (29, 0)))] [] (am_put (am_put g6 136 0 (3 : Int32)) 137 0 (0 : Int32)))))
                    else none)))
                else
                  (bif am_in (g5 135 0 0) 700 then
                    (if (g5 30 0 (g5 135 0 0).toNatClampNeg) = (59 : Int32) then
                    (some (none, am_put (am_put g5 136 0 (4 : Int32)) 135 0 (((am_put g5 136 0 (4 : Int32)) 135 0 0) + (1 : Int32))))
                  else
                    (some (none, am_put (am_put g5 136 0 (5 : Int32)) 135 0 (((am_put g5 136 0 (5 : Int32)) 135 0 0) + (1 : Int32)))))
                  else none))
                else none))
            else
              (bif am_in (g5 135 0 0) 700 then
                (if (g5 30 0 (g5 135 0 0).toNatClampNeg) = (45 : Int32) then
                (if ((am_put g5 136 0 (6 : Int32)) 136 0 0) = (6 : Int32) then
                  (am_run ct 139 n 143 [some (.inr (.inr (29, 0)))] [] (am_put (am_put (am_put g5 136 0 (6 : Int32)) 135 0 (((am_put g5 136 0 (6 : Int32)) 135 0 0) + (1 : Int32))) 137 0 (0 : Int32)))
                else
                  (am_run ct 139 n 143 [some (.inr (.inr (29, 0)))] [] (am_put (am_put g5 136 0 (6 : Int32)) 137 0 (0 : Int32))))
              else
                (if ((am_put g5 136 0 (3 : Int32)) 136 0 0) = (6 : Int32) then
                  (am_run ct 139 n 143 [some (.inr (.inr (29, 0)))] [] (am_put (am_put (am_put g5 136 0 (3 : Int32)) 135 0 (((am_put g5 136 0 (3 : Int32)) 135 0 0) + (1 : Int32))) 137 0 (0 : Int32)))
                else
                  (am_run ct 139 n 143 [some (.inr (.inr (29, 0)))] [] (am_put (am_put g5 136 0 (3 : Int32)) 137 0 (0 : Int32)))))
              else none)))
          else
            (am_run ct 139 n 44 [some (.inr (.inr (29, 0)))] [] g4)))))
      else none))
    else none) := rfl
set_option maxRecDepth 50000 in
theorem eM_token_44 (ct : am_T) (n : Nat)  (g : am_G) : am_run ct 139 (n + 1) 44 [some (.inr (.inr (29, 0)))] [] g =
  am_bi (ct 137 [.inr (.inr (29, 0)), .inl (g 135 0 0)] g) (fun r1 g1 =>
  if r1 = 0 then
    (am_bi (ct 136 [.inr (.inr (29, 0)), .inl (g1 138 0 0), .inl (g1 135 0 0)] g1) (fun r2 g2 =>
    if ((am_put g2 137 0 r2) 137 0 0) < 0 then
      (if (((am_put g2 137 0 r2) 135 0 0) - ((am_put g2 137 0 r2) 138 0 0)) ≤ (6 : Int32) then
        (if ((am_put (am_put g2 137 0 r2) 136 0 (2 : Int32)) 136 0 0) = (2 : Int32) then
          (am_bi (ct 140 [.inr (.inr (29, 0)), .inl ((am_put (am_put g2 137 0 r2) 136 0 (2 : Int32)) 138 0 0), .inl ((am_put (am_put g2 137 0 r2) 136 0 (2 : Int32)) 135 0 0)] (am_put (am_put g2 137 0 r2) 136 0 (2 : Int32))) (fun r3 g3 =>
          some (none, am_put g3 137 0 r3)))
        else
          (some (none, am_put (am_put g2 137 0 r2) 136 0 (2 : Int32))))
      else
        (if ((am_put (am_put g2 137 0 r2) 136 0 (5 : Int32)) 136 0 0) = (2 : Int32) then
          (am_bi (ct 140 [.inr (.inr (29, 0)), .inl ((am_put (am_put g2 137 0 r2) 136 0 (5 : Int32)) 138 0 0), .inl ((am_put (am_put g2 137 0 r2) 136 0 (5 : Int32)) 135 0 0)] (am_put (am_put g2 137 0 r2) 136 0 (5 : Int32))) (fun r4 g4 =>
          some (none, am_put g4 137 0 r4)))
        else
          (some (none, am_put (am_put g2 137 0 r2) 136 0 (5 : Int32)))))
    else
      (if ((am_put (am_put g2 137 0 r2) 136 0 (1 : Int32)) 136 0 0) = (2 : Int32) then
        (am_bi (ct 140 [.inr (.inr (29, 0)), .inl ((am_put (am_put g2 137 0 r2) 136 0 (1 : Int32)) 138 0 0), .inl ((am_put (am_put g2 137 0 r2) 136 0 (1 : Int32)) 135 0 0)] (am_put (am_put g2 137 0 r2) 136 0 (1 : Int32))) (fun r5 g5 =>
        some (none, am_put g5 137 0 r5)))
      else
        (some (none, am_put (am_put g2 137 0 r2) 136 0 (1 : Int32))))))
  else
    (am_run ct 139 n 44 [some (.inr (.inr (29, 0)))] [] (am_put g1 135 0 ((g1 135 0 0) + (1 : Int32))))) := rfl
set_option maxRecDepth 50000 in
theorem eM_token_143 (ct : am_T) (n : Nat)  (g : am_G) : am_run ct 139 (n + 1) 143 [some (.inr (.inr (29, 0)))] [] g =
  am_bi (ct 138 [.inr (.inr (29, 0)), .inl (g 135 0 0)] g) (fun r1 g1 =>
  if r1 = 0 then
    (if (g1 136 0 0) = (6 : Int32) then
      (some (none, am_put g1 137 0 (-(g1 137 0 0))))
    else
      (some (none, g1)))
  else
    (if (g1 137 0 0) ≤ (99999 : Int32) then
      (bif am_in (g1 135 0 0) 700 then
        (am_run ct 139 n 143 [some (.inr (.inr (29, 0)))] [] (am_put (am_put g1 137 0 ((((10 : Int32) * (g1 137 0 0)) + (g1 30 0 (g1 135 0 0).toNatClampNeg)) - (48 : Int32))) 135 0 (((am_put g1 137 0 ((((10 : Int32) * (g1 137 0 0)) + (g1 30 0 (g1 135 0 0).toNatClampNeg)) - (48 : Int32))) 135 0 0) + (1 : Int32))))
      else none)
    else
      (am_run ct 139 n 143 [some (.inr (.inr (29, 0)))] [] (am_put (am_put g1 137 0 (g1 137 0 0)) 135 0 (((am_put g1 137 0 (g1 137 0 0)) 135 0 0) + (1 : Int32)))))) := rfl
set_option maxRecDepth 50000 in
theorem eM_packed_0 (ct : am_T) (n : Nat) (x1 : Int32) (x2 : Int32) (g : am_G) : am_run ct 140 (n + 1) 0 [some (.inr (.inr (29, 0))), some (.inl x1), some (.inl x2), none, none] [] g =
  am_run ct 140 n 4 [some (.inr (.inr (29, 0))), some (.inl x1), some (.inl x2), some (.inl (0 : Int32)), some (.inl x1)] [] g := rfl
set_option maxRecDepth 50000 in
theorem eM_packed_4 (ct : am_T) (n : Nat) (x1 : Int32) (x2 : Int32) (x3 : Int32) (x4 : Int32) (g : am_G) : am_run ct 140 (n + 1) 4 [some (.inr (.inr (29, 0))), some (.inl x1), some (.inl x2), some (.inl x3), some (.inl x4)] [] g =
  if (x1 + (6 : Int32)) ≤ x4 then
    (some (some (.inl x3), g))
  else
    (if x2 ≤ x4 then
      (am_run ct 140 n 4 [some (.inr (.inr (29, 0))), some (.inl x1), some (.inl x2), some (.inl ((x3 <<< ((5 : Int32) &&& 31)) ||| (0 : Int32))), some (.inl (x4 + 1))] [] g)
    else
      (bif am_in x4 700 then
        (am_run ct 140 n 4 [some (.inr (.inr (29, 0))), some (.inl x1), some (.inl x2), some (.inl ((x3 <<< ((5 : Int32) &&& 31)) ||| ((g 30 0 x4.toNatClampNeg) - (96 : Int32)))), some (.inl (x4 + 1))] [] g)
      else none)) := rfl
set_option maxRecDepth 50000 in
theorem eM_of_0 (ct : am_T) (n : Nat) (x1 : Int32) (g : am_G) : am_run ct 141 (n + 1) 0 [some (.inr (.inr (29, 0))), some (.inl x1)] [] g =
  bif am_in (((121 : Int32) * (g 139 0 0)) + x1) 2904 then
    (some (some (.inl (g 32 0 (((121 : Int32) * (g 139 0 0)) + x1).toNatClampNeg)), g))
  else none := rfl
set_option maxRecDepth 50000 in
theorem eM_lay_0 (ct : am_T) (n : Nat) (x1 : Int32) (x2 : Int32) (g : am_G) : am_run ct 142 (n + 1) 0 [some (.inr (.inr (29, 0))), some (.inl x1), some (.inl x2)] [] g =
  bif am_in (((121 : Int32) * (g 139 0 0)) + x1) 2904 then
    (some (none, am_sto g 32 0 (((121 : Int32) * (g 139 0 0)) + x1).toNatClampNeg x2))
  else none := rfl
set_option maxRecDepth 50000 in
theorem eM_copyBank_0 (ct : am_T) (n : Nat) (x1 : Int32) (x2 : Int32) (g : am_G) : am_run ct 143 (n + 1) 0 [some (.inr (.inr (29, 0))), some (.inl x1), some (.inl x2), none] [] g =
  am_run ct 143 n 2 [some (.inr (.inr (29, 0))), some (.inl x1), some (.inl x2), some (.inl (0 : Int32))] [] g := rfl
set_option maxRecDepth 50000 in
theorem eM_copyBank_2 (ct : am_T) (n : Nat) (x1 : Int32) (x2 : Int32) (x3 : Int32) (g : am_G) : am_run ct 143 (n + 1) 2 [some (.inr (.inr (29, 0))), some (.inl x1), some (.inl x2), some (.inl x3)] [] g =
  if (121 : Int32) ≤ x3 then
    (some (none, g))
  else
    (bif am_in (((121 : Int32) * x1) + x3) 2904 then
      (bif am_in (((121 : Int32) * x2) + x3) 2904 then
      (am_run ct 143 n 2 [some (.inr (.inr (29, 0))), some (.inl x1), some (.inl x2), some (.inl (x3 + 1))] [] (am_sto g 32 0 (((121 : Int32) * x2) + x3).toNatClampNeg (g 32 0 (((121 : Int32) * x1) + x3).toNatClampNeg)))
    else none)
    else none) := rfl
set_option maxRecDepth 50000 in
theorem eM_canUndo_0 (ct : am_T) (n : Nat)  (g : am_G) : am_run ct 144 (n + 1) 0 [some (.inr (.inr (29, 0))), none] [] g =
  if (g 140 0 0) = (20 : Int32) then
    (am_run ct 144 n 6 [some (.inr (.inr (29, 0))), some (.inl (1 : Int32))] [] g)
  else
    (am_bv (ct 143 [.inr (.inr (29, 0)), .inl (0 : Int32), .inl ((4 : Int32) + (g 140 0 0))] g) (fun g1 =>
    some (none, am_put g1 140 0 ((g1 140 0 0) + (1 : Int32))))) := rfl
set_option maxRecDepth 50000 in
theorem eM_canUndo_6 (ct : am_T) (n : Nat) (x1 : Int32) (g : am_G) : am_run ct 144 (n + 1) 6 [some (.inr (.inr (29, 0))), some (.inl x1)] [] g =
  if (20 : Int32) ≤ x1 then
    (am_bv (ct 143 [.inr (.inr (29, 0)), .inl (0 : Int32), .inl ((4 : Int32) + ((am_put g 140 0 (19 : Int32)) 140 0 0))] (am_put g 140 0 (19 : Int32))) (fun g1 =>
    some (none, am_put g1 140 0 ((g1 140 0 0) + (1 : Int32)))))
  else
    (am_bv (ct 143 [.inr (.inr (29, 0)), .inl ((4 : Int32) + x1), .inl ((3 : Int32) + x1)] g) (fun g2 =>
    am_run ct 144 n 6 [some (.inr (.inr (29, 0))), some (.inl (x1 + 1))] [] g2)) := rfl
set_option maxRecDepth 50000 in
theorem eM_undo_0 (ct : am_T) (n : Nat)  (g : am_G) : am_run ct 145 (n + 1) 0 [some (.inr (.inr (29, 0)))] [] g =
  if ((am_put g 131 0 (0 : Int32)) 140 0 0) = 0 then
    (some (some (.inl (-1 : Int32)), am_put g 131 0 (0 : Int32)))
  else
    (am_bv (ct 143 [.inr (.inr (29, 0)), .inl ((4 : Int32) + ((am_put (am_put g 131 0 (0 : Int32)) 140 0 (((am_put g 131 0 (0 : Int32)) 140 0 0) - (1 : Int32))) 140 0 0)), .inl (0 : Int32)] (am_put (am_put g 131 0 (0 : Int32)) 140 0 (((am_put g 131 0 (0 : Int32)) 140 0 0) - (1 : Int32)))) (fun g1 =>
    some (some (.inl (g1 140 0 0)), g1))) := rfl
set_option maxRecDepth 50000 in
theorem eM_keep_0 (ct : am_T) (n : Nat)  (g : am_G) : am_run ct 146 (n + 1) 0 [some (.inr (.inr (29, 0)))] [] g =
  am_bv (ct 143 [.inr (.inr (29, 0)), .inl (0 : Int32), .inl (2 : Int32)] (am_put g 131 0 (0 : Int32))) (fun g1 =>
  am_bi (ct 235 [.inr (.inr (29, 0))] (am_put g1 141 0 (1 : Int32))) (fun r2 g2 =>
  some (some (.inl r2), g2))) := rfl
set_option maxRecDepth 50000 in
theorem eM_back_0 (ct : am_T) (n : Nat)  (g : am_G) : am_run ct 147 (n + 1) 0 [some (.inr (.inr (29, 0)))] [] g =
  if ((am_put g 131 0 (0 : Int32)) 141 0 0) = 0 then
    (some (some (.inl (-1 : Int32)), am_put g 131 0 (0 : Int32)))
  else
    (am_bv (ct 143 [.inr (.inr (29, 0)), .inl (2 : Int32), .inl (0 : Int32)] (am_put g 131 0 (0 : Int32))) (fun g1 =>
    am_bi (ct 235 [.inr (.inr (29, 0))] (am_put g1 140 0 (0 : Int32))) (fun r2 g2 =>
    some (some (.inl r2), g2)))) := rfl
set_option maxRecDepth 50000 in
theorem eM_isTown_0 (ct : am_T) (n : Nat) (x1 : Int32) (g : am_G) : am_run ct 148 (n + 1) 0 [some (.inr (.inr (29, 0))), some (.inl x1)] [] g =
  am_bi (ct 134 [.inl x1, .inl (0 : Int32), .inl ((g 142 0 0) - (1 : Int32))] g) (fun r1 g1 =>
  bif am_01 r1 then some (some (.inl r1), g1) else none) := rfl
set_option maxRecDepth 50000 in
theorem eM_areTowns_0 (ct : am_T) (n : Nat) (x1 : Int32) (x2 : Int32) (g : am_G) : am_run ct 149 (n + 1) 0 [some (.inr (.inr (29, 0))), some (.inl x1), some (.inl x2)] [] g =
  am_bi (ct 148 [.inr (.inr (29, 0)), .inl x1] g) (fun r1 g1 =>
  if r1 = 0 then
    (some (some (.inl (0 : Int32)), g1))
  else
    (am_bi (ct 148 [.inr (.inr (29, 0)), .inl x2] g1) (fun r2 g2 =>
    if r2 = 0 then
      (some (some (.inl (0 : Int32)), g2))
    else
      (some (some (.inl (1 : Int32)), g2))))) := rfl
set_option maxRecDepth 50000 in
theorem eM_parent_0 (ct : am_T) (n : Nat) (x1 : Int32) (g : am_G) : am_run ct 150 (n + 1) 0 [some (.inr (.inr (29, 0))), some (.inl x1)] [] g =
  am_bi (ct 141 [.inr (.inr (29, 0)), .inl ((0 : Int32) + x1)] g) (fun r1 g1 =>
  some (some (.inl r1), g1)) := rfl
set_option maxRecDepth 50000 in
theorem eM_prefers_0 (ct : am_T) (n : Nat) (x1 : Int32) (g : am_G) : am_run ct 151 (n + 1) 0 [some (.inr (.inr (29, 0))), some (.inl x1)] [] g =
  am_bi (ct 141 [.inr (.inr (29, 0)), .inl ((24 : Int32) + x1)] g) (fun r1 g1 =>
  some (some (.inl r1), g1)) := rfl
set_option maxRecDepth 50000 in
theorem eM_free_0 (ct : am_T) (n : Nat) (x1 : Int32) (g : am_G) : am_run ct 152 (n + 1) 0 [some (.inr (.inr (29, 0))), some (.inl x1)] [] g =
  am_bv (ct 142 [.inr (.inr (29, 0)), .inl ((0 : Int32) + x1), .inl (-2 : Int32)] g) (fun g1 =>
  am_bv (ct 142 [.inr (.inr (29, 0)), .inl ((48 : Int32) + x1), .inl (-2 : Int32)] g1) (fun g2 =>
  am_bv (ct 142 [.inr (.inr (29, 0)), .inl ((72 : Int32) + x1), .inl (-2 : Int32)] g2) (fun g3 =>
  some (none, g3)))) := rfl
set_option maxRecDepth 50000 in
theorem eM_plain_0 (ct : am_T) (n : Nat)  (g : am_G) : am_run ct 153 (n + 1) 0 [some (.inr (.inr (29, 0)))] [] g =
  some (none, am_put (am_put (am_put g 144 0 (0 : Int32)) 145 0 (0 : Int32)) 146 0 (0 : Int32)) := rfl
set_option maxRecDepth 50000 in
theorem eM_keepText_0 (ct : am_T) (n : Nat)  (g : am_G) : am_run ct 154 (n + 1) 0 [some (.inr (.inr (29, 0))), none] [] g =
  am_bv (ct 143 [.inr (.inr (29, 0)), .inl (3 : Int32), .inl (0 : Int32)] g) (fun g1 =>
  am_run ct 154 n 6 [some (.inr (.inr (29, 0))), some (.inl (0 : Int32))] [] g1) := rfl
set_option maxRecDepth 50000 in
theorem eM_keepText_6 (ct : am_T) (n : Nat) (x1 : Int32) (g : am_G) : am_run ct 154 (n + 1) 6 [some (.inr (.inr (29, 0))), some (.inl x1)] [] g =
  if (24 : Int32) ≤ x1 then
    (am_bv (ct 142 [.inr (.inr (29, 0)), .inl (120 : Int32), .inl (0 : Int32)] (am_put (am_put (am_put (am_put (am_put g 142 0 (g 144 0 0)) 143 0 ((am_put g 142 0 (g 144 0 0)) 145 0 0)) 140 0 (0 : Int32)) 141 0 (0 : Int32)) 148 0 (0 : Int32))) (fun g1 =>
    some (none, g1)))
  else
    (bif am_in x1 24 then
      (bif am_in x1 24 then
      (am_run ct 154 n 6 [some (.inr (.inr (29, 0))), some (.inl (x1 + 1))] [] (am_sto g 33 0 x1.toNatClampNeg (g 34 0 x1.toNatClampNeg)))
    else none)
    else none) := rfl
set_option maxRecDepth 50000 in
theorem eM_nameAt_33_0 (ct : am_T) (n : Nat) (x0 : Int32) (x2 : Int32) (g : am_G) : am_run ct 155 (n + 1) 0 [some (.inl x0), some (.inr (.inr (33, 0))), some (.inl x2), none] [] g =
  am_run ct 155 n 2 [some (.inl x0), some (.inr (.inr (33, 0))), some (.inl x2), some (.inl (0 : Int32))] [] g := rfl
set_option maxRecDepth 50000 in
theorem eM_nameAt_33_2 (ct : am_T) (n : Nat) (x0 : Int32) (x2 : Int32) (x3 : Int32) (g : am_G) : am_run ct 155 (n + 1) 2 [some (.inl x0), some (.inr (.inr (33, 0))), some (.inl x2), some (.inl x3)] [] g =
  if x2 ≤ x3 then
    (some (some (.inl (-1 : Int32)), g))
  else
    (bif am_in x3 24 then
      (if (g 33 0 x3.toNatClampNeg) = x0 then
      (some (some (.inl x3), g))
    else
      (am_run ct 155 n 2 [some (.inl x0), some (.inr (.inr (33, 0))), some (.inl x2), some (.inl (x3 + 1))] [] g))
    else none) := rfl
set_option maxRecDepth 50000 in
theorem eM_nameAt_34_0 (ct : am_T) (n : Nat) (x0 : Int32) (x2 : Int32) (g : am_G) : am_run ct 155 (n + 1) 0 [some (.inl x0), some (.inr (.inr (34, 0))), some (.inl x2), none] [] g =
  am_run ct 155 n 2 [some (.inl x0), some (.inr (.inr (34, 0))), some (.inl x2), some (.inl (0 : Int32))] [] g := rfl
set_option maxRecDepth 50000 in
theorem eM_nameAt_34_2 (ct : am_T) (n : Nat) (x0 : Int32) (x2 : Int32) (x3 : Int32) (g : am_G) : am_run ct 155 (n + 1) 2 [some (.inl x0), some (.inr (.inr (34, 0))), some (.inl x2), some (.inl x3)] [] g =
  if x2 ≤ x3 then
    (some (some (.inl (-1 : Int32)), g))
  else
    (bif am_in x3 24 then
      (if (g 34 0 x3.toNatClampNeg) = x0 then
      (some (some (.inl x3), g))
    else
      (am_run ct 155 n 2 [some (.inl x0), some (.inr (.inr (34, 0))), some (.inl x2), some (.inl (x3 + 1))] [] g))
    else none) := rfl
set_option maxRecDepth 50000 in
theorem eM_signed_0 (ct : am_T) (n : Nat) (x1 : Int32) (x2 : Int32) (g : am_G) : am_run ct 156 (n + 1) 0 [some (.inr (.inr (29, 0))), some (.inl x1), some (.inl x2)] [] g =
  if (g 136 0 0) = (3 : Int32) then
    (am_bi (ct 134 [.inl (g 137 0 0), .inl x1, .inl x2] g) (fun r1 g1 =>
    if r1 = 0 then
      (am_bi (ct 135 [.inr (.inr (29, 0)), .inl (2 : Int32)] g1) (fun r3 g3 =>
      bif am_01 r3 then some (some (.inl r3), g3) else none))
    else
      (am_bv (ct 139 [.inr (.inr (29, 0))] (am_put g1 147 0 (g1 137 0 0))) (fun g2 =>
      some (some (.inl (1 : Int32)), g2)))))
  else
    (if (g 136 0 0) = (6 : Int32) then
      (am_bi (ct 134 [.inl (g 137 0 0), .inl x1, .inl x2] g) (fun r4 g4 =>
      if r4 = 0 then
        (am_bi (ct 135 [.inr (.inr (29, 0)), .inl (2 : Int32)] g4) (fun r6 g6 =>
        bif am_01 r6 then some (some (.inl r6), g6) else none))
      else
        (am_bv (ct 139 [.inr (.inr (29, 0))] (am_put g4 147 0 (g4 137 0 0))) (fun g5 =>
        some (some (.inl (1 : Int32)), g5)))))
    else
      (am_bi (ct 135 [.inr (.inr (29, 0)), .inl (1 : Int32)] g) (fun r7 g7 =>
      bif am_01 r7 then some (some (.inl r7), g7) else none))) := rfl
set_option maxRecDepth 50000 in
theorem eM_number_0 (ct : am_T) (n : Nat) (x1 : Int32) (x2 : Int32) (g : am_G) : am_run ct 157 (n + 1) 0 [some (.inr (.inr (29, 0))), some (.inl x1), some (.inl x2)] [] g =
  if (g 136 0 0) = (3 : Int32) then
    (am_bi (ct 156 [.inr (.inr (29, 0)), .inl x1, .inl x2] g) (fun r2 g2 =>
    bif am_01 r2 then some (some (.inl r2), g2) else none))
  else
    (am_bi (ct 135 [.inr (.inr (29, 0)), .inl (1 : Int32)] g) (fun r1 g1 =>
    bif am_01 r1 then some (some (.inl r1), g1) else none)) := rfl
set_option maxRecDepth 50000 in
theorem eM_townRead_0 (ct : am_T) (n : Nat)  (g : am_G) : am_run ct 158 (n + 1) 0 [some (.inr (.inr (29, 0)))] [] g =
  am_bv (ct 139 [.inr (.inr (29, 0))] g) (fun g1 =>
  if (g1 136 0 0) = (2 : Int32) then
    (am_bi (ct 155 [.inl (g1 137 0 0), .inr (.inr (34, 0)), .inl (g1 144 0 0)] g1) (fun r2 g2 =>
    if 0 ≤ ((am_put g2 147 0 r2) 147 0 0) then
      (some (some (.inl (1 : Int32)), am_put g2 147 0 r2))
    else
      (am_bi (ct 135 [.inr (.inr (29, 0)), .inl (4 : Int32)] (am_put g2 147 0 r2)) (fun r3 g3 =>
      if r3 = 0 then
        (some (some (.inl (0 : Int32)), g3))
      else
        (some (some (.inl (1 : Int32)), g3))))))
  else
    (am_bi (ct 135 [.inr (.inr (29, 0)), .inl (1 : Int32)] g1) (fun r4 g4 =>
    bif am_01 r4 then some (some (.inl r4), g4) else none))) := rfl
set_option maxRecDepth 50000 in
theorem eM_townLine_0 (ct : am_T) (n : Nat)  (g : am_G) : am_run ct 159 (n + 1) 0 [some (.inr (.inr (29, 0)))] [] g =
  if (g 144 0 0) = (24 : Int32) then
    (am_bi (ct 135 [.inr (.inr (29, 0)), .inl (2 : Int32)] g) (fun r10 g10 =>
    bif am_01 r10 then some (some (.inl r10), g10) else none))
  else
    (am_bv (ct 139 [.inr (.inr (29, 0))] g) (fun g1 =>
    if (g1 136 0 0) = (2 : Int32) then
      (am_bi (ct 155 [.inl (g1 137 0 0), .inr (.inr (34, 0)), .inl (g1 144 0 0)] g1) (fun r2 g2 =>
      if r2 < 0 then
        (bif am_in (g2 144 0 0) 24 then
          (am_bv (ct 139 [.inr (.inr (29, 0))] (am_sto g2 34 0 (g2 144 0 0).toNatClampNeg (g2 137 0 0))) (fun g3 =>
        am_bi (ct 156 [.inr (.inr (29, 0)), .inl (-9999 : Int32), .inl (9999 : Int32)] g3) (fun r4 g4 =>
        if r4 = 0 then
          (some (some (.inl (0 : Int32)), g4))
        else
          (am_bv (ct 152 [.inr (.inr (29, 0)), .inl (g4 144 0 0)] g4) (fun g5 =>
          am_bv (ct 142 [.inr (.inr (29, 0)), .inl ((24 : Int32) + (g5 144 0 0)), .inl (-2 : Int32)] g5) (fun g6 =>
          am_bv (ct 142 [.inr (.inr (29, 0)), .inl ((96 : Int32) + (g6 144 0 0)), .inl (g6 147 0 0)] g6) (fun g7 =>
          some (some (.inl (1 : Int32)), am_put g7 144 0 ((g7 144 0 0) + (1 : Int32))))))))))
        else none)
      else
        (am_bi (ct 135 [.inr (.inr (29, 0)), .inl (3 : Int32)] g2) (fun r8 g8 =>
        bif am_01 r8 then some (some (.inl r8), g8) else none))))
    else
      (am_bi (ct 135 [.inr (.inr (29, 0)), .inl (1 : Int32)] g1) (fun r9 g9 =>
      bif am_01 r9 then some (some (.inl r9), g9) else none)))) := rfl
set_option maxRecDepth 50000 in
theorem eM_linkLine_0 (ct : am_T) (n : Nat)  (g : am_G) : am_run ct 160 (n + 1) 0 [some (.inr (.inr (29, 0))), none, none, none] [] g =
  am_bi (ct 158 [.inr (.inr (29, 0))] g) (fun r1 g1 =>
  if r1 = 0 then
    (some (some (.inl (0 : Int32)), g1))
  else
    (am_bi (ct 158 [.inr (.inr (29, 0))] g1) (fun r2 g2 =>
    if r2 = 0 then
      (some (some (.inl (0 : Int32)), g2))
    else
      (am_bi (ct 166 [.inr (.inr (29, 0)), .inl (g1 147 0 0)] g2) (fun r3 g3 =>
      am_bi (ct 166 [.inr (.inr (29, 0)), .inl (g2 147 0 0)] g3) (fun r4 g4 =>
      if r3 = r4 then
        (am_bi (ct 135 [.inr (.inr (29, 0)), .inl (3 : Int32)] g4) (fun r9 g9 =>
        bif am_01 r9 then some (some (.inl r9), g9) else none))
      else
        (am_bv (ct 139 [.inr (.inr (29, 0))] g4) (fun g5 =>
        am_bi (ct 157 [.inr (.inr (29, 0)), .inl (1 : Int32), .inl (9999 : Int32)] g5) (fun r6 g6 =>
        if r6 = 0 then
          (some (some (.inl (0 : Int32)), g6))
        else
          (am_bi (ct 157 [.inr (.inr (29, 0)), .inl (1 : Int32), .inl (9999 : Int32)] g6) (fun r7 g7 =>
          if r7 = 0 then
            (some (some (.inl (0 : Int32)), g7))
          else
            (am_bv (ct 171 [.inr (.inr (29, 0)), .inl (g1 147 0 0), .inl (g2 147 0 0), .inl (g6 147 0 0), .inl (g7 147 0 0)] g7) (fun g8 =>
            some (some (.inl (1 : Int32)), g8)))))))))))))) := rfl
set_option maxRecDepth 50000 in
theorem eM_wordLine_0 (ct : am_T) (n : Nat)  (g : am_G) : am_run ct 161 (n + 1) 0 [some (.inr (.inr (29, 0))), none] [] g =
  if (g 137 0 0) = (5 : Int32) then
    (if (g 146 0 0) = 0 then
      (am_bv (ct 139 [.inr (.inr (29, 0))] (am_put g 146 0 (1 : Int32))) (fun g8 =>
      am_bi (ct 157 [.inr (.inr (29, 0)), .inl (0 : Int32), .inl (99999 : Int32)] g8) (fun r9 g9 =>
      if r9 = 0 then
        (some (some (.inl (0 : Int32)), g9))
      else
        (some (some (.inl (1 : Int32)), am_put g9 145 0 (g9 147 0 0))))))
    else
      (am_bi (ct 135 [.inr (.inr (29, 0)), .inl (3 : Int32)] g) (fun r10 g10 =>
      bif am_01 r10 then some (some (.inl r10), g10) else none)))
  else
    (am_bi (ct 158 [.inr (.inr (29, 0))] g) (fun r1 g1 =>
    if r1 = 0 then
      (some (some (.inl (0 : Int32)), g1))
    else
      (if (g 137 0 0) = (2 : Int32) then
        (am_bi (ct 170 [.inr (.inr (29, 0)), .inl (g1 147 0 0)] g1) (fun r6 g6 =>
        am_bv (ct 139 [.inr (.inr (29, 0))] g6) (fun g7 =>
        some (some (.inl (1 : Int32)), g7))))
      else
        (if (g 137 0 0) = (3 : Int32) then
          (am_bi (ct 169 [.inr (.inr (29, 0)), .inl (g1 147 0 0)] g1) (fun r4 g4 =>
          am_bv (ct 139 [.inr (.inr (29, 0))] g4) (fun g5 =>
          some (some (.inl (1 : Int32)), g5))))
        else
          (am_bi (ct 190 [.inr (.inr (29, 0)), .inl (g1 147 0 0)] g1) (fun r2 g2 =>
          am_bv (ct 139 [.inr (.inr (29, 0))] g2) (fun g3 =>
          some (some (.inl (1 : Int32)), g3)))))))) := rfl
set_option maxRecDepth 50000 in
theorem eM_lineRead_0 (ct : am_T) (n : Nat)  (g : am_G) : am_run ct 162 (n + 1) 0 [some (.inr (.inr (29, 0))), none] [] g =
  if (g 136 0 0) = (1 : Int32) then
    (if (g 137 0 0) = 0 then
      (am_bi (ct 159 [.inr (.inr (29, 0))] g) (fun r7 g7 =>
      if r7 = 0 then
        (some (some (.inl (0 : Int32)), g7))
      else
        (if (g7 136 0 0) = (4 : Int32) then
          (am_bv (ct 139 [.inr (.inr (29, 0))] g7) (fun g8 =>
          some (some (.inl (1 : Int32)), g8)))
        else
          (am_bi (ct 135 [.inr (.inr (29, 0)), .inl (1 : Int32)] g7) (fun r9 g9 =>
          bif am_01 r9 then some (some (.inl r9), g9) else none)))))
    else
      (if (g 137 0 0) = (1 : Int32) then
        (am_bi (ct 160 [.inr (.inr (29, 0))] g) (fun r4 g4 =>
        if r4 = 0 then
          (some (some (.inl (0 : Int32)), g4))
        else
          (if (g4 136 0 0) = (4 : Int32) then
            (am_bv (ct 139 [.inr (.inr (29, 0))] g4) (fun g5 =>
            some (some (.inl (1 : Int32)), g5)))
          else
            (am_bi (ct 135 [.inr (.inr (29, 0)), .inl (1 : Int32)] g4) (fun r6 g6 =>
            bif am_01 r6 then some (some (.inl r6), g6) else none)))))
      else
        (am_bi (ct 161 [.inr (.inr (29, 0))] g) (fun r1 g1 =>
        if r1 = 0 then
          (some (some (.inl (0 : Int32)), g1))
        else
          (if (g1 136 0 0) = (4 : Int32) then
            (am_bv (ct 139 [.inr (.inr (29, 0))] g1) (fun g2 =>
            some (some (.inl (1 : Int32)), g2)))
          else
            (am_bi (ct 135 [.inr (.inr (29, 0)), .inl (1 : Int32)] g1) (fun r3 g3 =>
            bif am_01 r3 then some (some (.inl r3), g3) else none)))))))
  else
    (am_bi (ct 135 [.inr (.inr (29, 0)), .inl (1 : Int32)] g) (fun r10 g10 =>
    bif am_01 r10 then some (some (.inl r10), g10) else none)) := rfl
set_option maxRecDepth 50000 in
theorem eM_text_0 (ct : am_T) (n : Nat) (x1 : Int32) (g : am_G) : am_run ct 163 (n + 1) 0 [some (.inr (.inr (29, 0))), some (.inl x1), none, none, none] [] g =
  if x1 < 0 then
    (some (some (.inl (-2 : Int32)), am_put g 131 0 (0 : Int32)))
  else
    (if x1 ≤ ((am_put g 131 0 (0 : Int32)) 130 0 0) then
      (am_bv (ct 153 [.inr (.inr (29, 0))] (am_put (am_put (am_put (am_put (am_put (am_put g 131 0 (0 : Int32)) 134 0 x1) 130 0 (0 : Int32)) 132 0 (0 : Int32)) 133 0 (-1 : Int32)) 135 0 (0 : Int32))) (fun g1 =>
      am_bv (ct 139 [.inr (.inr (29, 0))] g1) (fun g2 =>
      am_run ct 163 n 43 [some (.inr (.inr (29, 0))), some (.inl x1), some (.inl ((am_put g2 139 0 (3 : Int32)) 142 0 0)), some (.inl (0 : Int32)), some (.inl (1 : Int32))] [] (am_put (am_put g2 139 0 (3 : Int32)) 142 0 (0 : Int32)))))
    else
      (some (some (.inl (-2 : Int32)), am_put g 131 0 (0 : Int32)))) := rfl
set_option maxRecDepth 50000 in
theorem eM_text_43 (ct : am_T) (n : Nat) (x1 : Int32) (x2 : Int32) (x3 : Int32) (x4 : Int32) (g : am_G) : am_run ct 163 (n + 1) 43 [some (.inr (.inr (29, 0))), some (.inl x1), some (.inl x2), some (.inl x3), some (.inl x4)] [] g =
  if x4 = 0 then
    (if x4 = 0 then
      (some (some (.inl (-1 : Int32)), am_put (am_put g 142 0 x2) 139 0 (0 : Int32)))
    else
      (am_bv (ct 154 [.inr (.inr (29, 0))] (am_put (am_put g 142 0 x2) 139 0 (0 : Int32))) (fun g1 =>
      some (some (.inl x3), g1))))
  else
    (if (g 136 0 0) = 0 then
      (if x4 = 0 then
        (some (some (.inl (-1 : Int32)), am_put (am_put g 142 0 x2) 139 0 (0 : Int32)))
      else
        (am_bv (ct 154 [.inr (.inr (29, 0))] (am_put (am_put g 142 0 x2) 139 0 (0 : Int32))) (fun g2 =>
        some (some (.inl x3), g2))))
    else
      (am_bi (ct 162 [.inr (.inr (29, 0))] g) (fun r3 g3 =>
      am_run ct 163 n 43 [some (.inr (.inr (29, 0))), some (.inl x1), some (.inl x2), some (.inl (x3 + 1)), some (.inl r3)] [] (am_put g3 142 0 (g3 144 0 0))))) := rfl
set_option maxRecDepth 50000 in
theorem eM_fault_0 (ct : am_T) (n : Nat) (x1 : Int32) (g : am_G) : am_run ct 164 (n + 1) 0 [some (.inr (.inr (29, 0))), some (.inl x1)] [] g =
  if x1 = 0 then
    (some (some (.inl ((am_put g 131 0 (0 : Int32)) 132 0 0)), am_put g 131 0 (0 : Int32)))
  else
    (if x1 = (1 : Int32) then
      (some (some (.inl ((am_put g 131 0 (0 : Int32)) 133 0 0)), am_put g 131 0 (0 : Int32)))
    else
      (some (some (.inl (-1 : Int32)), am_put g 131 0 (0 : Int32)))) := rfl
set_option maxRecDepth 50000 in
theorem eM_named_0 (ct : am_T) (n : Nat) (x1 : Int32) (g : am_G) : am_run ct 165 (n + 1) 0 [some (.inr (.inr (29, 0))), some (.inl x1)] [] g =
  am_bi (ct 155 [.inl x1, .inr (.inr (33, 0)), .inl ((am_put g 131 0 (0 : Int32)) 142 0 0)] (am_put g 131 0 (0 : Int32))) (fun r1 g1 =>
  some (some (.inl r1), g1)) := rfl
set_option maxRecDepth 50000 in
theorem eM_rootOf_0 (ct : am_T) (n : Nat) (x1 : Int32) (g : am_G) : am_run ct 166 (n + 1) 0 [some (.inr (.inr (29, 0))), some (.inl x1), none] [] g =
  am_run ct 166 n 2 [some (.inr (.inr (29, 0))), some (.inl x1), some (.inl x1)] [] g := rfl
set_option maxRecDepth 50000 in
theorem eM_rootOf_2 (ct : am_T) (n : Nat) (x1 : Int32) (x2 : Int32) (g : am_G) : am_run ct 166 (n + 1) 2 [some (.inr (.inr (29, 0))), some (.inl x1), some (.inl x2)] [] g =
  am_bi (ct 150 [.inr (.inr (29, 0)), .inl x2] g) (fun r1 g1 =>
  if r1 < 0 then
    (some (some (.inl x2), g1))
  else
    (am_bi (ct 150 [.inr (.inr (29, 0)), .inl x2] g1) (fun r2 g2 =>
    am_run ct 166 n 2 [some (.inr (.inr (29, 0))), some (.inl x1), some (.inl r2)] [] g2))) := rfl
set_option maxRecDepth 50000 in
theorem eM_areTogether_0 (ct : am_T) (n : Nat) (x1 : Int32) (x2 : Int32) (g : am_G) : am_run ct 167 (n + 1) 0 [some (.inr (.inr (29, 0))), some (.inl x1), some (.inl x2)] [] g =
  am_bi (ct 166 [.inr (.inr (29, 0)), .inl x1] g) (fun r1 g1 =>
  am_bi (ct 166 [.inr (.inr (29, 0)), .inl x2] g1) (fun r2 g2 =>
  if r1 = r2 then
    (some (some (.inl (1 : Int32)), g2))
  else
    (some (some (.inl (0 : Int32)), g2)))) := rfl
set_option maxRecDepth 50000 in
theorem eM_would1_0 (ct : am_T) (n : Nat) (x1 : Int32) (g : am_G) : am_run ct 168 (n + 1) 0 [some (.inr (.inr (29, 0))), some (.inl x1), none, none] [] g =
  am_run ct 168 n 4 [some (.inr (.inr (29, 0))), some (.inl x1), some (.inl (0 : Int32)), some (.inl x1)] [] g := rfl
set_option maxRecDepth 50000 in
theorem eM_would1_4 (ct : am_T) (n : Nat) (x1 : Int32) (x2 : Int32) (x3 : Int32) (g : am_G) : am_run ct 168 (n + 1) 4 [some (.inr (.inr (29, 0))), some (.inl x1), some (.inl x2), some (.inl x3)] [] g =
  am_bi (ct 150 [.inr (.inr (29, 0)), .inl x3] g) (fun r1 g1 =>
  if r1 < 0 then
    (some (some (.inl x2), g1))
  else
    (am_bi (ct 150 [.inr (.inr (29, 0)), .inl x3] g1) (fun r2 g2 =>
    am_bi (ct 151 [.inr (.inr (29, 0)), .inl r2] g2) (fun r3 g3 =>
    if r3 = x3 then
      (am_bi (ct 150 [.inr (.inr (29, 0)), .inl x3] g3) (fun r5 g5 =>
      am_run ct 168 n 4 [some (.inr (.inr (29, 0))), some (.inl x1), some (.inl (x2 + (0 : Int32))), some (.inl r5)] [] g5))
    else
      (am_bi (ct 150 [.inr (.inr (29, 0)), .inl x3] g3) (fun r4 g4 =>
      am_run ct 168 n 4 [some (.inr (.inr (29, 0))), some (.inl x1), some (.inl (x2 + (1 : Int32))), some (.inl r4)] [] g4)))))) := rfl
set_option maxRecDepth 50000 in
theorem eM_touches_0 (ct : am_T) (n : Nat) (x1 : Int32) (g : am_G) : am_run ct 169 (n + 1) 0 [some (.inr (.inr (29, 0))), some (.inl x1), none, none] [] g =
  am_bi (ct 168 [.inr (.inr (29, 0)), .inl x1] g) (fun r1 g1 =>
  am_bv (ct 142 [.inr (.inr (29, 0)), .inl ((24 : Int32) + x1), .inl (-2 : Int32)] g1) (fun g2 =>
  am_run ct 169 n 12 [some (.inr (.inr (29, 0))), some (.inl x1), some (.inl r1), some (.inl x1)] [] g2)) := rfl
set_option maxRecDepth 50000 in
theorem eM_touches_12 (ct : am_T) (n : Nat) (x1 : Int32) (x2 : Int32) (x3 : Int32) (g : am_G) : am_run ct 169 (n + 1) 12 [some (.inr (.inr (29, 0))), some (.inl x1), some (.inl x2), some (.inl x3)] [] g =
  am_bi (ct 150 [.inr (.inr (29, 0)), .inl x3] g) (fun r1 g1 =>
  if r1 < 0 then
    (am_bi (ct 141 [.inr (.inr (29, 0)), .inl (120 : Int32)] g1) (fun r2 g2 =>
    am_bv (ct 142 [.inr (.inr (29, 0)), .inl (120 : Int32), .inl (r2 + x2)] g2) (fun g3 =>
    some (some (.inl x2), g3))))
  else
    (am_bi (ct 150 [.inr (.inr (29, 0)), .inl x3] g1) (fun r4 g4 =>
    am_bv (ct 142 [.inr (.inr (29, 0)), .inl ((24 : Int32) + r4), .inl x3] g4) (fun g5 =>
    am_bi (ct 150 [.inr (.inr (29, 0)), .inl x3] g5) (fun r6 g6 =>
    am_run ct 169 n 12 [some (.inr (.inr (29, 0))), some (.inl x1), some (.inl x2), some (.inl r6)] [] g6))))) := rfl
set_option maxRecDepth 50000 in
theorem eM_reroots_0 (ct : am_T) (n : Nat) (x1 : Int32) (g : am_G) : am_run ct 170 (n + 1) 0 [some (.inr (.inr (29, 0))), some (.inl x1), none, none, none, none, none, none, none, none] [] g =
  am_bi (ct 169 [.inr (.inr (29, 0)), .inl x1] g) (fun r1 g1 =>
  am_run ct 170 n 12 [some (.inr (.inr (29, 0))), some (.inl x1), some (.inl r1), some (.inl x1), some (.inl (-2 : Int32)), some (.inl (-2 : Int32)), some (.inl (-2 : Int32)), none, none, none] [] g1) := rfl
set_option maxRecDepth 50000 in
theorem eM_reroots_12 (ct : am_T) (n : Nat) (x1 : Int32) (x2 : Int32) (x3 : Int32) (x4 : Int32) (x5 : Int32) (x6 : Int32) (o7 : Option am_V) (o8 : Option am_V) (o9 : Option am_V) (g : am_G) : am_run ct 170 (n + 1) 12 [some (.inr (.inr (29, 0))), some (.inl x1), some (.inl x2), some (.inl x3), some (.inl x4), some (.inl x5), some (.inl x6), o7, o8, o9] [] g =
  if x3 < 0 then
    (some (some (.inl x2), g))
  else
    (am_bi (ct 150 [.inr (.inr (29, 0)), .inl x3] g) (fun r1 g1 =>
    am_bi (ct 141 [.inr (.inr (29, 0)), .inl ((48 : Int32) + x3)] g1) (fun r2 g2 =>
    am_bi (ct 141 [.inr (.inr (29, 0)), .inl ((72 : Int32) + x3)] g2) (fun r3 g3 =>
    am_bv (ct 142 [.inr (.inr (29, 0)), .inl ((0 : Int32) + x3), .inl x4] g3) (fun g4 =>
    am_bv (ct 142 [.inr (.inr (29, 0)), .inl ((48 : Int32) + x3), .inl x5] g4) (fun g5 =>
    am_bv (ct 142 [.inr (.inr (29, 0)), .inl ((72 : Int32) + x3), .inl x6] g5) (fun g6 =>
    if 0 ≤ r1 then
      (am_bv (ct 142 [.inr (.inr (29, 0)), .inl ((24 : Int32) + x3), .inl r1] g6) (fun g7 =>
      am_run ct 170 n 12 [some (.inr (.inr (29, 0))), some (.inl x1), some (.inl x2), some (.inl r1), some (.inl x3), some (.inl r2), some (.inl r3), some (.inl r1), some (.inl r2), some (.inl r3)] [] g7))
    else
      (am_bv (ct 142 [.inr (.inr (29, 0)), .inl ((24 : Int32) + x3), .inl (-2 : Int32)] g6) (fun g8 =>
      am_run ct 170 n 12 [some (.inr (.inr (29, 0))), some (.inl x1), some (.inl x2), some (.inl r1), some (.inl x3), some (.inl r2), some (.inl r3), some (.inl r1), some (.inl r2), some (.inl r3)] [] g8))))))))) := rfl
set_option maxRecDepth 50000 in
theorem eM_links_0 (ct : am_T) (n : Nat) (x1 : Int32) (x2 : Int32) (x3 : Int32) (x4 : Int32) (g : am_G) : am_run ct 171 (n + 1) 0 [some (.inr (.inr (29, 0))), some (.inl x1), some (.inl x2), some (.inl x3), some (.inl x4)] [] g =
  am_bi (ct 170 [.inr (.inr (29, 0)), .inl x1] g) (fun r1 g1 =>
  am_bi (ct 169 [.inr (.inr (29, 0)), .inl x2] g1) (fun r2 g2 =>
  am_bv (ct 142 [.inr (.inr (29, 0)), .inl ((0 : Int32) + x1), .inl x2] g2) (fun g3 =>
  am_bv (ct 142 [.inr (.inr (29, 0)), .inl ((48 : Int32) + x1), .inl x3] g3) (fun g4 =>
  am_bv (ct 142 [.inr (.inr (29, 0)), .inl ((72 : Int32) + x1), .inl x4] g4) (fun g5 =>
  some (none, g5)))))) := rfl
set_option maxRecDepth 50000 in
theorem eM_walks_0 (ct : am_T) (n : Nat) (x1 : Int32) (x2 : Int32) (g : am_G) : am_run ct 172 (n + 1) 0 [some (.inr (.inr (29, 0))), some (.inl x1), some (.inl x2), none] [] g =
  am_bi (ct 170 [.inr (.inr (29, 0)), .inl x1] g) (fun r1 g1 =>
  am_bi (ct 169 [.inr (.inr (29, 0)), .inl x2] g1) (fun r2 g2 =>
  some (some (.inl (r1 + r2)), g2))) := rfl
set_option maxRecDepth 50000 in
theorem eM_cuts_0 (ct : am_T) (n : Nat) (x1 : Int32) (x2 : Int32) (g : am_G) : am_run ct 173 (n + 1) 0 [some (.inr (.inr (29, 0))), some (.inl x1), some (.inl x2)] [] g =
  am_bi (ct 172 [.inr (.inr (29, 0)), .inl x1, .inl x2] g) (fun r1 g1 =>
  am_bv (ct 152 [.inr (.inr (29, 0)), .inl x2] g1) (fun g2 =>
  am_bv (ct 142 [.inr (.inr (29, 0)), .inl ((24 : Int32) + x1), .inl (-2 : Int32)] g2) (fun g3 =>
  some (none, g3)))) := rfl
set_option maxRecDepth 50000 in
theorem eM_dearestTo_0 (ct : am_T) (n : Nat) (x1 : Int32) (g : am_G) : am_run ct 174 (n + 1) 0 [some (.inr (.inr (29, 0))), some (.inl x1), none, none] [] g =
  am_run ct 174 n 4 [some (.inr (.inr (29, 0))), some (.inl x1), some (.inl (-1 : Int32)), some (.inl x1)] [] g := rfl
set_option maxRecDepth 50000 in
theorem eM_dearestTo_4 (ct : am_T) (n : Nat) (x1 : Int32) (x2 : Int32) (x3 : Int32) (g : am_G) : am_run ct 174 (n + 1) 4 [some (.inr (.inr (29, 0))), some (.inl x1), some (.inl x2), some (.inl x3)] [] g =
  am_bi (ct 150 [.inr (.inr (29, 0)), .inl x3] g) (fun r1 g1 =>
  if r1 < 0 then
    (some (some (.inl x2), g1))
  else
    (if x2 < 0 then
      (am_bi (ct 150 [.inr (.inr (29, 0)), .inl x3] g1) (fun r2 g2 =>
      am_run ct 174 n 4 [some (.inr (.inr (29, 0))), some (.inl x1), some (.inl x3), some (.inl r2)] [] g2))
    else
      (am_bi (ct 141 [.inr (.inr (29, 0)), .inl ((48 : Int32) + x3)] g1) (fun r3 g3 =>
      am_bi (ct 141 [.inr (.inr (29, 0)), .inl ((48 : Int32) + x2)] g3) (fun r4 g4 =>
      if r3 < r4 then
        (am_bi (ct 150 [.inr (.inr (29, 0)), .inl x3] g4) (fun r5 g5 =>
        am_run ct 174 n 4 [some (.inr (.inr (29, 0))), some (.inl x1), some (.inl x2), some (.inl r5)] [] g5))
      else
        (am_bi (ct 150 [.inr (.inr (29, 0)), .inl x3] g4) (fun r6 g6 =>
        am_run ct 174 n 4 [some (.inr (.inr (29, 0))), some (.inl x1), some (.inl x3), some (.inl r6)] [] g6))))))) := rfl
set_option maxRecDepth 50000 in
theorem eM_cutsDearest_0 (ct : am_T) (n : Nat) (x1 : Int32) (x2 : Int32) (g : am_G) : am_run ct 175 (n + 1) 0 [some (.inr (.inr (29, 0))), some (.inl x1), some (.inl x2), none, none] [] g =
  am_bi (ct 172 [.inr (.inr (29, 0)), .inl x1, .inl x2] g) (fun r1 g1 =>
  am_bi (ct 174 [.inr (.inr (29, 0)), .inl x2] g1) (fun r2 g2 =>
  am_bi (ct 141 [.inr (.inr (29, 0)), .inl ((48 : Int32) + r2)] g2) (fun r3 g3 =>
  am_bi (ct 150 [.inr (.inr (29, 0)), .inl r2] g3) (fun r4 g4 =>
  am_bv (ct 173 [.inr (.inr (29, 0)), .inl r4, .inl r2] g4) (fun g5 =>
  some (some (.inl r3), g5)))))) := rfl
set_option maxRecDepth 50000 in
theorem eM_touch_0 (ct : am_T) (n : Nat) (x1 : Int32) (g : am_G) : am_run ct 176 (n + 1) 0 [some (.inr (.inr (29, 0))), some (.inl x1)] [] g =
  am_bi (ct 148 [.inr (.inr (29, 0)), .inl x1] (am_put g 131 0 (0 : Int32))) (fun r1 g1 =>
  if r1 = 0 then
    (some (some (.inl (-1 : Int32)), g1))
  else
    (am_bv (ct 144 [.inr (.inr (29, 0))] g1) (fun g2 =>
    am_bi (ct 169 [.inr (.inr (29, 0)), .inl x1] g2) (fun r3 g3 =>
    some (some (.inl r3), g3))))) := rfl
set_option maxRecDepth 50000 in
theorem eM_reroot_0 (ct : am_T) (n : Nat) (x1 : Int32) (g : am_G) : am_run ct 177 (n + 1) 0 [some (.inr (.inr (29, 0))), some (.inl x1)] [] g =
  am_bi (ct 148 [.inr (.inr (29, 0)), .inl x1] (am_put g 131 0 (0 : Int32))) (fun r1 g1 =>
  if r1 = 0 then
    (some (some (.inl (-1 : Int32)), g1))
  else
    (am_bv (ct 144 [.inr (.inr (29, 0))] g1) (fun g2 =>
    am_bi (ct 170 [.inr (.inr (29, 0)), .inl x1] g2) (fun r3 g3 =>
    some (some (.inl r3), g3))))) := rfl
set_option maxRecDepth 50000 in
theorem eM_isLength_0 (ct : am_T) (n : Nat) (x0 : Int32) (g : am_G) : am_run ct 178 (n + 1) 0 [some (.inl x0)] [] g =
  am_bi (ct 134 [.inl x0, .inl (1 : Int32), .inl (9999 : Int32)] g) (fun r1 g1 =>
  bif am_01 r1 then some (some (.inl r1), g1) else none) := rfl
set_option maxRecDepth 50000 in
theorem eM_size_0 (ct : am_T) (n : Nat) (x1 : Int32) (g : am_G) : am_run ct 179 (n + 1) 0 [some (.inr (.inr (29, 0))), some (.inl x1), none, none] [] g =
  am_run ct 179 n 4 [some (.inr (.inr (29, 0))), some (.inl x1), some (.inl (0 : Int32)), some (.inl (0 : Int32))] [] g := rfl
set_option maxRecDepth 50000 in
theorem eM_size_4 (ct : am_T) (n : Nat) (x1 : Int32) (x2 : Int32) (x3 : Int32) (g : am_G) : am_run ct 179 (n + 1) 4 [some (.inr (.inr (29, 0))), some (.inl x1), some (.inl x2), some (.inl x3)] [] g =
  if (g 142 0 0) ≤ x3 then
    (some (some (.inl x2), g))
  else
    (am_bi (ct 180 [.inr (.inr (29, 0)), .inl x1, .inl x3] g) (fun r1 g1 =>
    if r1 = 0 then
      (am_run ct 179 n 4 [some (.inr (.inr (29, 0))), some (.inl x1), some (.inl (x2 + (0 : Int32))), some (.inl (x3 + 1))] [] g1)
    else
      (am_run ct 179 n 4 [some (.inr (.inr (29, 0))), some (.inl x1), some (.inl (x2 + (1 : Int32))), some (.inl (x3 + 1))] [] g1))) := rfl
set_option maxRecDepth 50000 in
theorem eM_isAbove_0 (ct : am_T) (n : Nat) (x1 : Int32) (x2 : Int32) (g : am_G) : am_run ct 180 (n + 1) 0 [some (.inr (.inr (29, 0))), some (.inl x1), some (.inl x2), none] [] g =
  am_run ct 180 n 2 [some (.inr (.inr (29, 0))), some (.inl x1), some (.inl x2), some (.inl x2)] [] g := rfl
set_option maxRecDepth 50000 in
theorem eM_isAbove_2 (ct : am_T) (n : Nat) (x1 : Int32) (x2 : Int32) (x3 : Int32) (g : am_G) : am_run ct 180 (n + 1) 2 [some (.inr (.inr (29, 0))), some (.inl x1), some (.inl x2), some (.inl x3)] [] g =
  if x3 = x1 then
    (if x3 = x1 then
      (some (some (.inl (1 : Int32)), g))
    else
      (some (some (.inl (0 : Int32)), g)))
  else
    (am_bi (ct 150 [.inr (.inr (29, 0)), .inl x3] g) (fun r1 g1 =>
    if r1 < 0 then
      (if x3 = x1 then
        (some (some (.inl (1 : Int32)), g1))
      else
        (some (some (.inl (0 : Int32)), g1)))
    else
      (am_bi (ct 150 [.inr (.inr (29, 0)), .inl x3] g1) (fun r2 g2 =>
      am_run ct 180 n 2 [some (.inr (.inr (29, 0))), some (.inl x1), some (.inl x2), some (.inl r2)] [] g2)))) := rfl
set_option maxRecDepth 50000 in
theorem eM_link_0 (ct : am_T) (n : Nat) (x1 : Int32) (x2 : Int32) (x3 : Int32) (x4 : Int32) (g : am_G) : am_run ct 181 (n + 1) 0 [some (.inr (.inr (29, 0))), some (.inl x1), some (.inl x2), some (.inl x3), some (.inl x4)] [] g =
  am_bi (ct 149 [.inr (.inr (29, 0)), .inl x1, .inl x2] (am_put g 131 0 (0 : Int32))) (fun r1 g1 =>
  if r1 = 0 then
    (some (some (.inl (-1 : Int32)), g1))
  else
    (am_bi (ct 178 [.inl x3] g1) (fun r2 g2 =>
    if r2 = 0 then
      (some (some (.inl (-1 : Int32)), g2))
    else
      (am_bi (ct 178 [.inl x4] g2) (fun r3 g3 =>
      if r3 = 0 then
        (some (some (.inl (-1 : Int32)), g3))
      else
        (am_bi (ct 167 [.inr (.inr (29, 0)), .inl x1, .inl x2] g3) (fun r4 g4 =>
        if r4 = 0 then
          (am_bv (ct 144 [.inr (.inr (29, 0))] g4) (fun g5 =>
          am_bv (ct 171 [.inr (.inr (29, 0)), .inl x1, .inl x2, .inl x3, .inl x4] g5) (fun g6 =>
          am_bi (ct 166 [.inr (.inr (29, 0)), .inl x1] g6) (fun r7 g7 =>
          am_bi (ct 179 [.inr (.inr (29, 0)), .inl r7] g7) (fun r8 g8 =>
          some (some (.inl r8), g8))))))
        else
          (some (some (.inl (-2 : Int32)), g4))))))))) := rfl
set_option maxRecDepth 50000 in
theorem eM_cut_0 (ct : am_T) (n : Nat) (x1 : Int32) (x2 : Int32) (g : am_G) : am_run ct 182 (n + 1) 0 [some (.inr (.inr (29, 0))), some (.inl x1), some (.inl x2), none] [] g =
  am_bi (ct 149 [.inr (.inr (29, 0)), .inl x1, .inl x2] (am_put g 131 0 (0 : Int32))) (fun r1 g1 =>
  if r1 = 0 then
    (some (some (.inl (-1 : Int32)), g1))
  else
    (am_bi (ct 150 [.inr (.inr (29, 0)), .inl x1] g1) (fun r2 g2 =>
    if r2 = x2 then
      (am_bv (ct 144 [.inr (.inr (29, 0))] g2) (fun g3 =>
      am_bi (ct 150 [.inr (.inr (29, 0)), .inl x1] g3) (fun r4 g4 =>
      if r4 = x2 then
        (am_bi (ct 141 [.inr (.inr (29, 0)), .inl ((48 : Int32) + x1)] g4) (fun r7 g7 =>
        am_bv (ct 173 [.inr (.inr (29, 0)), .inl x1, .inl x2] g7) (fun g8 =>
        some (some (.inl r7), g8))))
      else
        (am_bi (ct 141 [.inr (.inr (29, 0)), .inl ((48 : Int32) + x2)] g4) (fun r5 g5 =>
        am_bv (ct 173 [.inr (.inr (29, 0)), .inl x1, .inl x2] g5) (fun g6 =>
        some (some (.inl r5), g6)))))))
    else
      (am_bi (ct 150 [.inr (.inr (29, 0)), .inl x2] g2) (fun r9 g9 =>
      if r9 = x1 then
        (am_bv (ct 144 [.inr (.inr (29, 0))] g9) (fun g10 =>
        am_bi (ct 150 [.inr (.inr (29, 0)), .inl x1] g10) (fun r11 g11 =>
        if r11 = x2 then
          (am_bi (ct 141 [.inr (.inr (29, 0)), .inl ((48 : Int32) + x1)] g11) (fun r14 g14 =>
          am_bv (ct 173 [.inr (.inr (29, 0)), .inl x1, .inl x2] g14) (fun g15 =>
          some (some (.inl r14), g15))))
        else
          (am_bi (ct 141 [.inr (.inr (29, 0)), .inl ((48 : Int32) + x2)] g11) (fun r12 g12 =>
          am_bv (ct 173 [.inr (.inr (29, 0)), .inl x1, .inl x2] g12) (fun g13 =>
          some (some (.inl r12), g13)))))))
      else
        (some (some (.inl (-2 : Int32)), g9))))))) := rfl
set_option maxRecDepth 50000 in
theorem eM_walk_0 (ct : am_T) (n : Nat) (x1 : Int32) (x2 : Int32) (g : am_G) : am_run ct 183 (n + 1) 0 [some (.inr (.inr (29, 0))), some (.inl x1), some (.inl x2), none, none] [] g =
  am_bi (ct 149 [.inr (.inr (29, 0)), .inl x1, .inl x2] (am_put g 131 0 (0 : Int32))) (fun r1 g1 =>
  if r1 = 0 then
    (some (some (.inl (-1 : Int32)), g1))
  else
    (am_bi (ct 167 [.inr (.inr (29, 0)), .inl x1, .inl x2] g1) (fun r2 g2 =>
    if r2 = 0 then
      (some (some (.inl (-2 : Int32)), g2))
    else
      (am_bv (ct 144 [.inr (.inr (29, 0))] g2) (fun g3 =>
      am_run ct 183 n 21 [some (.inr (.inr (29, 0))), some (.inl x1), some (.inl x2), some (.inl (0 : Int32)), none] [] g3))))) := rfl
set_option maxRecDepth 50000 in
theorem eM_walk_21 (ct : am_T) (n : Nat) (x1 : Int32) (x2 : Int32) (x3 : Int32) (g : am_G) : am_run ct 183 (n + 1) 21 [some (.inr (.inr (29, 0))), some (.inl x1), some (.inl x2), some (.inl x3), none] [] g =
  if (9 : Int32) ≤ x3 then
    (am_bi (ct 172 [.inr (.inr (29, 0)), .inl x1, .inl x2] g) (fun r1 g1 =>
    bif am_in (7 : Int32) 9 then
      (am_bi (ct 174 [.inr (.inr (29, 0)), .inl x2] (am_sto g1 35 0 (7 : Int32).toNatClampNeg r1)) (fun r2 g2 =>
    if r2 < 0 then
      (am_run ct 183 n 78 [some (.inr (.inr (29, 0))), some (.inl x1), some (.inl x2), some (.inl r2), some (.inl x2)] [] g2)
    else
      (am_bi (ct 141 [.inr (.inr (29, 0)), .inl ((48 : Int32) + r2)] g2) (fun r3 g3 =>
      bif am_in (1 : Int32) 9 then
        (am_bi (ct 150 [.inr (.inr (29, 0)), .inl r2] (am_sto g3 35 0 (1 : Int32).toNatClampNeg r3)) (fun r4 g4 =>
      bif am_in (2 : Int32) 9 then
        (bif am_in (3 : Int32) 9 then
        (am_run ct 183 n 78 [some (.inr (.inr (29, 0))), some (.inl x1), some (.inl x2), some (.inl r2), some (.inl x2)] [] (am_sto (am_sto g4 35 0 (2 : Int32).toNatClampNeg r4) 35 0 (3 : Int32).toNatClampNeg r2))
      else none)
      else none))
      else none))))
    else none))
  else
    (am_bi (ct 134 [.inl x3, .inl (1 : Int32), .inl (4 : Int32)] g) (fun r5 g5 =>
    if r5 = 0 then
      (if x3 = (8 : Int32) then
        (bif am_in x3 9 then
          (am_run ct 183 n 21 [some (.inr (.inr (29, 0))), some (.inl x1), some (.inl x2), some (.inl (x3 + 1)), none] [] (am_sto g5 35 0 x3.toNatClampNeg (-2 : Int32)))
        else none)
      else
        (bif am_in x3 9 then
          (am_run ct 183 n 21 [some (.inr (.inr (29, 0))), some (.inl x1), some (.inl x2), some (.inl (x3 + 1)), none] [] (am_sto g5 35 0 x3.toNatClampNeg (0 : Int32)))
        else none))
    else
      (bif am_in x3 9 then
        (am_run ct 183 n 21 [some (.inr (.inr (29, 0))), some (.inl x1), some (.inl x2), some (.inl (x3 + 1)), none] [] (am_sto g5 35 0 x3.toNatClampNeg (-2 : Int32)))
      else none))) := rfl
set_option maxRecDepth 50000 in
theorem eM_walk_78 (ct : am_T) (n : Nat) (x1 : Int32) (x2 : Int32) (x3 : Int32) (x4 : Int32) (g : am_G) : am_run ct 183 (n + 1) 78 [some (.inr (.inr (29, 0))), some (.inl x1), some (.inl x2), some (.inl x3), some (.inl x4)] [] g =
  if x4 < 0 then
    (bif am_in (0 : Int32) 9 then
      (some (some (.inl ((am_put g 148 0 (1 : Int32)) 35 0 (0 : Int32).toNatClampNeg)), am_put g 148 0 (1 : Int32)))
    else none)
  else
    (bif am_in (5 : Int32) 9 then
      (am_bi (ct 141 [.inr (.inr (29, 0)), .inl ((96 : Int32) + x4)] g) (fun r1 g1 =>
    bif am_in (5 : Int32) 9 then
      (bif am_in (6 : Int32) 9 then
      (bif am_in (6 : Int32) 9 then
      (am_bi (ct 150 [.inr (.inr (29, 0)), .inl x4] (am_sto (am_sto g1 35 0 (5 : Int32).toNatClampNeg ((g 35 0 (5 : Int32).toNatClampNeg) + r1)) 35 0 (6 : Int32).toNatClampNeg (((am_sto g1 35 0 (5 : Int32).toNatClampNeg ((g 35 0 (5 : Int32).toNatClampNeg) + r1)) 35 0 (6 : Int32).toNatClampNeg) + (1 : Int32)))) (fun r2 g2 =>
    if 0 ≤ r2 then
      (bif am_in (0 : Int32) 9 then
        (am_bi (ct 141 [.inr (.inr (29, 0)), .inl ((48 : Int32) + x4)] g2) (fun r3 g3 =>
      bif am_in (0 : Int32) 9 then
        (bif am_in (4 : Int32) 9 then
        (if ((am_sto g3 35 0 (0 : Int32).toNatClampNeg ((g2 35 0 (0 : Int32).toNatClampNeg) + r3)) 35 0 (4 : Int32).toNatClampNeg) < 0 then
        (am_bi (ct 141 [.inr (.inr (29, 0)), .inl ((72 : Int32) + x4)] (am_sto g3 35 0 (0 : Int32).toNatClampNeg ((g2 35 0 (0 : Int32).toNatClampNeg) + r3))) (fun r4 g4 =>
        bif am_in (4 : Int32) 9 then
          (bif am_in (8 : Int32) 9 then
          (if ((am_sto g4 35 0 (4 : Int32).toNatClampNeg r4) 35 0 (8 : Int32).toNatClampNeg) < 0 then
          (am_bi (ct 141 [.inr (.inr (29, 0)), .inl ((48 : Int32) + x4)] (am_sto g4 35 0 (4 : Int32).toNatClampNeg r4)) (fun r5 g5 =>
          bif am_in (8 : Int32) 9 then
            (am_bi (ct 150 [.inr (.inr (29, 0)), .inl x4] (am_sto g5 35 0 (8 : Int32).toNatClampNeg r5)) (fun r6 g6 =>
          am_run ct 183 n 78 [some (.inr (.inr (29, 0))), some (.inl x1), some (.inl x2), some (.inl x3), some (.inl r6)] [] g6))
          else none))
        else
          (am_bi (ct 141 [.inr (.inr (29, 0)), .inl ((48 : Int32) + x4)] (am_sto g4 35 0 (4 : Int32).toNatClampNeg r4)) (fun r7 g7 =>
          bif am_in (8 : Int32) 9 then
            (if (g7 35 0 (8 : Int32).toNatClampNeg) ≤ r7 then
            (bif am_in (8 : Int32) 9 then
              (bif am_in (8 : Int32) 9 then
              (am_bi (ct 150 [.inr (.inr (29, 0)), .inl x4] (am_sto g7 35 0 (8 : Int32).toNatClampNeg (g7 35 0 (8 : Int32).toNatClampNeg))) (fun r8 g8 =>
            am_run ct 183 n 78 [some (.inr (.inr (29, 0))), some (.inl x1), some (.inl x2), some (.inl x3), some (.inl r8)] [] g8))
            else none)
            else none)
          else
            (am_bi (ct 141 [.inr (.inr (29, 0)), .inl ((48 : Int32) + x4)] g7) (fun r9 g9 =>
            bif am_in (8 : Int32) 9 then
              (am_bi (ct 150 [.inr (.inr (29, 0)), .inl x4] (am_sto g9 35 0 (8 : Int32).toNatClampNeg r9)) (fun r10 g10 =>
            am_run ct 183 n 78 [some (.inr (.inr (29, 0))), some (.inl x1), some (.inl x2), some (.inl x3), some (.inl r10)] [] g10))
            else none)))
          else none)))
        else none)
        else none))
      else
        (am_bi (ct 141 [.inr (.inr (29, 0)), .inl ((72 : Int32) + x4)] (am_sto g3 35 0 (0 : Int32).toNatClampNeg ((g2 35 0 (0 : Int32).toNatClampNeg) + r3))) (fun r11 g11 =>
        bif am_in (4 : Int32) 9 then
          (if (g11 35 0 (4 : Int32).toNatClampNeg) ≤ r11 then
          (bif am_in (4 : Int32) 9 then
            (bif am_in (4 : Int32) 9 then
            (bif am_in (8 : Int32) 9 then
            (if ((am_sto g11 35 0 (4 : Int32).toNatClampNeg (g11 35 0 (4 : Int32).toNatClampNeg)) 35 0 (8 : Int32).toNatClampNeg) < 0 then
            (am_bi (ct 141 [.inr (.inr (29, 0)), .inl ((48 : Int32) + x4)] (am_sto g11 35 0 (4 : Int32).toNatClampNeg (g11 35 0 (4 : Int32).toNatClampNeg))) (fun r12 g12 =>
            bif am_in (8 : Int32) 9 then
              (am_bi (ct 150 [.inr (.inr (29, 0)), .inl x4] (am_sto g12 35 0 (8 : Int32).toNatClampNeg r12)) (fun r13 g13 =>
            am_run ct 183 n 78 [some (.inr (.inr (29, 0))), some (.inl x1), some (.inl x2), some (.inl x3), some (.inl r13)] [] g13))
            else none))
          else
            (am_bi (ct 141 [.inr (.inr (29, 0)), .inl ((48 : Int32) + x4)] (am_sto g11 35 0 (4 : Int32).toNatClampNeg (g11 35 0 (4 : Int32).toNatClampNeg))) (fun r14 g14 =>
            bif am_in (8 : Int32) 9 then
              (if (g14 35 0 (8 : Int32).toNatClampNeg) ≤ r14 then
              (bif am_in (8 : Int32) 9 then
                (bif am_in (8 : Int32) 9 then
                (am_bi (ct 150 [.inr (.inr (29, 0)), .inl x4] (am_sto g14 35 0 (8 : Int32).toNatClampNeg (g14 35 0 (8 : Int32).toNatClampNeg))) (fun r15 g15 =>
              am_run ct 183 n 78 [some (.inr (.inr (29, 0))), some (.inl x1), some (.inl x2), some (.inl x3), some (.inl r15)] [] g15))
              else none)
              else none)
            else
              (am_bi (ct 141 [.inr (.inr (29, 0)), .inl ((48 : Int32) + x4)] g14) (fun r16 g16 =>
              bif am_in (8 : Int32) 9 then
                (am_bi (ct 150 [.inr (.inr (29, 0)), .inl x4] (am_sto g16 35 0 (8 : Int32).toNatClampNeg r16)) (fun r17 g17 =>
              am_run ct 183 n 78 [some (.inr (.inr (29, 0))), some (.inl x1), some (.inl x2), some (.inl x3), some (.inl r17)] [] g17))
              else none)))
            else none)))
          else none)
          else none)
          else none)
        else
          (am_bi (ct 141 [.inr (.inr (29, 0)), .inl ((72 : Int32) + x4)] g11) (fun r18 g18 =>
          bif am_in (4 : Int32) 9 then
            (bif am_in (8 : Int32) 9 then
            (if ((am_sto g18 35 0 (4 : Int32).toNatClampNeg r18) 35 0 (8 : Int32).toNatClampNeg) < 0 then
            (am_bi (ct 141 [.inr (.inr (29, 0)), .inl ((48 : Int32) + x4)] (am_sto g18 35 0 (4 : Int32).toNatClampNeg r18)) (fun r19 g19 =>
            bif am_in (8 : Int32) 9 then
              (am_bi (ct 150 [.inr (.inr (29, 0)), .inl x4] (am_sto g19 35 0 (8 : Int32).toNatClampNeg r19)) (fun r20 g20 =>
            am_run ct 183 n 78 [some (.inr (.inr (29, 0))), some (.inl x1), some (.inl x2), some (.inl x3), some (.inl r20)] [] g20))
            else none))
          else
            (am_bi (ct 141 [.inr (.inr (29, 0)), .inl ((48 : Int32) + x4)] (am_sto g18 35 0 (4 : Int32).toNatClampNeg r18)) (fun r21 g21 =>
            bif am_in (8 : Int32) 9 then
              (if (g21 35 0 (8 : Int32).toNatClampNeg) ≤ r21 then
              (bif am_in (8 : Int32) 9 then
                (bif am_in (8 : Int32) 9 then
                (am_bi (ct 150 [.inr (.inr (29, 0)), .inl x4] (am_sto g21 35 0 (8 : Int32).toNatClampNeg (g21 35 0 (8 : Int32).toNatClampNeg))) (fun r22 g22 =>
              am_run ct 183 n 78 [some (.inr (.inr (29, 0))), some (.inl x1), some (.inl x2), some (.inl x3), some (.inl r22)] [] g22))
              else none)
              else none)
            else
              (am_bi (ct 141 [.inr (.inr (29, 0)), .inl ((48 : Int32) + x4)] g21) (fun r23 g23 =>
              bif am_in (8 : Int32) 9 then
                (am_bi (ct 150 [.inr (.inr (29, 0)), .inl x4] (am_sto g23 35 0 (8 : Int32).toNatClampNeg r23)) (fun r24 g24 =>
              am_run ct 183 n 78 [some (.inr (.inr (29, 0))), some (.inl x1), some (.inl x2), some (.inl x3), some (.inl r24)] [] g24))
              else none)))
            else none)))
          else none)
          else none)))
        else none)))
      else none)
      else none))
      else none)
    else
      (am_bi (ct 150 [.inr (.inr (29, 0)), .inl x4] g2) (fun r25 g25 =>
      am_run ct 183 n 78 [some (.inr (.inr (29, 0))), some (.inl x1), some (.inl x2), some (.inl x3), some (.inl r25)] [] g25))))
    else none)
    else none)
    else none))
    else none) := rfl
set_option maxRecDepth 50000 in
theorem eM_seen_0 (ct : am_T) (n : Nat) (x1 : Int32) (g : am_G) : am_run ct 184 (n + 1) 0 [some (.inr (.inr (29, 0))), some (.inl x1)] [] g =
  am_bi (ct 134 [.inl x1, .inl (0 : Int32), .inl (8 : Int32)] (am_put g 131 0 (0 : Int32))) (fun r1 g1 =>
  if r1 = 0 then
    (some (some (.inl (-1 : Int32)), g1))
  else
    (if (g1 148 0 0) = 0 then
      (some (some (.inl (-3 : Int32)), g1))
    else
      (bif am_in x1 9 then
        (some (some (.inl (g1 35 0 x1.toNatClampNeg)), g1))
      else none))) := rfl
set_option maxRecDepth 50000 in
theorem eM_depth_0 (ct : am_T) (n : Nat) (x1 : Int32) (g : am_G) : am_run ct 185 (n + 1) 0 [some (.inr (.inr (29, 0))), some (.inl x1), none, none] [] g =
  am_run ct 185 n 4 [some (.inr (.inr (29, 0))), some (.inl x1), some (.inl (0 : Int32)), some (.inl x1)] [] g := rfl
set_option maxRecDepth 50000 in
theorem eM_depth_4 (ct : am_T) (n : Nat) (x1 : Int32) (x2 : Int32) (x3 : Int32) (g : am_G) : am_run ct 185 (n + 1) 4 [some (.inr (.inr (29, 0))), some (.inl x1), some (.inl x2), some (.inl x3)] [] g =
  am_bi (ct 150 [.inr (.inr (29, 0)), .inl x3] g) (fun r1 g1 =>
  if r1 < 0 then
    (some (some (.inl x2), g1))
  else
    (am_bi (ct 150 [.inr (.inr (29, 0)), .inl x3] g1) (fun r2 g2 =>
    am_run ct 185 n 4 [some (.inr (.inr (29, 0))), some (.inl x1), some (.inl (x2 + 1)), some (.inl r2)] [] g2))) := rfl
set_option maxRecDepth 50000 in
theorem eM_meetOf_0 (ct : am_T) (n : Nat) (x1 : Int32) (x2 : Int32) (g : am_G) : am_run ct 186 (n + 1) 0 [some (.inr (.inr (29, 0))), some (.inl x1), some (.inl x2), none] [] g =
  am_run ct 186 n 2 [some (.inr (.inr (29, 0))), some (.inl x1), some (.inl x2), some (.inl x1)] [] g := rfl
set_option maxRecDepth 50000 in
theorem eM_meetOf_2 (ct : am_T) (n : Nat) (x1 : Int32) (x2 : Int32) (x3 : Int32) (g : am_G) : am_run ct 186 (n + 1) 2 [some (.inr (.inr (29, 0))), some (.inl x1), some (.inl x2), some (.inl x3)] [] g =
  am_bi (ct 180 [.inr (.inr (29, 0)), .inl x3, .inl x2] g) (fun r1 g1 =>
  if r1 = 0 then
    (am_bi (ct 150 [.inr (.inr (29, 0)), .inl x3] g1) (fun r2 g2 =>
    am_run ct 186 n 2 [some (.inr (.inr (29, 0))), some (.inl x1), some (.inl x2), some (.inl r2)] [] g2))
  else
    (some (some (.inl x3), g1))) := rfl
set_option maxRecDepth 50000 in
theorem eM_meet_0 (ct : am_T) (n : Nat) (x1 : Int32) (x2 : Int32) (g : am_G) : am_run ct 187 (n + 1) 0 [some (.inr (.inr (29, 0))), some (.inl x1), some (.inl x2)] [] g =
  am_bi (ct 149 [.inr (.inr (29, 0)), .inl x1, .inl x2] (am_put g 131 0 (0 : Int32))) (fun r1 g1 =>
  if r1 = 0 then
    (some (some (.inl (-1 : Int32)), g1))
  else
    (am_bi (ct 167 [.inr (.inr (29, 0)), .inl x1, .inl x2] g1) (fun r2 g2 =>
    if r2 = 0 then
      (some (some (.inl (-2 : Int32)), g2))
    else
      (am_bv (ct 144 [.inr (.inr (29, 0))] g2) (fun g3 =>
      am_bi (ct 169 [.inr (.inr (29, 0)), .inl x1] g3) (fun r4 g4 =>
      am_bi (ct 169 [.inr (.inr (29, 0)), .inl x2] g4) (fun r5 g5 =>
      am_bi (ct 186 [.inr (.inr (29, 0)), .inl x1, .inl x2] g5) (fun r6 g6 =>
      some (some (.inl r6), g6))))))))) := rfl
set_option maxRecDepth 50000 in
theorem eM_raise_0 (ct : am_T) (n : Nat) (x1 : Int32) (x2 : Int32) (x3 : Int32) (g : am_G) : am_run ct 188 (n + 1) 0 [some (.inr (.inr (29, 0))), some (.inl x1), some (.inl x2), some (.inl x3), none, none, none] [] g =
  am_bi (ct 149 [.inr (.inr (29, 0)), .inl x1, .inl x2] (am_put g 131 0 (0 : Int32))) (fun r1 g1 =>
  if r1 = 0 then
    (some (some (.inl (-1 : Int32)), g1))
  else
    (am_bi (ct 134 [.inl x3, .inl (-9999 : Int32), .inl (9999 : Int32)] g1) (fun r2 g2 =>
    if r2 = 0 then
      (some (some (.inl (-1 : Int32)), g2))
    else
      (am_bi (ct 167 [.inr (.inr (29, 0)), .inl x1, .inl x2] g2) (fun r3 g3 =>
      if r3 = 0 then
        (some (some (.inl (-2 : Int32)), g3))
      else
        (am_bv (ct 143 [.inr (.inr (29, 0)), .inl (0 : Int32), .inl (1 : Int32)] g3) (fun g4 =>
        am_bi (ct 172 [.inr (.inr (29, 0)), .inl x1, .inl x2] (am_put g4 139 0 (1 : Int32))) (fun r5 g5 =>
        am_run ct 188 n 40 [some (.inr (.inr (29, 0))), some (.inl x1), some (.inl x2), some (.inl x3), some (.inl (0 : Int32)), some (.inl (1 : Int32)), some (.inl x2)] [] g5)))))))) := rfl
set_option maxRecDepth 50000 in
theorem eM_raise_40 (ct : am_T) (n : Nat) (x1 : Int32) (x2 : Int32) (x3 : Int32) (x4 : Int32) (x5 : Int32) (x6 : Int32) (g : am_G) : am_run ct 188 (n + 1) 40 [some (.inr (.inr (29, 0))), some (.inl x1), some (.inl x2), some (.inl x3), some (.inl x4), some (.inl x5), some (.inl x6)] [] g =
  am_bi (ct 150 [.inr (.inr (29, 0)), .inl x6] g) (fun r1 g1 =>
  if r1 < 0 then
    (if x5 = 0 then
      (some (some (.inl (-3 : Int32)), am_put g1 139 0 (0 : Int32)))
    else
      (am_bv (ct 144 [.inr (.inr (29, 0))] (am_put g1 139 0 (0 : Int32))) (fun g2 =>
      am_bv (ct 143 [.inr (.inr (29, 0)), .inl (1 : Int32), .inl (0 : Int32)] g2) (fun g3 =>
      some (some (.inl x4), g3)))))
  else
    (if x5 = 0 then
      (am_bi (ct 141 [.inr (.inr (29, 0)), .inl ((48 : Int32) + x6)] g1) (fun r4 g4 =>
      am_bv (ct 142 [.inr (.inr (29, 0)), .inl ((48 : Int32) + x6), .inl (r4 + x3)] g4) (fun g5 =>
      am_bi (ct 150 [.inr (.inr (29, 0)), .inl x6] g5) (fun r6 g6 =>
      am_run ct 188 n 40 [some (.inr (.inr (29, 0))), some (.inl x1), some (.inl x2), some (.inl x3), some (.inl (x4 + 1)), some (.inl (0 : Int32)), some (.inl r6)] [] g6))))
    else
      (am_bi (ct 141 [.inr (.inr (29, 0)), .inl ((48 : Int32) + x6)] g1) (fun r7 g7 =>
      am_bi (ct 178 [.inl (r7 + x3)] g7) (fun r8 g8 =>
      if r8 = 0 then
        (am_bi (ct 141 [.inr (.inr (29, 0)), .inl ((48 : Int32) + x6)] g8) (fun r9 g9 =>
        am_bv (ct 142 [.inr (.inr (29, 0)), .inl ((48 : Int32) + x6), .inl (r9 + x3)] g9) (fun g10 =>
        am_bi (ct 150 [.inr (.inr (29, 0)), .inl x6] g10) (fun r11 g11 =>
        am_run ct 188 n 40 [some (.inr (.inr (29, 0))), some (.inl x1), some (.inl x2), some (.inl x3), some (.inl (x4 + 1)), some (.inl (0 : Int32)), some (.inl r11)] [] g11))))
      else
        (am_bi (ct 141 [.inr (.inr (29, 0)), .inl ((48 : Int32) + x6)] g8) (fun r12 g12 =>
        am_bv (ct 142 [.inr (.inr (29, 0)), .inl ((48 : Int32) + x6), .inl (r12 + x3)] g12) (fun g13 =>
        am_bi (ct 150 [.inr (.inr (29, 0)), .inl x6] g13) (fun r14 g14 =>
        am_run ct 188 n 40 [some (.inr (.inr (29, 0))), some (.inl x1), some (.inl x2), some (.inl x3), some (.inl (x4 + 1)), some (.inl (1 : Int32)), some (.inl r14)] [] g14))))))))) := rfl
set_option maxRecDepth 50000 in
theorem eM_send_0 (ct : am_T) (n : Nat) (x1 : Int32) (x2 : Int32) (x3 : Int32) (g : am_G) : am_run ct 189 (n + 1) 0 [some (.inr (.inr (29, 0))), some (.inl x1), some (.inl x2), some (.inl x3), none, none, none] [] g =
  am_bi (ct 149 [.inr (.inr (29, 0)), .inl x1, .inl x2] (am_put g 131 0 (0 : Int32))) (fun r1 g1 =>
  if r1 = 0 then
    (some (some (.inl (-1 : Int32)), g1))
  else
    (am_bi (ct 134 [.inl x3, .inl (-9999 : Int32), .inl (9999 : Int32)] g1) (fun r2 g2 =>
    if r2 = 0 then
      (some (some (.inl (-1 : Int32)), g2))
    else
      (am_bi (ct 167 [.inr (.inr (29, 0)), .inl x1, .inl x2] g2) (fun r3 g3 =>
      if r3 = 0 then
        (some (some (.inl (-2 : Int32)), g3))
      else
        (am_bv (ct 143 [.inr (.inr (29, 0)), .inl (0 : Int32), .inl (1 : Int32)] g3) (fun g4 =>
        am_bi (ct 172 [.inr (.inr (29, 0)), .inl x1, .inl x2] (am_put g4 139 0 (1 : Int32))) (fun r5 g5 =>
        am_run ct 189 n 40 [some (.inr (.inr (29, 0))), some (.inl x1), some (.inl x2), some (.inl x3), some (.inl (0 : Int32)), some (.inl (1 : Int32)), some (.inl x2)] [] g5)))))))) := rfl
set_option maxRecDepth 50000 in
theorem eM_send_40 (ct : am_T) (n : Nat) (x1 : Int32) (x2 : Int32) (x3 : Int32) (x4 : Int32) (x5 : Int32) (x6 : Int32) (g : am_G) : am_run ct 189 (n + 1) 40 [some (.inr (.inr (29, 0))), some (.inl x1), some (.inl x2), some (.inl x3), some (.inl x4), some (.inl x5), some (.inl x6)] [] g =
  am_bi (ct 150 [.inr (.inr (29, 0)), .inl x6] g) (fun r1 g1 =>
  if r1 < 0 then
    (if x5 = 0 then
      (some (some (.inl (-3 : Int32)), am_put g1 139 0 (0 : Int32)))
    else
      (am_bv (ct 144 [.inr (.inr (29, 0))] (am_put g1 139 0 (0 : Int32))) (fun g2 =>
      am_bv (ct 143 [.inr (.inr (29, 0)), .inl (1 : Int32), .inl (0 : Int32)] g2) (fun g3 =>
      some (some (.inl x4), g3)))))
  else
    (if x5 = 0 then
      (am_bi (ct 141 [.inr (.inr (29, 0)), .inl ((72 : Int32) + x6)] g1) (fun r4 g4 =>
      am_bv (ct 142 [.inr (.inr (29, 0)), .inl ((72 : Int32) + x6), .inl (r4 - x3)] g4) (fun g5 =>
      am_bi (ct 150 [.inr (.inr (29, 0)), .inl x6] g5) (fun r6 g6 =>
      am_run ct 189 n 40 [some (.inr (.inr (29, 0))), some (.inl x1), some (.inl x2), some (.inl x3), some (.inl (x4 + 1)), some (.inl (0 : Int32)), some (.inl r6)] [] g6))))
    else
      (am_bi (ct 141 [.inr (.inr (29, 0)), .inl ((72 : Int32) + x6)] g1) (fun r7 g7 =>
      am_bi (ct 134 [.inl (r7 - x3), .inl (0 : Int32), .inl (9999 : Int32)] g7) (fun r8 g8 =>
      if r8 = 0 then
        (am_bi (ct 141 [.inr (.inr (29, 0)), .inl ((72 : Int32) + x6)] g8) (fun r9 g9 =>
        am_bv (ct 142 [.inr (.inr (29, 0)), .inl ((72 : Int32) + x6), .inl (r9 - x3)] g9) (fun g10 =>
        am_bi (ct 150 [.inr (.inr (29, 0)), .inl x6] g10) (fun r11 g11 =>
        am_run ct 189 n 40 [some (.inr (.inr (29, 0))), some (.inl x1), some (.inl x2), some (.inl x3), some (.inl (x4 + 1)), some (.inl (0 : Int32)), some (.inl r11)] [] g11))))
      else
        (am_bi (ct 141 [.inr (.inr (29, 0)), .inl ((72 : Int32) + x6)] g8) (fun r12 g12 =>
        am_bv (ct 142 [.inr (.inr (29, 0)), .inl ((72 : Int32) + x6), .inl (r12 - x3)] g12) (fun g13 =>
        am_bi (ct 150 [.inr (.inr (29, 0)), .inl x6] g13) (fun r14 g14 =>
        am_run ct 189 n 40 [some (.inr (.inr (29, 0))), some (.inl x1), some (.inl x2), some (.inl x3), some (.inl (x4 + 1)), some (.inl (1 : Int32)), some (.inl r14)] [] g14))))))))) := rfl
set_option maxRecDepth 50000 in
theorem eM_settles_0 (ct : am_T) (n : Nat) (x1 : Int32) (g : am_G) : am_run ct 190 (n + 1) 0 [some (.inr (.inr (29, 0))), some (.inl x1), none, none] [] g =
  am_run ct 190 n 4 [some (.inr (.inr (29, 0))), some (.inl x1), some (.inl (0 : Int32)), some (.inl (0 : Int32))] [] g := rfl
set_option maxRecDepth 50000 in
theorem eM_settles_4 (ct : am_T) (n : Nat) (x1 : Int32) (x2 : Int32) (x3 : Int32) (g : am_G) : am_run ct 190 (n + 1) 4 [some (.inr (.inr (29, 0))), some (.inl x1), some (.inl x2), some (.inl x3)] [] g =
  if (g 142 0 0) ≤ x3 then
    (some (some (.inl x2), g))
  else
    (am_bi (ct 167 [.inr (.inr (29, 0)), .inl x3, .inl x1] g) (fun r1 g1 =>
    if r1 = 0 then
      (am_run ct 190 n 4 [some (.inr (.inr (29, 0))), some (.inl x1), some (.inl x2), some (.inl (x3 + 1))] [] g1)
    else
      (am_bi (ct 151 [.inr (.inr (29, 0)), .inl x3] g1) (fun r2 g2 =>
      am_bi (ct 218 [.inr (.inr (29, 0)), .inl x3] g2) (fun r3 g3 =>
      if r2 = r3 then
        (am_run ct 190 n 4 [some (.inr (.inr (29, 0))), some (.inl x1), some (.inl x2), some (.inl (x3 + 1))] [] g3)
      else
        (am_bi (ct 218 [.inr (.inr (29, 0)), .inl x3] g3) (fun r4 g4 =>
        am_bv (ct 142 [.inr (.inr (29, 0)), .inl ((24 : Int32) + x3), .inl r4] g4) (fun g5 =>
        am_run ct 190 n 4 [some (.inr (.inr (29, 0))), some (.inl x1), some (.inl (x2 + 1)), some (.inl (x3 + 1))] [] g5)))))))) := rfl
set_option maxRecDepth 50000 in
theorem eM_settle_0 (ct : am_T) (n : Nat) (x1 : Int32) (g : am_G) : am_run ct 191 (n + 1) 0 [some (.inr (.inr (29, 0))), some (.inl x1)] [] g =
  am_bi (ct 148 [.inr (.inr (29, 0)), .inl x1] (am_put g 131 0 (0 : Int32))) (fun r1 g1 =>
  if r1 = 0 then
    (some (some (.inl (-1 : Int32)), g1))
  else
    (am_bv (ct 144 [.inr (.inr (29, 0))] g1) (fun g2 =>
    am_bi (ct 190 [.inr (.inr (29, 0)), .inl x1] g2) (fun r3 g3 =>
    some (some (.inl r3), g3))))) := rfl
set_option maxRecDepth 50000 in
theorem eM_cutDearest_0 (ct : am_T) (n : Nat) (x1 : Int32) (x2 : Int32) (g : am_G) : am_run ct 192 (n + 1) 0 [some (.inr (.inr (29, 0))), some (.inl x1), some (.inl x2)] [] g =
  am_bi (ct 149 [.inr (.inr (29, 0)), .inl x1, .inl x2] (am_put g 131 0 (0 : Int32))) (fun r1 g1 =>
  if r1 = 0 then
    (some (some (.inl (-1 : Int32)), g1))
  else
    (if x1 = x2 then
      (some (some (.inl (-2 : Int32)), g1))
    else
      (am_bi (ct 167 [.inr (.inr (29, 0)), .inl x1, .inl x2] g1) (fun r2 g2 =>
      if r2 = 0 then
        (some (some (.inl (-2 : Int32)), g2))
      else
        (am_bv (ct 144 [.inr (.inr (29, 0))] g2) (fun g3 =>
        am_bi (ct 175 [.inr (.inr (29, 0)), .inl x1, .inl x2] g3) (fun r4 g4 =>
        some (some (.inl r4), g4)))))))) := rfl
set_option maxRecDepth 50000 in
theorem eM_exchange_0 (ct : am_T) (n : Nat) (x1 : Int32) (x2 : Int32) (x3 : Int32) (x4 : Int32) (g : am_G) : am_run ct 193 (n + 1) 0 [some (.inr (.inr (29, 0))), some (.inl x1), some (.inl x2), some (.inl x3), some (.inl x4), none] [] g =
  am_bi (ct 149 [.inr (.inr (29, 0)), .inl x1, .inl x2] (am_put g 131 0 (0 : Int32))) (fun r1 g1 =>
  if r1 = 0 then
    (some (some (.inl (-1 : Int32)), g1))
  else
    (am_bi (ct 178 [.inl x3] g1) (fun r2 g2 =>
    if r2 = 0 then
      (some (some (.inl (-1 : Int32)), g2))
    else
      (am_bi (ct 178 [.inl x4] g2) (fun r3 g3 =>
      if r3 = 0 then
        (some (some (.inl (-1 : Int32)), g3))
      else
        (if x1 = x2 then
          (some (some (.inl (-2 : Int32)), g3))
        else
          (am_bv (ct 143 [.inr (.inr (29, 0)), .inl (0 : Int32), .inl (1 : Int32)] g3) (fun g4 =>
          am_bi (ct 167 [.inr (.inr (29, 0)), .inl x1, .inl x2] (am_put g4 139 0 (1 : Int32))) (fun r5 g5 =>
          if r5 = 0 then
            (am_bv (ct 171 [.inr (.inr (29, 0)), .inl x1, .inl x2, .inl x3, .inl x4] g5) (fun g6 =>
            if (0 : Int32) ≤ 0 then
              (am_bv (ct 144 [.inr (.inr (29, 0))] (am_put g6 139 0 (0 : Int32))) (fun g7 =>
              am_bv (ct 143 [.inr (.inr (29, 0)), .inl (1 : Int32), .inl (0 : Int32)] g7) (fun g8 =>
              some (some (.inl (0 : Int32)), g8))))
            else
              (if x3 < (0 : Int32) then
                (am_bv (ct 144 [.inr (.inr (29, 0))] (am_put g6 139 0 (0 : Int32))) (fun g9 =>
                am_bv (ct 143 [.inr (.inr (29, 0)), .inl (1 : Int32), .inl (0 : Int32)] g9) (fun g10 =>
                some (some (.inl (0 : Int32)), g10))))
              else
                (some (some (.inl (-2 : Int32)), am_put g6 139 0 (0 : Int32))))))
          else
            (am_bi (ct 175 [.inr (.inr (29, 0)), .inl x1, .inl x2] g5) (fun r11 g11 =>
            am_bv (ct 171 [.inr (.inr (29, 0)), .inl x1, .inl x2, .inl x3, .inl x4] g11) (fun g12 =>
            if r11 ≤ 0 then
              (am_bv (ct 144 [.inr (.inr (29, 0))] (am_put g12 139 0 (0 : Int32))) (fun g13 =>
              am_bv (ct 143 [.inr (.inr (29, 0)), .inl (1 : Int32), .inl (0 : Int32)] g13) (fun g14 =>
              some (some (.inl r11), g14))))
            else
              (if x3 < r11 then
                (am_bv (ct 144 [.inr (.inr (29, 0))] (am_put g12 139 0 (0 : Int32))) (fun g15 =>
                am_bv (ct 143 [.inr (.inr (29, 0)), .inl (1 : Int32), .inl (0 : Int32)] g15) (fun g16 =>
                some (some (.inl r11), g16))))
              else
                (some (some (.inl (-2 : Int32)), am_put g12 139 0 (0 : Int32)))))))))))))))) := rfl
set_option maxRecDepth 50000 in
theorem eM_shed_0 (ct : am_T) (n : Nat) (x1 : Int32) (g : am_G) : am_run ct 194 (n + 1) 0 [some (.inr (.inr (29, 0))), some (.inl x1), none] [] g =
  am_bi (ct 148 [.inr (.inr (29, 0)), .inl x1] (am_put g 131 0 (0 : Int32))) (fun r1 g1 =>
  if r1 = 0 then
    (some (some (.inl (-1 : Int32)), g1))
  else
    (am_bi (ct 150 [.inr (.inr (29, 0)), .inl x1] g1) (fun r2 g2 =>
    if 0 ≤ r2 then
      (am_bv (ct 144 [.inr (.inr (29, 0))] g2) (fun g3 =>
      am_bi (ct 141 [.inr (.inr (29, 0)), .inl ((48 : Int32) + x1)] g3) (fun r4 g4 =>
      am_bi (ct 150 [.inr (.inr (29, 0)), .inl x1] g4) (fun r5 g5 =>
      am_bv (ct 173 [.inr (.inr (29, 0)), .inl r5, .inl x1] g5) (fun g6 =>
      some (some (.inl r4), g6))))))
    else
      (some (some (.inl (-2 : Int32)), g2))))) := rfl
set_option maxRecDepth 50000 in
theorem eM_value_0 (ct : am_T) (n : Nat) (x1 : Int32) (x2 : Int32) (g : am_G) : am_run ct 195 (n + 1) 0 [some (.inr (.inr (29, 0))), some (.inl x1), some (.inl x2), none] [] g =
  am_bi (ct 148 [.inr (.inr (29, 0)), .inl x1] (am_put g 131 0 (0 : Int32))) (fun r1 g1 =>
  if r1 = 0 then
    (some (some (.inl (-20000 : Int32)), g1))
  else
    (am_bi (ct 134 [.inl x2, .inl (-9999 : Int32), .inl (9999 : Int32)] g1) (fun r2 g2 =>
    if r2 = 0 then
      (some (some (.inl (-20000 : Int32)), g2))
    else
      (am_bv (ct 144 [.inr (.inr (29, 0))] g2) (fun g3 =>
      am_bi (ct 141 [.inr (.inr (29, 0)), .inl ((96 : Int32) + x1)] g3) (fun r4 g4 =>
      am_bv (ct 142 [.inr (.inr (29, 0)), .inl ((96 : Int32) + x1), .inl x2] g4) (fun g5 =>
      some (some (.inl r4), g5)))))))) := rfl
set_option maxRecDepth 50000 in
theorem eM_fails_0 (ct : am_T) (n : Nat) (x1 : Int32) (g : am_G) : am_run ct 196 (n + 1) 0 [some (.inr (.inr (29, 0))), some (.inl x1)] [] g =
  some (some (.inl (0 : Int32)), am_put g 131 0 x1) := rfl
set_option maxRecDepth 50000 in
theorem eM_children_0 (ct : am_T) (n : Nat) (x1 : Int32) (g : am_G) : am_run ct 197 (n + 1) 0 [some (.inr (.inr (29, 0))), some (.inl x1), none, none] [] g =
  am_run ct 197 n 4 [some (.inr (.inr (29, 0))), some (.inl x1), some (.inl (0 : Int32)), some (.inl (0 : Int32))] [] g := rfl
set_option maxRecDepth 50000 in
theorem eM_children_4 (ct : am_T) (n : Nat) (x1 : Int32) (x2 : Int32) (x3 : Int32) (g : am_G) : am_run ct 197 (n + 1) 4 [some (.inr (.inr (29, 0))), some (.inl x1), some (.inl x2), some (.inl x3)] [] g =
  if (g 142 0 0) ≤ x3 then
    (some (some (.inl x2), g))
  else
    (am_bi (ct 150 [.inr (.inr (29, 0)), .inl x3] g) (fun r1 g1 =>
    if r1 = x1 then
      (am_run ct 197 n 4 [some (.inr (.inr (29, 0))), some (.inl x1), some (.inl (x2 + (1 : Int32))), some (.inl (x3 + 1))] [] g1)
    else
      (am_run ct 197 n 4 [some (.inr (.inr (29, 0))), some (.inl x1), some (.inl (x2 + (0 : Int32))), some (.inl (x3 + 1))] [] g1))) := rfl
set_option maxRecDepth 50000 in
theorem eM_under_0 (ct : am_T) (n : Nat) (x1 : Int32) (g : am_G) : am_run ct 198 (n + 1) 0 [some (.inr (.inr (29, 0))), some (.inl x1), none, none] [] g =
  am_run ct 198 n 4 [some (.inr (.inr (29, 0))), some (.inl x1), some (.inl (0 : Int32)), some (.inl (0 : Int32))] [] g := rfl
set_option maxRecDepth 50000 in
theorem eM_under_4 (ct : am_T) (n : Nat) (x1 : Int32) (x2 : Int32) (x3 : Int32) (g : am_G) : am_run ct 198 (n + 1) 4 [some (.inr (.inr (29, 0))), some (.inl x1), some (.inl x2), some (.inl x3)] [] g =
  if (g 142 0 0) ≤ x3 then
    (some (some (.inl x2), g))
  else
    (am_bi (ct 180 [.inr (.inr (29, 0)), .inl x1, .inl x3] g) (fun r1 g1 =>
    if r1 = 0 then
      (am_run ct 198 n 4 [some (.inr (.inr (29, 0))), some (.inl x1), some (.inl (x2 + (0 : Int32))), some (.inl (x3 + 1))] [] g1)
    else
      (am_bi (ct 141 [.inr (.inr (29, 0)), .inl ((96 : Int32) + x3)] g1) (fun r2 g2 =>
      am_run ct 198 n 4 [some (.inr (.inr (29, 0))), some (.inl x1), some (.inl (x2 + r2)), some (.inl (x3 + 1))] [] g2)))) := rfl
set_option maxRecDepth 50000 in
theorem eM_town_0 (ct : am_T) (n : Nat) (x1 : Int32) (x2 : Int32) (g : am_G) : am_run ct 199 (n + 1) 0 [some (.inr (.inr (29, 0))), some (.inl x1), some (.inl x2)] [] g =
  am_bi (ct 148 [.inr (.inr (29, 0)), .inl x1] (am_put g 131 0 (0 : Int32))) (fun r1 g1 =>
  if r1 = 0 then
    (am_bi (ct 196 [.inr (.inr (29, 0)), .inl (1 : Int32)] g1) (fun r13 g13 =>
    some (some (.inl r13), g13)))
  else
    (if x2 = 0 then
      (am_bi (ct 141 [.inr (.inr (29, 0)), .inl ((96 : Int32) + x1)] g1) (fun r2 g2 =>
      some (some (.inl r2), g2)))
    else if x2 = 1 then
      (am_bi (ct 150 [.inr (.inr (29, 0)), .inl x1] g1) (fun r3 g3 =>
      some (some (.inl r3), g3)))
    else if x2 = 2 then
      (am_bi (ct 151 [.inr (.inr (29, 0)), .inl x1] g1) (fun r4 g4 =>
      some (some (.inl r4), g4)))
    else if x2 = 3 then
      (am_bi (ct 166 [.inr (.inr (29, 0)), .inl x1] g1) (fun r5 g5 =>
      some (some (.inl r5), g5)))
    else if x2 = 4 then
      (am_bi (ct 185 [.inr (.inr (29, 0)), .inl x1] g1) (fun r6 g6 =>
      some (some (.inl r6), g6)))
    else if x2 = 5 then
      (am_bi (ct 179 [.inr (.inr (29, 0)), .inl x1] g1) (fun r7 g7 =>
      some (some (.inl r7), g7)))
    else if x2 = 6 then
      (am_bi (ct 198 [.inr (.inr (29, 0)), .inl x1] g1) (fun r8 g8 =>
      some (some (.inl r8), g8)))
    else if x2 = 7 then
      (am_bi (ct 141 [.inr (.inr (29, 0)), .inl ((48 : Int32) + x1)] g1) (fun r9 g9 =>
      some (some (.inl r9), g9)))
    else if x2 = 8 then
      (am_bi (ct 141 [.inr (.inr (29, 0)), .inl ((72 : Int32) + x1)] g1) (fun r10 g10 =>
      some (some (.inl r10), g10)))
    else if x2 = 9 then
      (am_bi (ct 197 [.inr (.inr (29, 0)), .inl x1] g1) (fun r11 g11 =>
      some (some (.inl r11), g11)))
    else (am_bi (ct 196 [.inr (.inr (29, 0)), .inl (2 : Int32)] g1) (fun r12 g12 =>
      some (some (.inl r12), g12))))) := rfl
set_option maxRecDepth 50000 in
theorem eM_isHead_0 (ct : am_T) (n : Nat) (x1 : Int32) (g : am_G) : am_run ct 200 (n + 1) 0 [some (.inr (.inr (29, 0))), some (.inl x1)] [] g =
  am_bi (ct 150 [.inr (.inr (29, 0)), .inl x1] g) (fun r1 g1 =>
  if r1 < 0 then
    (some (some (.inl (1 : Int32)), g1))
  else
    (am_bi (ct 150 [.inr (.inr (29, 0)), .inl x1] g1) (fun r2 g2 =>
    am_bi (ct 151 [.inr (.inr (29, 0)), .inl r2] g2) (fun r3 g3 =>
    if r3 = x1 then
      (some (some (.inl (0 : Int32)), g3))
    else
      (some (some (.inl (1 : Int32)), g3)))))) := rfl
set_option maxRecDepth 50000 in
theorem eM_chain_0 (ct : am_T) (n : Nat) (x1 : Int32) (x2 : Int32) (g : am_G) : am_run ct 201 (n + 1) 0 [some (.inr (.inr (29, 0))), some (.inl x1), some (.inl x2), none, none, none, none, none] [] g =
  am_bi (ct 148 [.inr (.inr (29, 0)), .inl x1] (am_put g 131 0 (0 : Int32))) (fun r1 g1 =>
  if r1 = 0 then
    (some (some (.inl (-1 : Int32)), g1))
  else
    (am_bi (ct 134 [.inl x2, .inl (0 : Int32), .inl (4 : Int32)] g1) (fun r2 g2 =>
    if r2 = 0 then
      (some (some (.inl (-1 : Int32)), g2))
    else
      (am_run ct 201 n 18 [some (.inr (.inr (29, 0))), some (.inl x1), some (.inl x2), some (.inl x1), some (.inl (0 : Int32)), none, none, none] [] g2)))) := rfl
set_option maxRecDepth 50000 in
theorem eM_chain_18 (ct : am_T) (n : Nat) (x1 : Int32) (x2 : Int32) (x3 : Int32) (x4 : Int32) (g : am_G) : am_run ct 201 (n + 1) 18 [some (.inr (.inr (29, 0))), some (.inl x1), some (.inl x2), some (.inl x3), some (.inl x4), none, none, none] [] g =
  am_bi (ct 200 [.inr (.inr (29, 0)), .inl x3] g) (fun r1 g1 =>
  if r1 = 0 then
    (am_bi (ct 150 [.inr (.inr (29, 0)), .inl x3] g1) (fun r2 g2 =>
    am_run ct 201 n 18 [some (.inr (.inr (29, 0))), some (.inl x1), some (.inl x2), some (.inl r2), some (.inl (x4 + 1)), none, none, none] [] g2))
  else
    (am_run ct 201 n 34 [some (.inr (.inr (29, 0))), some (.inl x1), some (.inl x2), some (.inl x3), some (.inl x4), some (.inl x3), some (.inl (1 : Int32)), some (.inl (0 : Int32))] [] g1)) := rfl
set_option maxRecDepth 50000 in
theorem eM_chain_34 (ct : am_T) (n : Nat) (x1 : Int32) (x2 : Int32) (x3 : Int32) (x4 : Int32) (x5 : Int32) (x6 : Int32) (x7 : Int32) (g : am_G) : am_run ct 201 (n + 1) 34 [some (.inr (.inr (29, 0))), some (.inl x1), some (.inl x2), some (.inl x3), some (.inl x4), some (.inl x5), some (.inl x6), some (.inl x7)] [] g =
  am_bi (ct 151 [.inr (.inr (29, 0)), .inl x5] g) (fun r1 g1 =>
  if r1 < 0 then
    (if x2 = 0 then
      (some (some (.inl x3), g1))
    else
      (if x2 = (1 : Int32) then
        (some (some (.inl x5), g1))
      else
        (if x2 = (2 : Int32) then
          (some (some (.inl x6), g1))
        else
          (if x2 = (3 : Int32) then
            (some (some (.inl x4), g1))
          else
            (some (some (.inl x7), g1))))))
  else
    (am_bi (ct 151 [.inr (.inr (29, 0)), .inl x5] g1) (fun r2 g2 =>
    am_bi (ct 141 [.inr (.inr (29, 0)), .inl ((48 : Int32) + r2)] g2) (fun r3 g3 =>
    am_bi (ct 151 [.inr (.inr (29, 0)), .inl x5] g3) (fun r4 g4 =>
    am_run ct 201 n 34 [some (.inr (.inr (29, 0))), some (.inl x1), some (.inl x2), some (.inl x3), some (.inl x4), some (.inl r4), some (.inl (x6 + 1)), some (.inl (x7 + r3))] [] g4))))) := rfl
set_option maxRecDepth 50000 in
theorem eM_above_0 (ct : am_T) (n : Nat) (x1 : Int32) (x2 : Int32) (g : am_G) : am_run ct 202 (n + 1) 0 [some (.inr (.inr (29, 0))), some (.inl x1), some (.inl x2), none, none] [] g =
  am_bi (ct 148 [.inr (.inr (29, 0)), .inl x1] (am_put g 131 0 (0 : Int32))) (fun r1 g1 =>
  if r1 = 0 then
    (some (some (.inl (-1 : Int32)), g1))
  else
    (if 0 ≤ x2 then
      (am_run ct 202 n 15 [some (.inr (.inr (29, 0))), some (.inl x1), some (.inl x2), some (.inl x1), some (.inl (0 : Int32))] [] g1)
    else
      (some (some (.inl (-1 : Int32)), g1)))) := rfl
set_option maxRecDepth 50000 in
theorem eM_above_15 (ct : am_T) (n : Nat) (x1 : Int32) (x2 : Int32) (x3 : Int32) (x4 : Int32) (g : am_G) : am_run ct 202 (n + 1) 15 [some (.inr (.inr (29, 0))), some (.inl x1), some (.inl x2), some (.inl x3), some (.inl x4)] [] g =
  if x2 ≤ x4 then
    (if 0 ≤ x3 then
      (some (some (.inl x3), g))
    else
      (some (some (.inl (-2 : Int32)), g)))
  else
    (if x3 < 0 then
      (if 0 ≤ x3 then
        (some (some (.inl x3), g))
      else
        (some (some (.inl (-2 : Int32)), g)))
    else
      (am_bi (ct 150 [.inr (.inr (29, 0)), .inl x3] g) (fun r1 g1 =>
      am_run ct 202 n 15 [some (.inr (.inr (29, 0))), some (.inl x1), some (.inl x2), some (.inl r1), some (.inl (x4 + 1))] [] g1))) := rfl
set_option maxRecDepth 50000 in
theorem eM_along_0 (ct : am_T) (n : Nat) (x1 : Int32) (x2 : Int32) (x3 : Int32) (g : am_G) : am_run ct 203 (n + 1) 0 [some (.inr (.inr (29, 0))), some (.inl x1), some (.inl x2), some (.inl x3), none, none, none, none, none] [] g =
  am_bi (ct 149 [.inr (.inr (29, 0)), .inl x1, .inl x2] (am_put g 131 0 (0 : Int32))) (fun r1 g1 =>
  if r1 = 0 then
    (some (some (.inl (-1 : Int32)), g1))
  else
    (if 0 ≤ x3 then
      (am_bi (ct 167 [.inr (.inr (29, 0)), .inl x1, .inl x2] g1) (fun r2 g2 =>
      if r2 = 0 then
        (some (some (.inl (-2 : Int32)), g2))
      else
        (am_bi (ct 186 [.inr (.inr (29, 0)), .inl x1, .inl x2] g2) (fun r3 g3 =>
        am_bi (ct 185 [.inr (.inr (29, 0)), .inl x1] g3) (fun r4 g4 =>
        am_bi (ct 185 [.inr (.inr (29, 0)), .inl r3] g4) (fun r5 g5 =>
        am_bi (ct 185 [.inr (.inr (29, 0)), .inl x2] g5) (fun r6 g6 =>
        am_bi (ct 185 [.inr (.inr (29, 0)), .inl r3] g6) (fun r7 g7 =>
        if x3 ≤ (((r4 - r5) + r6) - r7) then
          (if (r4 - r5) < x3 then
            (if (r4 - r5) < x3 then
              (am_run ct 203 n 63 [some (.inr (.inr (29, 0))), some (.inl x1), some (.inl x2), some (.inl x3), some (.inl r3), some (.inl (r4 - r5)), some (.inl (((r4 - r5) + r6) - r7)), some (.inl x2), some (.inl ((((r4 - r5) + r6) - r7) - x3))] [] g7)
            else
              (am_run ct 203 n 63 [some (.inr (.inr (29, 0))), some (.inl x1), some (.inl x2), some (.inl x3), some (.inl r3), some (.inl (r4 - r5)), some (.inl (((r4 - r5) + r6) - r7)), some (.inl x2), some (.inl x3)] [] g7))
          else
            (if (r4 - r5) < x3 then
              (am_run ct 203 n 63 [some (.inr (.inr (29, 0))), some (.inl x1), some (.inl x2), some (.inl x3), some (.inl r3), some (.inl (r4 - r5)), some (.inl (((r4 - r5) + r6) - r7)), some (.inl x1), some (.inl ((((r4 - r5) + r6) - r7) - x3))] [] g7)
            else
              (am_run ct 203 n 63 [some (.inr (.inr (29, 0))), some (.inl x1), some (.inl x2), some (.inl x3), some (.inl r3), some (.inl (r4 - r5)), some (.inl (((r4 - r5) + r6) - r7)), some (.inl x1), some (.inl x3)] [] g7)))
        else
          (some (some (.inl (-2 : Int32)), g7))))))))))
    else
      (some (some (.inl (-1 : Int32)), g1)))) := rfl
set_option maxRecDepth 50000 in
theorem eM_along_63 (ct : am_T) (n : Nat) (x1 : Int32) (x2 : Int32) (x3 : Int32) (x4 : Int32) (x5 : Int32) (x6 : Int32) (x7 : Int32) (x8 : Int32) (g : am_G) : am_run ct 203 (n + 1) 63 [some (.inr (.inr (29, 0))), some (.inl x1), some (.inl x2), some (.inl x3), some (.inl x4), some (.inl x5), some (.inl x6), some (.inl x7), some (.inl x8)] [] g =
  if x8 ≤ 0 then
    (some (some (.inl x7), g))
  else
    (am_bi (ct 150 [.inr (.inr (29, 0)), .inl x7] g) (fun r1 g1 =>
    am_run ct 203 n 63 [some (.inr (.inr (29, 0))), some (.inl x1), some (.inl x2), some (.inl x3), some (.inl x4), some (.inl x5), some (.inl x6), some (.inl r1), some (.inl (x8 + (-1)))] [] g1)) := rfl
set_option maxRecDepth 50000 in
theorem eM_together_0 (ct : am_T) (n : Nat) (x1 : Int32) (x2 : Int32) (g : am_G) : am_run ct 204 (n + 1) 0 [some (.inr (.inr (29, 0))), some (.inl x1), some (.inl x2)] [] g =
  am_bi (ct 149 [.inr (.inr (29, 0)), .inl x1, .inl x2] (am_put g 131 0 (0 : Int32))) (fun r1 g1 =>
  if r1 = 0 then
    (some (some (.inl (-1 : Int32)), g1))
  else
    (am_bi (ct 167 [.inr (.inr (29, 0)), .inl x1, .inl x2] g1) (fun r2 g2 =>
    if r2 = 0 then
      (some (some (.inl (0 : Int32)), g2))
    else
      (some (some (.inl (1 : Int32)), g2))))) := rfl
set_option maxRecDepth 50000 in
theorem eM_farUp_0 (ct : am_T) (n : Nat) (x1 : Int32) (x2 : Int32) (g : am_G) : am_run ct 205 (n + 1) 0 [some (.inr (.inr (29, 0))), some (.inl x1), some (.inl x2), none, none] [] g =
  am_run ct 205 n 4 [some (.inr (.inr (29, 0))), some (.inl x1), some (.inl x2), some (.inl (0 : Int32)), some (.inl x1)] [] g := rfl
set_option maxRecDepth 50000 in
theorem eM_farUp_4 (ct : am_T) (n : Nat) (x1 : Int32) (x2 : Int32) (x3 : Int32) (x4 : Int32) (g : am_G) : am_run ct 205 (n + 1) 4 [some (.inr (.inr (29, 0))), some (.inl x1), some (.inl x2), some (.inl x3), some (.inl x4)] [] g =
  if x4 = x2 then
    (some (some (.inl x3), g))
  else
    (am_bi (ct 141 [.inr (.inr (29, 0)), .inl ((48 : Int32) + x4)] g) (fun r1 g1 =>
    am_bi (ct 150 [.inr (.inr (29, 0)), .inl x4] g1) (fun r2 g2 =>
    am_run ct 205 n 4 [some (.inr (.inr (29, 0))), some (.inl x1), some (.inl x2), some (.inl (x3 + r1)), some (.inl r2)] [] g2))) := rfl
set_option maxRecDepth 50000 in
theorem eM_farOf_0 (ct : am_T) (n : Nat) (x1 : Int32) (x2 : Int32) (g : am_G) : am_run ct 206 (n + 1) 0 [some (.inr (.inr (29, 0))), some (.inl x1), some (.inl x2), none] [] g =
  am_bi (ct 186 [.inr (.inr (29, 0)), .inl x1, .inl x2] g) (fun r1 g1 =>
  am_bi (ct 205 [.inr (.inr (29, 0)), .inl x1, .inl r1] g1) (fun r2 g2 =>
  am_bi (ct 205 [.inr (.inr (29, 0)), .inl x2, .inl r1] g2) (fun r3 g3 =>
  some (some (.inl (r2 + r3)), g3)))) := rfl
set_option maxRecDepth 50000 in
theorem eM_far_0 (ct : am_T) (n : Nat) (x1 : Int32) (x2 : Int32) (g : am_G) : am_run ct 207 (n + 1) 0 [some (.inr (.inr (29, 0))), some (.inl x1), some (.inl x2)] [] g =
  am_bi (ct 149 [.inr (.inr (29, 0)), .inl x1, .inl x2] (am_put g 131 0 (0 : Int32))) (fun r1 g1 =>
  if r1 = 0 then
    (some (some (.inl (-1 : Int32)), g1))
  else
    (am_bi (ct 167 [.inr (.inr (29, 0)), .inl x1, .inl x2] g1) (fun r2 g2 =>
    if r2 = 0 then
      (some (some (.inl (-2 : Int32)), g2))
    else
      (am_bi (ct 206 [.inr (.inr (29, 0)), .inl x1, .inl x2] g2) (fun r3 g3 =>
      some (some (.inl r3), g3)))))) := rfl
set_option maxRecDepth 50000 in
theorem eM_meets_0 (ct : am_T) (n : Nat) (x1 : Int32) (x2 : Int32) (g : am_G) : am_run ct 208 (n + 1) 0 [some (.inr (.inr (29, 0))), some (.inl x1), some (.inl x2)] [] g =
  am_bi (ct 149 [.inr (.inr (29, 0)), .inl x1, .inl x2] (am_put g 131 0 (0 : Int32))) (fun r1 g1 =>
  if r1 = 0 then
    (some (some (.inl (-1 : Int32)), g1))
  else
    (am_bi (ct 167 [.inr (.inr (29, 0)), .inl x1, .inl x2] g1) (fun r2 g2 =>
    if r2 = 0 then
      (some (some (.inl (-2 : Int32)), g2))
    else
      (am_bi (ct 186 [.inr (.inr (29, 0)), .inl x1, .inl x2] g2) (fun r3 g3 =>
      some (some (.inl r3), g3)))))) := rfl
set_option maxRecDepth 50000 in
theorem eM_room_0 (ct : am_T) (n : Nat) (x1 : Int32) (x2 : Int32) (g : am_G) : am_run ct 209 (n + 1) 0 [some (.inr (.inr (29, 0))), some (.inl x1), some (.inl x2), none, none, none] [] g =
  am_bi (ct 149 [.inr (.inr (29, 0)), .inl x1, .inl x2] (am_put g 131 0 (0 : Int32))) (fun r1 g1 =>
  if r1 = 0 then
    (some (some (.inl (-1 : Int32)), g1))
  else
    (if x1 = x2 then
      (some (some (.inl (-2 : Int32)), g1))
    else
      (am_bi (ct 167 [.inr (.inr (29, 0)), .inl x1, .inl x2] g1) (fun r2 g2 =>
      if r2 = 0 then
        (some (some (.inl (-2 : Int32)), g2))
      else
        (am_bi (ct 186 [.inr (.inr (29, 0)), .inl x1, .inl x2] g2) (fun r3 g3 =>
        am_run ct 209 n 29 [some (.inr (.inr (29, 0))), some (.inl x1), some (.inl x2), some (.inl r3), some (.inl (99999 : Int32)), some (.inl x1)] [] g3)))))) := rfl
set_option maxRecDepth 50000 in
theorem eM_room_29 (ct : am_T) (n : Nat) (x1 : Int32) (x2 : Int32) (x3 : Int32) (x4 : Int32) (x5 : Int32) (g : am_G) : am_run ct 209 (n + 1) 29 [some (.inr (.inr (29, 0))), some (.inl x1), some (.inl x2), some (.inl x3), some (.inl x4), some (.inl x5)] [] g =
  if x5 = x3 then
    (am_run ct 209 n 54 [some (.inr (.inr (29, 0))), some (.inl x1), some (.inl x2), some (.inl x3), some (.inl x4), some (.inl x2)] [] g)
  else
    (am_bi (ct 141 [.inr (.inr (29, 0)), .inl ((72 : Int32) + x5)] g) (fun r1 g1 =>
    if x4 ≤ r1 then
      (am_bi (ct 150 [.inr (.inr (29, 0)), .inl x5] g1) (fun r2 g2 =>
      am_run ct 209 n 29 [some (.inr (.inr (29, 0))), some (.inl x1), some (.inl x2), some (.inl x3), some (.inl x4), some (.inl r2)] [] g2))
    else
      (am_bi (ct 141 [.inr (.inr (29, 0)), .inl ((72 : Int32) + x5)] g1) (fun r3 g3 =>
      am_bi (ct 150 [.inr (.inr (29, 0)), .inl x5] g3) (fun r4 g4 =>
      am_run ct 209 n 29 [some (.inr (.inr (29, 0))), some (.inl x1), some (.inl x2), some (.inl x3), some (.inl r3), some (.inl r4)] [] g4))))) := rfl
set_option maxRecDepth 50000 in
theorem eM_room_54 (ct : am_T) (n : Nat) (x1 : Int32) (x2 : Int32) (x3 : Int32) (x4 : Int32) (x5 : Int32) (g : am_G) : am_run ct 209 (n + 1) 54 [some (.inr (.inr (29, 0))), some (.inl x1), some (.inl x2), some (.inl x3), some (.inl x4), some (.inl x5)] [] g =
  if x5 = x3 then
    (some (some (.inl x4), g))
  else
    (am_bi (ct 141 [.inr (.inr (29, 0)), .inl ((72 : Int32) + x5)] g) (fun r1 g1 =>
    if x4 ≤ r1 then
      (am_bi (ct 150 [.inr (.inr (29, 0)), .inl x5] g1) (fun r2 g2 =>
      am_run ct 209 n 54 [some (.inr (.inr (29, 0))), some (.inl x1), some (.inl x2), some (.inl x3), some (.inl x4), some (.inl r2)] [] g2))
    else
      (am_bi (ct 141 [.inr (.inr (29, 0)), .inl ((72 : Int32) + x5)] g1) (fun r3 g3 =>
      am_bi (ct 150 [.inr (.inr (29, 0)), .inl x5] g3) (fun r4 g4 =>
      am_run ct 209 n 54 [some (.inr (.inr (29, 0))), some (.inl x1), some (.inl x2), some (.inl x3), some (.inl r3), some (.inl r4)] [] g4))))) := rfl
set_option maxRecDepth 50000 in
theorem eM_childBehind_0 (ct : am_T) (n : Nat) (x1 : Int32) (x2 : Int32) (g : am_G) : am_run ct 210 (n + 1) 0 [some (.inr (.inr (29, 0))), some (.inl x1), some (.inl x2), none, none] [] g =
  if 0 ≤ x2 then
    (if x2 < 0 then
      (am_run ct 210 n 25 [some (.inr (.inr (29, 0))), some (.inl x1), some (.inl x2), some (.inl (0 : Int32)), some (.inl (0 : Int32))] [] g)
    else
      (am_bi (ct 151 [.inr (.inr (29, 0)), .inl x1] g) (fun r1 g1 =>
      if x2 = r1 then
        (am_run ct 210 n 25 [some (.inr (.inr (29, 0))), some (.inl x1), some (.inl x2), some (.inl (0 : Int32)), some (.inl (0 : Int32))] [] g1)
      else
        (am_run ct 210 n 25 [some (.inr (.inr (29, 0))), some (.inl x1), some (.inl x2), some (.inl (x2 + (1 : Int32))), some (.inl (x2 + (1 : Int32)))] [] g1))))
  else
    (am_bi (ct 151 [.inr (.inr (29, 0)), .inl x1] g) (fun r2 g2 =>
    if r2 < 0 then
      (if x2 < 0 then
        (am_run ct 210 n 25 [some (.inr (.inr (29, 0))), some (.inl x1), some (.inl x2), some (.inl (0 : Int32)), some (.inl (0 : Int32))] [] g2)
      else
        (am_bi (ct 151 [.inr (.inr (29, 0)), .inl x1] g2) (fun r3 g3 =>
        if x2 = r3 then
          (am_run ct 210 n 25 [some (.inr (.inr (29, 0))), some (.inl x1), some (.inl x2), some (.inl (0 : Int32)), some (.inl (0 : Int32))] [] g3)
        else
          (am_run ct 210 n 25 [some (.inr (.inr (29, 0))), some (.inl x1), some (.inl x2), some (.inl (x2 + (1 : Int32))), some (.inl (x2 + (1 : Int32)))] [] g3))))
    else
      (am_bi (ct 151 [.inr (.inr (29, 0)), .inl x1] g2) (fun r4 g4 =>
      some (some (.inl r4), g4))))) := rfl
set_option maxRecDepth 50000 in
theorem eM_childBehind_25 (ct : am_T) (n : Nat) (x1 : Int32) (x2 : Int32) (x3 : Int32) (x4 : Int32) (g : am_G) : am_run ct 210 (n + 1) 25 [some (.inr (.inr (29, 0))), some (.inl x1), some (.inl x2), some (.inl x3), some (.inl x4)] [] g =
  if (g 142 0 0) ≤ x4 then
    (some (some (.inl (-1 : Int32)), g))
  else
    (am_bi (ct 150 [.inr (.inr (29, 0)), .inl x4] g) (fun r1 g1 =>
    if r1 = x1 then
      (am_bi (ct 151 [.inr (.inr (29, 0)), .inl x1] g1) (fun r2 g2 =>
      if x4 = r2 then
        (am_run ct 210 n 25 [some (.inr (.inr (29, 0))), some (.inl x1), some (.inl x2), some (.inl x3), some (.inl (x4 + 1))] [] g2)
      else
        (some (some (.inl x4), g2))))
    else
      (am_run ct 210 n 25 [some (.inr (.inr (29, 0))), some (.inl x1), some (.inl x2), some (.inl x3), some (.inl (x4 + 1))] [] g1))) := rfl
set_option maxRecDepth 50000 in
theorem eM_behind_0 (ct : am_T) (n : Nat) (x1 : Int32) (g : am_G) : am_run ct 211 (n + 1) 0 [some (.inr (.inr (29, 0))), some (.inl x1), none, none, none] [] g =
  am_bi (ct 210 [.inr (.inr (29, 0)), .inl x1, .inl (-1 : Int32)] g) (fun r1 g1 =>
  if r1 < 0 then
    (am_run ct 211 n 11 [some (.inr (.inr (29, 0))), some (.inl x1), some (.inl r1), some (.inl x1), none] [] g1)
  else
    (some (some (.inl r1), g1))) := rfl
set_option maxRecDepth 50000 in
theorem eM_behind_11 (ct : am_T) (n : Nat) (x1 : Int32) (x2 : Int32) (x3 : Int32) (o4 : Option am_V) (g : am_G) : am_run ct 211 (n + 1) 11 [some (.inr (.inr (29, 0))), some (.inl x1), some (.inl x2), some (.inl x3), o4] [] g =
  am_bi (ct 150 [.inr (.inr (29, 0)), .inl x3] g) (fun r1 g1 =>
  if r1 < 0 then
    (some (some (.inl (-1 : Int32)), g1))
  else
    (am_bi (ct 150 [.inr (.inr (29, 0)), .inl x3] g1) (fun r2 g2 =>
    am_bi (ct 210 [.inr (.inr (29, 0)), .inl r2, .inl x3] g2) (fun r3 g3 =>
    if r3 < 0 then
      (am_bi (ct 150 [.inr (.inr (29, 0)), .inl x3] g3) (fun r4 g4 =>
      am_run ct 211 n 11 [some (.inr (.inr (29, 0))), some (.inl x1), some (.inl x2), some (.inl r4), some (.inl r3)] [] g4))
    else
      (some (some (.inl r3), g3)))))) := rfl
set_option maxRecDepth 50000 in
theorem eM_order_0 (ct : am_T) (n : Nat) (x1 : Int32) (x2 : Int32) (g : am_G) : am_run ct 212 (n + 1) 0 [some (.inr (.inr (29, 0))), some (.inl x1), some (.inl x2), none, none] [] g =
  am_bi (ct 148 [.inr (.inr (29, 0)), .inl x1] (am_put g 131 0 (0 : Int32))) (fun r1 g1 =>
  if r1 = 0 then
    (some (some (.inl (-1 : Int32)), g1))
  else
    (if 0 ≤ x2 then
      (am_bi (ct 166 [.inr (.inr (29, 0)), .inl x1] g1) (fun r2 g2 =>
      am_run ct 212 n 17 [some (.inr (.inr (29, 0))), some (.inl x1), some (.inl x2), some (.inl r2), some (.inl (0 : Int32))] [] g2))
    else
      (some (some (.inl (-1 : Int32)), g1)))) := rfl
set_option maxRecDepth 50000 in
theorem eM_order_17 (ct : am_T) (n : Nat) (x1 : Int32) (x2 : Int32) (x3 : Int32) (x4 : Int32) (g : am_G) : am_run ct 212 (n + 1) 17 [some (.inr (.inr (29, 0))), some (.inl x1), some (.inl x2), some (.inl x3), some (.inl x4)] [] g =
  if x2 ≤ x4 then
    (if 0 ≤ x3 then
      (some (some (.inl x3), g))
    else
      (some (some (.inl (-2 : Int32)), g)))
  else
    (if x3 < 0 then
      (if 0 ≤ x3 then
        (some (some (.inl x3), g))
      else
        (some (some (.inl (-2 : Int32)), g)))
    else
      (am_bi (ct 211 [.inr (.inr (29, 0)), .inl x3] g) (fun r1 g1 =>
      am_run ct 212 n 17 [some (.inr (.inr (29, 0))), some (.inl x1), some (.inl x2), some (.inl r1), some (.inl (x4 + 1))] [] g1))) := rfl
set_option maxRecDepth 50000 in
theorem eM_place_0 (ct : am_T) (n : Nat) (x1 : Int32) (g : am_G) : am_run ct 213 (n + 1) 0 [some (.inr (.inr (29, 0))), some (.inl x1), none, none] [] g =
  am_bi (ct 148 [.inr (.inr (29, 0)), .inl x1] (am_put g 131 0 (0 : Int32))) (fun r1 g1 =>
  if r1 = 0 then
    (some (some (.inl (-1 : Int32)), g1))
  else
    (am_bi (ct 166 [.inr (.inr (29, 0)), .inl x1] g1) (fun r2 g2 =>
    am_run ct 213 n 15 [some (.inr (.inr (29, 0))), some (.inl x1), some (.inl (0 : Int32)), some (.inl r2)] [] g2))) := rfl
set_option maxRecDepth 50000 in
theorem eM_place_15 (ct : am_T) (n : Nat) (x1 : Int32) (x2 : Int32) (x3 : Int32) (g : am_G) : am_run ct 213 (n + 1) 15 [some (.inr (.inr (29, 0))), some (.inl x1), some (.inl x2), some (.inl x3)] [] g =
  if x3 = x1 then
    (some (some (.inl x2), g))
  else
    (am_bi (ct 211 [.inr (.inr (29, 0)), .inl x3] g) (fun r1 g1 =>
    am_run ct 213 n 15 [some (.inr (.inr (29, 0))), some (.inl x1), some (.inl (x2 + 1)), some (.inl r1)] [] g1)) := rfl
set_option maxRecDepth 50000 in
theorem eM_farthest_0 (ct : am_T) (n : Nat) (x1 : Int32) (g : am_G) : am_run ct 214 (n + 1) 0 [some (.inr (.inr (29, 0))), some (.inl x1), none, none] [] g =
  am_run ct 214 n 4 [some (.inr (.inr (29, 0))), some (.inl x1), some (.inl (0 : Int32)), some (.inl (0 : Int32))] [] g := rfl
set_option maxRecDepth 50000 in
theorem eM_farthest_4 (ct : am_T) (n : Nat) (x1 : Int32) (x2 : Int32) (x3 : Int32) (g : am_G) : am_run ct 214 (n + 1) 4 [some (.inr (.inr (29, 0))), some (.inl x1), some (.inl x2), some (.inl x3)] [] g =
  if (g 142 0 0) ≤ x3 then
    (some (some (.inl x2), g))
  else
    (am_bi (ct 167 [.inr (.inr (29, 0)), .inl x3, .inl x1] g) (fun r1 g1 =>
    if r1 = 0 then
      (am_run ct 214 n 4 [some (.inr (.inr (29, 0))), some (.inl x1), some (.inl x2), some (.inl (x3 + 1))] [] g1)
    else
      (am_bi (ct 206 [.inr (.inr (29, 0)), .inl x3, .inl x1] g1) (fun r2 g2 =>
      if r2 ≤ x2 then
        (am_run ct 214 n 4 [some (.inr (.inr (29, 0))), some (.inl x1), some (.inl x2), some (.inl (x3 + 1))] [] g2)
      else
        (am_bi (ct 206 [.inr (.inr (29, 0)), .inl x3, .inl x1] g2) (fun r3 g3 =>
        am_run ct 214 n 4 [some (.inr (.inr (29, 0))), some (.inl x1), some (.inl r3), some (.inl (x3 + 1))] [] g3)))))) := rfl
set_option maxRecDepth 50000 in
theorem eM_widestOf_0 (ct : am_T) (n : Nat) (x1 : Int32) (g : am_G) : am_run ct 215 (n + 1) 0 [some (.inr (.inr (29, 0))), some (.inl x1), none, none] [] g =
  am_run ct 215 n 4 [some (.inr (.inr (29, 0))), some (.inl x1), some (.inl (0 : Int32)), some (.inl (0 : Int32))] [] g := rfl
set_option maxRecDepth 50000 in
theorem eM_widestOf_4 (ct : am_T) (n : Nat) (x1 : Int32) (x2 : Int32) (x3 : Int32) (g : am_G) : am_run ct 215 (n + 1) 4 [some (.inr (.inr (29, 0))), some (.inl x1), some (.inl x2), some (.inl x3)] [] g =
  if (g 142 0 0) ≤ x3 then
    (some (some (.inl x2), g))
  else
    (am_bi (ct 167 [.inr (.inr (29, 0)), .inl x3, .inl x1] g) (fun r1 g1 =>
    if r1 = 0 then
      (am_run ct 215 n 4 [some (.inr (.inr (29, 0))), some (.inl x1), some (.inl x2), some (.inl (x3 + 1))] [] g1)
    else
      (am_bi (ct 214 [.inr (.inr (29, 0)), .inl x3] g1) (fun r2 g2 =>
      if r2 ≤ x2 then
        (am_run ct 215 n 4 [some (.inr (.inr (29, 0))), some (.inl x1), some (.inl x2), some (.inl (x3 + 1))] [] g2)
      else
        (am_bi (ct 214 [.inr (.inr (29, 0)), .inl x3] g2) (fun r3 g3 =>
        am_run ct 215 n 4 [some (.inr (.inr (29, 0))), some (.inl x1), some (.inl r3), some (.inl (x3 + 1))] [] g3)))))) := rfl
set_option maxRecDepth 50000 in
theorem eM_joint_0 (ct : am_T) (n : Nat) (x1 : Int32) (x2 : Int32) (x3 : Int32) (g : am_G) : am_run ct 216 (n + 1) 0 [some (.inr (.inr (29, 0))), some (.inl x1), some (.inl x2), some (.inl x3), none, none, none, none, none, none, none] [] g =
  am_bi (ct 149 [.inr (.inr (29, 0)), .inl x1, .inl x2] (am_put g 131 0 (0 : Int32))) (fun r1 g1 =>
  if r1 = 0 then
    (some (some (.inl (-1 : Int32)), g1))
  else
    (am_bi (ct 134 [.inl x3, .inl (0 : Int32), .inl (2 : Int32)] g1) (fun r2 g2 =>
    if r2 = 0 then
      (some (some (.inl (-1 : Int32)), g2))
    else
      (am_bi (ct 167 [.inr (.inr (29, 0)), .inl x1, .inl x2] g2) (fun r3 g3 =>
      if r3 = 0 then
        (am_bi (ct 215 [.inr (.inr (29, 0)), .inl x1] g3) (fun r4 g4 =>
        am_bi (ct 215 [.inr (.inr (29, 0)), .inl x2] g4) (fun r5 g5 =>
        if r4 ≤ r5 then
          (am_bi (ct 215 [.inr (.inr (29, 0)), .inl x2] g5) (fun r6 g6 =>
          am_run ct 216 n 45 [some (.inr (.inr (29, 0))), some (.inl x1), some (.inl x2), some (.inl x3), some (.inl r6), some (.inl (-1 : Int32)), some (.inl (-1 : Int32)), some (.inl (-1 : Int32)), some (.inl (0 : Int32)), none, none] [] g6))
        else
          (am_bi (ct 215 [.inr (.inr (29, 0)), .inl x1] g5) (fun r7 g7 =>
          am_run ct 216 n 45 [some (.inr (.inr (29, 0))), some (.inl x1), some (.inl x2), some (.inl x3), some (.inl r7), some (.inl (-1 : Int32)), some (.inl (-1 : Int32)), some (.inl (-1 : Int32)), some (.inl (0 : Int32)), none, none] [] g7)))))
      else
        (some (some (.inl (-2 : Int32)), g3))))))) := rfl
set_option maxRecDepth 50000 in
theorem eM_joint_45 (ct : am_T) (n : Nat) (x1 : Int32) (x2 : Int32) (x3 : Int32) (x4 : Int32) (x5 : Int32) (x6 : Int32) (x7 : Int32) (x8 : Int32) (o9 : Option am_V) (o10 : Option am_V) (g : am_G) : am_run ct 216 (n + 1) 45 [some (.inr (.inr (29, 0))), some (.inl x1), some (.inl x2), some (.inl x3), some (.inl x4), some (.inl x5), some (.inl x6), some (.inl x7), some (.inl x8), o9, o10] [] g =
  if (g 142 0 0) ≤ x8 then
    (if x3 = 0 then
      (some (some (.inl x5), g))
    else
      (if x3 = (1 : Int32) then
        (some (some (.inl x6), g))
      else
        (some (some (.inl x7), g))))
  else
    (am_run ct 216 n 51 [some (.inr (.inr (29, 0))), some (.inl x1), some (.inl x2), some (.inl x3), some (.inl x4), some (.inl x5), some (.inl x6), some (.inl x7), some (.inl x8), some (.inl (0 : Int32)), o10] [] g) := rfl
set_option maxRecDepth 50000 in
theorem eM_joint_51 (ct : am_T) (n : Nat) (x1 : Int32) (x2 : Int32) (x3 : Int32) (x4 : Int32) (x5 : Int32) (x6 : Int32) (x7 : Int32) (x8 : Int32) (x9 : Int32) (o10 : Option am_V) (g : am_G) : am_run ct 216 (n + 1) 51 [some (.inr (.inr (29, 0))), some (.inl x1), some (.inl x2), some (.inl x3), some (.inl x4), some (.inl x5), some (.inl x6), some (.inl x7), some (.inl x8), some (.inl x9), o10] [] g =
  if (g 142 0 0) ≤ x9 then
    (am_run ct 216 n 45 [some (.inr (.inr (29, 0))), some (.inl x1), some (.inl x2), some (.inl x3), some (.inl x4), some (.inl x5), some (.inl x6), some (.inl x7), some (.inl (x8 + 1)), some (.inl x9), o10] [] g)
  else
    (am_bi (ct 167 [.inr (.inr (29, 0)), .inl x8, .inl x1] g) (fun r1 g1 =>
    if r1 = 0 then
      (am_run ct 216 n 51 [some (.inr (.inr (29, 0))), some (.inl x1), some (.inl x2), some (.inl x3), some (.inl x4), some (.inl x5), some (.inl x6), some (.inl x7), some (.inl x8), some (.inl (x9 + 1)), o10] [] g1)
    else
      (am_bi (ct 167 [.inr (.inr (29, 0)), .inl x9, .inl x2] g1) (fun r2 g2 =>
      if r2 = 0 then
        (am_run ct 216 n 51 [some (.inr (.inr (29, 0))), some (.inl x1), some (.inl x2), some (.inl x3), some (.inl x4), some (.inl x5), some (.inl x6), some (.inl x7), some (.inl x8), some (.inl (x9 + 1)), o10] [] g2)
      else
        (am_bi (ct 214 [.inr (.inr (29, 0)), .inl x8] g2) (fun r3 g3 =>
        am_bi (ct 214 [.inr (.inr (29, 0)), .inl x9] g3) (fun r4 g4 =>
        if ((r3 + (1 : Int32)) + r4) ≤ x4 then
          (if x5 < 0 then
            (am_run ct 216 n 51 [some (.inr (.inr (29, 0))), some (.inl x1), some (.inl x2), some (.inl x3), some (.inl x4), some (.inl x4), some (.inl x8), some (.inl x9), some (.inl x8), some (.inl (x9 + 1)), some (.inl x4)] [] g4)
          else
            (if x4 < x5 then
              (am_run ct 216 n 51 [some (.inr (.inr (29, 0))), some (.inl x1), some (.inl x2), some (.inl x3), some (.inl x4), some (.inl x4), some (.inl x8), some (.inl x9), some (.inl x8), some (.inl (x9 + 1)), some (.inl x4)] [] g4)
            else
              (am_run ct 216 n 51 [some (.inr (.inr (29, 0))), some (.inl x1), some (.inl x2), some (.inl x3), some (.inl x4), some (.inl x5), some (.inl x6), some (.inl x7), some (.inl x8), some (.inl (x9 + 1)), some (.inl x4)] [] g4)))
        else
          (if x5 < 0 then
            (am_run ct 216 n 51 [some (.inr (.inr (29, 0))), some (.inl x1), some (.inl x2), some (.inl x3), some (.inl x4), some (.inl ((r3 + (1 : Int32)) + r4)), some (.inl x8), some (.inl x9), some (.inl x8), some (.inl (x9 + 1)), some (.inl ((r3 + (1 : Int32)) + r4))] [] g4)
          else
            (if ((r3 + (1 : Int32)) + r4) < x5 then
              (am_run ct 216 n 51 [some (.inr (.inr (29, 0))), some (.inl x1), some (.inl x2), some (.inl x3), some (.inl x4), some (.inl ((r3 + (1 : Int32)) + r4)), some (.inl x8), some (.inl x9), some (.inl x8), some (.inl (x9 + 1)), some (.inl ((r3 + (1 : Int32)) + r4))] [] g4)
            else
              (am_run ct 216 n 51 [some (.inr (.inr (29, 0))), some (.inl x1), some (.inl x2), some (.inl x3), some (.inl x4), some (.inl x5), some (.inl x6), some (.inl x7), some (.inl x8), some (.inl (x9 + 1)), some (.inl ((r3 + (1 : Int32)) + r4))] [] g4)))))))))) := rfl
set_option maxRecDepth 50000 in
theorem eM_tightest_0 (ct : am_T) (n : Nat) (x1 : Int32) (g : am_G) : am_run ct 217 (n + 1) 0 [some (.inr (.inr (29, 0))), some (.inl x1), none, none] [] g =
  am_bi (ct 148 [.inr (.inr (29, 0)), .inl x1] (am_put g 131 0 (0 : Int32))) (fun r1 g1 =>
  if r1 = 0 then
    (some (some (.inl (-1 : Int32)), g1))
  else
    (am_run ct 217 n 13 [some (.inr (.inr (29, 0))), some (.inl x1), some (.inl (-2 : Int32)), some (.inl (0 : Int32))] [] g1)) := rfl
set_option maxRecDepth 50000 in
theorem eM_tightest_13 (ct : am_T) (n : Nat) (x1 : Int32) (x2 : Int32) (x3 : Int32) (g : am_G) : am_run ct 217 (n + 1) 13 [some (.inr (.inr (29, 0))), some (.inl x1), some (.inl x2), some (.inl x3)] [] g =
  if (g 142 0 0) ≤ x3 then
    (some (some (.inl x2), g))
  else
    (am_bi (ct 150 [.inr (.inr (29, 0)), .inl x3] g) (fun r1 g1 =>
    if r1 < 0 then
      (am_run ct 217 n 13 [some (.inr (.inr (29, 0))), some (.inl x1), some (.inl x2), some (.inl (x3 + 1))] [] g1)
    else
      (am_bi (ct 167 [.inr (.inr (29, 0)), .inl x3, .inl x1] g1) (fun r2 g2 =>
      if r2 = 0 then
        (am_run ct 217 n 13 [some (.inr (.inr (29, 0))), some (.inl x1), some (.inl x2), some (.inl (x3 + 1))] [] g2)
      else
        (if x2 < 0 then
          (am_run ct 217 n 13 [some (.inr (.inr (29, 0))), some (.inl x1), some (.inl x3), some (.inl (x3 + 1))] [] g2)
        else
          (am_bi (ct 141 [.inr (.inr (29, 0)), .inl ((72 : Int32) + x3)] g2) (fun r3 g3 =>
          am_bi (ct 141 [.inr (.inr (29, 0)), .inl ((72 : Int32) + x2)] g3) (fun r4 g4 =>
          if r4 ≤ r3 then
            (am_run ct 217 n 13 [some (.inr (.inr (29, 0))), some (.inl x1), some (.inl x2), some (.inl (x3 + 1))] [] g4)
          else
            (am_run ct 217 n 13 [some (.inr (.inr (29, 0))), some (.inl x1), some (.inl x3), some (.inl (x3 + 1))] [] g4))))))))) := rfl
set_option maxRecDepth 50000 in
theorem eM_heavyOf_0 (ct : am_T) (n : Nat) (x1 : Int32) (g : am_G) : am_run ct 218 (n + 1) 0 [some (.inr (.inr (29, 0))), some (.inl x1), none] [] g =
  am_run ct 218 n 2 [some (.inr (.inr (29, 0))), some (.inl x1), some (.inl (0 : Int32))] [] g := rfl
set_option maxRecDepth 50000 in
theorem eM_heavyOf_2 (ct : am_T) (n : Nat) (x1 : Int32) (x2 : Int32) (g : am_G) : am_run ct 218 (n + 1) 2 [some (.inr (.inr (29, 0))), some (.inl x1), some (.inl x2)] [] g =
  if (g 142 0 0) ≤ x2 then
    (some (some (.inl (-2 : Int32)), g))
  else
    (am_bi (ct 150 [.inr (.inr (29, 0)), .inl x2] g) (fun r1 g1 =>
    if r1 = x1 then
      (am_bi (ct 179 [.inr (.inr (29, 0)), .inl x2] g1) (fun r2 g2 =>
      am_bi (ct 179 [.inr (.inr (29, 0)), .inl x1] g2) (fun r3 g3 =>
      if ((2 : Int32) * r2) ≤ r3 then
        (am_run ct 218 n 2 [some (.inr (.inr (29, 0))), some (.inl x1), some (.inl (x2 + 1))] [] g3)
      else
        (some (some (.inl x2), g3)))))
    else
      (am_run ct 218 n 2 [some (.inr (.inr (29, 0))), some (.inl x1), some (.inl (x2 + 1))] [] g1))) := rfl
set_option maxRecDepth 50000 in
theorem eM_heavy_0 (ct : am_T) (n : Nat) (x1 : Int32) (g : am_G) : am_run ct 219 (n + 1) 0 [some (.inr (.inr (29, 0))), some (.inl x1)] [] g =
  am_bi (ct 148 [.inr (.inr (29, 0)), .inl x1] (am_put g 131 0 (0 : Int32))) (fun r1 g1 =>
  if r1 = 0 then
    (some (some (.inl (-1 : Int32)), g1))
  else
    (am_bi (ct 218 [.inr (.inr (29, 0)), .inl x1] g1) (fun r2 g2 =>
    some (some (.inl r2), g2)))) := rfl
set_option maxRecDepth 50000 in
theorem eM_potentialNow_0 (ct : am_T) (n : Nat)  (g : am_G) : am_run ct 220 (n + 1) 0 [some (.inr (.inr (29, 0))), none, none] [] g =
  am_run ct 220 n 4 [some (.inr (.inr (29, 0))), some (.inl (0 : Int32)), some (.inl (0 : Int32))] [] g := rfl
set_option maxRecDepth 50000 in
theorem eM_potentialNow_4 (ct : am_T) (n : Nat) (x1 : Int32) (x2 : Int32) (g : am_G) : am_run ct 220 (n + 1) 4 [some (.inr (.inr (29, 0))), some (.inl x1), some (.inl x2)] [] g =
  if (g 142 0 0) ≤ x2 then
    (some (some (.inl x1), g))
  else
    (am_bi (ct 218 [.inr (.inr (29, 0)), .inl x2] g) (fun r1 g1 =>
    if r1 < 0 then
      (am_run ct 220 n 4 [some (.inr (.inr (29, 0))), some (.inl (x1 + (0 : Int32))), some (.inl (x2 + 1))] [] g1)
    else
      (am_bi (ct 151 [.inr (.inr (29, 0)), .inl x2] g1) (fun r2 g2 =>
      am_bi (ct 218 [.inr (.inr (29, 0)), .inl x2] g2) (fun r3 g3 =>
      if r2 = r3 then
        (am_run ct 220 n 4 [some (.inr (.inr (29, 0))), some (.inl (x1 + (0 : Int32))), some (.inl (x2 + 1))] [] g3)
      else
        (am_run ct 220 n 4 [some (.inr (.inr (29, 0))), some (.inl (x1 + (1 : Int32))), some (.inl (x2 + 1))] [] g3)))))) := rfl
set_option maxRecDepth 50000 in
theorem eM_potential_0 (ct : am_T) (n : Nat)  (g : am_G) : am_run ct 221 (n + 1) 0 [some (.inr (.inr (29, 0)))] [] g =
  am_bi (ct 220 [.inr (.inr (29, 0))] (am_put g 131 0 (0 : Int32))) (fun r1 g1 =>
  some (some (.inl r1), g1)) := rfl
set_option maxRecDepth 50000 in
theorem eM_would_0 (ct : am_T) (n : Nat) (x1 : Int32) (g : am_G) : am_run ct 222 (n + 1) 0 [some (.inr (.inr (29, 0))), some (.inl x1)] [] g =
  am_bi (ct 148 [.inr (.inr (29, 0)), .inl x1] (am_put g 131 0 (0 : Int32))) (fun r1 g1 =>
  if r1 = 0 then
    (some (some (.inl (-1 : Int32)), g1))
  else
    (am_bi (ct 168 [.inr (.inr (29, 0)), .inl x1] g1) (fun r2 g2 =>
    some (some (.inl r2), g2)))) := rfl
set_option maxRecDepth 50000 in
theorem eM_widest_0 (ct : am_T) (n : Nat) (x1 : Int32) (x2 : Int32) (g : am_G) : am_run ct 223 (n + 1) 0 [some (.inr (.inr (29, 0))), some (.inl x1), some (.inl x2), none, none, none, none, none] [] g =
  am_bi (ct 148 [.inr (.inr (29, 0)), .inl x1] (am_put g 131 0 (0 : Int32))) (fun r1 g1 =>
  if r1 = 0 then
    (some (some (.inl (-1 : Int32)), g1))
  else
    (am_bi (ct 134 [.inl x2, .inl (0 : Int32), .inl (2 : Int32)] g1) (fun r2 g2 =>
    if r2 = 0 then
      (some (some (.inl (-1 : Int32)), g2))
    else
      (am_run ct 223 n 22 [some (.inr (.inr (29, 0))), some (.inl x1), some (.inl x2), some (.inl (0 : Int32)), some (.inl x1), some (.inl x1), some (.inl (0 : Int32)), none] [] g2)))) := rfl
set_option maxRecDepth 50000 in
theorem eM_widest_22 (ct : am_T) (n : Nat) (x1 : Int32) (x2 : Int32) (x3 : Int32) (x4 : Int32) (x5 : Int32) (x6 : Int32) (o7 : Option am_V) (g : am_G) : am_run ct 223 (n + 1) 22 [some (.inr (.inr (29, 0))), some (.inl x1), some (.inl x2), some (.inl x3), some (.inl x4), some (.inl x5), some (.inl x6), o7] [] g =
  if (g 142 0 0) ≤ x6 then
    (if x2 = 0 then
      (some (some (.inl x3), g))
    else
      (if x2 = (1 : Int32) then
        (some (some (.inl x4), g))
      else
        (some (some (.inl x5), g))))
  else
    (am_run ct 223 n 30 [some (.inr (.inr (29, 0))), some (.inl x1), some (.inl x2), some (.inl x3), some (.inl x4), some (.inl x5), some (.inl x6), some (.inl (x6 + (1 : Int32)))] [] g) := rfl
set_option maxRecDepth 50000 in
theorem eM_widest_30 (ct : am_T) (n : Nat) (x1 : Int32) (x2 : Int32) (x3 : Int32) (x4 : Int32) (x5 : Int32) (x6 : Int32) (x7 : Int32) (g : am_G) : am_run ct 223 (n + 1) 30 [some (.inr (.inr (29, 0))), some (.inl x1), some (.inl x2), some (.inl x3), some (.inl x4), some (.inl x5), some (.inl x6), some (.inl x7)] [] g =
  if (g 142 0 0) ≤ x7 then
    (am_run ct 223 n 22 [some (.inr (.inr (29, 0))), some (.inl x1), some (.inl x2), some (.inl x3), some (.inl x4), some (.inl x5), some (.inl (x6 + 1)), some (.inl x7)] [] g)
  else
    (am_bi (ct 167 [.inr (.inr (29, 0)), .inl x6, .inl x1] g) (fun r1 g1 =>
    if r1 = 0 then
      (am_run ct 223 n 30 [some (.inr (.inr (29, 0))), some (.inl x1), some (.inl x2), some (.inl x3), some (.inl x4), some (.inl x5), some (.inl x6), some (.inl (x7 + 1))] [] g1)
    else
      (am_bi (ct 167 [.inr (.inr (29, 0)), .inl x7, .inl x1] g1) (fun r2 g2 =>
      if r2 = 0 then
        (am_run ct 223 n 30 [some (.inr (.inr (29, 0))), some (.inl x1), some (.inl x2), some (.inl x3), some (.inl x4), some (.inl x5), some (.inl x6), some (.inl (x7 + 1))] [] g2)
      else
        (am_bi (ct 206 [.inr (.inr (29, 0)), .inl x6, .inl x7] g2) (fun r3 g3 =>
        if x3 < r3 then
          (am_bi (ct 206 [.inr (.inr (29, 0)), .inl x6, .inl x7] g3) (fun r4 g4 =>
          am_run ct 223 n 30 [some (.inr (.inr (29, 0))), some (.inl x1), some (.inl x2), some (.inl r4), some (.inl x6), some (.inl x7), some (.inl x6), some (.inl (x7 + 1))] [] g4))
        else
          (am_run ct 223 n 30 [some (.inr (.inr (29, 0))), some (.inl x1), some (.inl x2), some (.inl x3), some (.inl x4), some (.inl x5), some (.inl x6), some (.inl (x7 + 1))] [] g3))))))) := rfl
set_option maxRecDepth 50000 in
theorem eM_greatestWithout_0 (ct : am_T) (n : Nat) (x1 : Int32) (g : am_G) : am_run ct 224 (n + 1) 0 [some (.inr (.inr (29, 0))), some (.inl x1), none, none] [] g =
  am_bi (ct 166 [.inr (.inr (29, 0)), .inl x1] g) (fun r1 g1 =>
  am_bi (ct 179 [.inr (.inr (29, 0)), .inl r1] g1) (fun r2 g2 =>
  am_bi (ct 179 [.inr (.inr (29, 0)), .inl x1] g2) (fun r3 g3 =>
  am_run ct 224 n 12 [some (.inr (.inr (29, 0))), some (.inl x1), some (.inl (r2 - r3)), some (.inl (0 : Int32))] [] g3))) := rfl
set_option maxRecDepth 50000 in
theorem eM_greatestWithout_12 (ct : am_T) (n : Nat) (x1 : Int32) (x2 : Int32) (x3 : Int32) (g : am_G) : am_run ct 224 (n + 1) 12 [some (.inr (.inr (29, 0))), some (.inl x1), some (.inl x2), some (.inl x3)] [] g =
  if (g 142 0 0) ≤ x3 then
    (some (some (.inl x2), g))
  else
    (am_bi (ct 150 [.inr (.inr (29, 0)), .inl x3] g) (fun r1 g1 =>
    if r1 = x1 then
      (am_bi (ct 179 [.inr (.inr (29, 0)), .inl x3] g1) (fun r2 g2 =>
      if r2 ≤ x2 then
        (am_run ct 224 n 12 [some (.inr (.inr (29, 0))), some (.inl x1), some (.inl x2), some (.inl (x3 + 1))] [] g2)
      else
        (am_bi (ct 179 [.inr (.inr (29, 0)), .inl x3] g2) (fun r3 g3 =>
        am_run ct 224 n 12 [some (.inr (.inr (29, 0))), some (.inl x1), some (.inl r3), some (.inl (x3 + 1))] [] g3))))
    else
      (am_run ct 224 n 12 [some (.inr (.inr (29, 0))), some (.inl x1), some (.inl x2), some (.inl (x3 + 1))] [] g1))) := rfl
set_option maxRecDepth 50000 in
theorem eM_midst_0 (ct : am_T) (n : Nat) (x1 : Int32) (g : am_G) : am_run ct 225 (n + 1) 0 [some (.inr (.inr (29, 0))), some (.inl x1), none, none] [] g =
  am_bi (ct 148 [.inr (.inr (29, 0)), .inl x1] (am_put g 131 0 (0 : Int32))) (fun r1 g1 =>
  if r1 = 0 then
    (some (some (.inl (-1 : Int32)), g1))
  else
    (am_run ct 225 n 13 [some (.inr (.inr (29, 0))), some (.inl x1), some (.inl (-1 : Int32)), some (.inl (0 : Int32))] [] g1)) := rfl
set_option maxRecDepth 50000 in
theorem eM_midst_13 (ct : am_T) (n : Nat) (x1 : Int32) (x2 : Int32) (x3 : Int32) (g : am_G) : am_run ct 225 (n + 1) 13 [some (.inr (.inr (29, 0))), some (.inl x1), some (.inl x2), some (.inl x3)] [] g =
  if (g 142 0 0) ≤ x3 then
    (some (some (.inl x2), g))
  else
    (am_bi (ct 167 [.inr (.inr (29, 0)), .inl x3, .inl x1] g) (fun r1 g1 =>
    if r1 = 0 then
      (am_run ct 225 n 13 [some (.inr (.inr (29, 0))), some (.inl x1), some (.inl x2), some (.inl (x3 + 1))] [] g1)
    else
      (if x2 < 0 then
        (am_run ct 225 n 13 [some (.inr (.inr (29, 0))), some (.inl x1), some (.inl x3), some (.inl (x3 + 1))] [] g1)
      else
        (am_bi (ct 224 [.inr (.inr (29, 0)), .inl x3] g1) (fun r2 g2 =>
        am_bi (ct 224 [.inr (.inr (29, 0)), .inl x2] g2) (fun r3 g3 =>
        if r3 ≤ r2 then
          (am_run ct 225 n 13 [some (.inr (.inr (29, 0))), some (.inl x1), some (.inl x2), some (.inl (x3 + 1))] [] g3)
        else
          (am_run ct 225 n 13 [some (.inr (.inr (29, 0))), some (.inl x1), some (.inl x3), some (.inl (x3 + 1))] [] g3))))))) := rfl
set_option maxRecDepth 50000 in
theorem eM_partsOf_0 (ct : am_T) (n : Nat) (x1 : Int32) (g : am_G) : am_run ct 226 (n + 1) 0 [some (.inr (.inr (29, 0))), some (.inl x1), none, none] [] g =
  am_run ct 226 n 4 [some (.inr (.inr (29, 0))), some (.inl x1), some (.inl (0 : Int32)), some (.inl (0 : Int32))] [] g := rfl
set_option maxRecDepth 50000 in
theorem eM_partsOf_4 (ct : am_T) (n : Nat) (x1 : Int32) (x2 : Int32) (x3 : Int32) (g : am_G) : am_run ct 226 (n + 1) 4 [some (.inr (.inr (29, 0))), some (.inl x1), some (.inl x2), some (.inl x3)] [] g =
  if (g 142 0 0) ≤ x3 then
    (some (some (.inl x2), g))
  else
    (am_bi (ct 150 [.inr (.inr (29, 0)), .inl x3] g) (fun r1 g1 =>
    if r1 < 0 then
      (am_run ct 226 n 4 [some (.inr (.inr (29, 0))), some (.inl x1), some (.inl (x2 + (1 : Int32))), some (.inl (x3 + 1))] [] g1)
    else
      (am_bi (ct 141 [.inr (.inr (29, 0)), .inl ((48 : Int32) + x3)] g1) (fun r2 g2 =>
      if r2 ≤ x1 then
        (am_run ct 226 n 4 [some (.inr (.inr (29, 0))), some (.inl x1), some (.inl (x2 + (0 : Int32))), some (.inl (x3 + 1))] [] g2)
      else
        (am_run ct 226 n 4 [some (.inr (.inr (29, 0))), some (.inl x1), some (.inl (x2 + (1 : Int32))), some (.inl (x3 + 1))] [] g2))))) := rfl
set_option maxRecDepth 50000 in
theorem eM_parts_0 (ct : am_T) (n : Nat) (x1 : Int32) (g : am_G) : am_run ct 227 (n + 1) 0 [some (.inr (.inr (29, 0))), some (.inl x1)] [] g =
  am_bi (ct 134 [.inl x1, .inl (0 : Int32), .inl (9999 : Int32)] (am_put g 131 0 (0 : Int32))) (fun r1 g1 =>
  if r1 = 0 then
    (some (some (.inl (-1 : Int32)), g1))
  else
    (am_bi (ct 226 [.inr (.inr (29, 0)), .inl x1] g1) (fun r2 g2 =>
    some (some (.inl r2), g2)))) := rfl
set_option maxRecDepth 50000 in
theorem eM_dearest_0 (ct : am_T) (n : Nat) (x1 : Int32) (g : am_G) : am_run ct 228 (n + 1) 0 [some (.inr (.inr (29, 0))), some (.inl x1), none, none] [] g =
  am_bi (ct 148 [.inr (.inr (29, 0)), .inl x1] (am_put g 131 0 (0 : Int32))) (fun r1 g1 =>
  if r1 = 0 then
    (some (some (.inl (-1 : Int32)), g1))
  else
    (am_run ct 228 n 13 [some (.inr (.inr (29, 0))), some (.inl x1), some (.inl (-2 : Int32)), some (.inl (0 : Int32))] [] g1)) := rfl
set_option maxRecDepth 50000 in
theorem eM_dearest_13 (ct : am_T) (n : Nat) (x1 : Int32) (x2 : Int32) (x3 : Int32) (g : am_G) : am_run ct 228 (n + 1) 13 [some (.inr (.inr (29, 0))), some (.inl x1), some (.inl x2), some (.inl x3)] [] g =
  if (g 142 0 0) ≤ x3 then
    (some (some (.inl x2), g))
  else
    (am_bi (ct 150 [.inr (.inr (29, 0)), .inl x3] g) (fun r1 g1 =>
    if r1 < 0 then
      (am_run ct 228 n 13 [some (.inr (.inr (29, 0))), some (.inl x1), some (.inl x2), some (.inl (x3 + 1))] [] g1)
    else
      (am_bi (ct 167 [.inr (.inr (29, 0)), .inl x3, .inl x1] g1) (fun r2 g2 =>
      if r2 = 0 then
        (am_run ct 228 n 13 [some (.inr (.inr (29, 0))), some (.inl x1), some (.inl x2), some (.inl (x3 + 1))] [] g2)
      else
        (if x2 < 0 then
          (am_run ct 228 n 13 [some (.inr (.inr (29, 0))), some (.inl x1), some (.inl x3), some (.inl (x3 + 1))] [] g2)
        else
          (am_bi (ct 141 [.inr (.inr (29, 0)), .inl ((48 : Int32) + x3)] g2) (fun r3 g3 =>
          am_bi (ct 141 [.inr (.inr (29, 0)), .inl ((48 : Int32) + x2)] g3) (fun r4 g4 =>
          if r3 ≤ r4 then
            (am_run ct 228 n 13 [some (.inr (.inr (29, 0))), some (.inl x1), some (.inl x2), some (.inl (x3 + 1))] [] g4)
          else
            (am_run ct 228 n 13 [some (.inr (.inr (29, 0))), some (.inl x1), some (.inl x3), some (.inl (x3 + 1))] [] g4))))))))) := rfl
set_option maxRecDepth 50000 in
theorem eM_leastFor_0 (ct : am_T) (n : Nat) (x1 : Int32) (g : am_G) : am_run ct 229 (n + 1) 0 [some (.inr (.inr (29, 0))), some (.inl x1), none, none, none] [] g =
  am_bi (ct 134 [.inl x1, .inl (1 : Int32), .inl (24 : Int32)] (am_put g 131 0 (0 : Int32))) (fun r1 g1 =>
  if r1 = 0 then
    (some (some (.inl (-1 : Int32)), g1))
  else
    (am_run ct 229 n 14 [some (.inr (.inr (29, 0))), some (.inl x1), some (.inl (-2 : Int32)), some (.inl (-1 : Int32)), none] [] g1)) := rfl
set_option maxRecDepth 50000 in
theorem eM_leastFor_14 (ct : am_T) (n : Nat) (x1 : Int32) (x2 : Int32) (x3 : Int32) (o4 : Option am_V) (g : am_G) : am_run ct 229 (n + 1) 14 [some (.inr (.inr (29, 0))), some (.inl x1), some (.inl x2), some (.inl x3), o4] [] g =
  if (g 142 0 0) ≤ x3 then
    (some (some (.inl x2), g))
  else
    (if 0 ≤ x3 then
      (am_bi (ct 141 [.inr (.inr (29, 0)), .inl ((48 : Int32) + x3)] g) (fun r1 g1 =>
      if r1 < 0 then
        (am_run ct 229 n 14 [some (.inr (.inr (29, 0))), some (.inl x1), some (.inl x2), some (.inl (x3 + 1)), some (.inl r1)] [] g1)
      else
        (am_bi (ct 226 [.inr (.inr (29, 0)), .inl r1] g1) (fun r2 g2 =>
        if x1 < r2 then
          (am_run ct 229 n 14 [some (.inr (.inr (29, 0))), some (.inl x1), some (.inl x2), some (.inl (x3 + 1)), some (.inl r1)] [] g2)
        else
          (if x2 < 0 then
            (am_run ct 229 n 14 [some (.inr (.inr (29, 0))), some (.inl x1), some (.inl r1), some (.inl (x3 + 1)), some (.inl r1)] [] g2)
          else
            (if x2 ≤ r1 then
              (am_run ct 229 n 14 [some (.inr (.inr (29, 0))), some (.inl x1), some (.inl x2), some (.inl (x3 + 1)), some (.inl r1)] [] g2)
            else
              (am_run ct 229 n 14 [some (.inr (.inr (29, 0))), some (.inl x1), some (.inl r1), some (.inl (x3 + 1)), some (.inl r1)] [] g2)))))))
    else
      (if (0 : Int32) < 0 then
        (am_run ct 229 n 14 [some (.inr (.inr (29, 0))), some (.inl x1), some (.inl x2), some (.inl (x3 + 1)), some (.inl (0 : Int32))] [] g)
      else
        (am_bi (ct 226 [.inr (.inr (29, 0)), .inl (0 : Int32)] g) (fun r3 g3 =>
        if x1 < r3 then
          (am_run ct 229 n 14 [some (.inr (.inr (29, 0))), some (.inl x1), some (.inl x2), some (.inl (x3 + 1)), some (.inl (0 : Int32))] [] g3)
        else
          (if x2 < 0 then
            (am_run ct 229 n 14 [some (.inr (.inr (29, 0))), some (.inl x1), some (.inl (0 : Int32)), some (.inl (x3 + 1)), some (.inl (0 : Int32))] [] g3)
          else
            (if x2 ≤ (0 : Int32) then
              (am_run ct 229 n 14 [some (.inr (.inr (29, 0))), some (.inl x1), some (.inl x2), some (.inl (x3 + 1)), some (.inl (0 : Int32))] [] g3)
            else
              (am_run ct 229 n 14 [some (.inr (.inr (29, 0))), some (.inl x1), some (.inl (0 : Int32)), some (.inl (x3 + 1)), some (.inl (0 : Int32))] [] g3))))))) := rfl
set_option maxRecDepth 50000 in
theorem eM_draw_0 (ct : am_T) (n : Nat) (x1 : Int32) (g : am_G) : am_run ct 230 (n + 1) 0 [some (.inr (.inr (29, 0))), some (.inl x1)] [] g =
  am_run ct 230 n 9 [some (.inr (.inr (29, 0))), some (.inl x1)] [.inr (.inl (((((g 149 0 0).toInt64) * ((1103515245 : Int32).toInt64)) + ((12345 : Int32).toInt64)) &&& ((2147483647 : Int32).toInt64))), .inr (.inr (29, 0))] g := rfl
set_option maxRecDepth 50000 in
theorem eM_draw_9 (ct : am_T) (n : Nat) (x1 : Int32) (s0 : Int64) (g : am_G) : am_run ct 230 (n + 1) 9 [some (.inr (.inr (29, 0))), some (.inl x1)] [.inr (.inl s0), .inr (.inr (29, 0))] g =
  if s0.toInt32.toInt64 = s0 then
    (am_run ct 230 n 10 [some (.inr (.inr (29, 0))), some (.inl x1)] [] (am_put g 149 0 s0.toInt32))
  else none := rfl
set_option maxRecDepth 50000 in
theorem eM_draw_10 (ct : am_T) (n : Nat) (x1 : Int32) (g : am_G) : am_run ct 230 (n + 1) 10 [some (.inr (.inr (29, 0))), some (.inl x1)] [] g =
  if ((65536 : Int32).toInt64) = 0 then none else
  if x1.toInt64 = 0 then none else
  some (some (.inl (((((g 149 0 0).toInt64) / ((65536 : Int32).toInt64)) - (((g 149 0 0).toInt64) / ((65536 : Int32).toInt64)) / x1.toInt64 * x1.toInt64).toInt32)), g) := rfl
set_option maxRecDepth 50000 in
theorem eM_byChance_0 (ct : am_T) (n : Nat)  (g : am_G) : am_run ct 231 (n + 1) 0 [some (.inr (.inr (29, 0))), none, none, none, none] [] g =
  am_bi (ct 230 [.inr (.inr (29, 0)), .inl (4 : Int32)] g) (fun r1 g1 =>
  am_bi (ct 230 [.inr (.inr (29, 0)), .inl (g1 142 0 0)] g1) (fun r2 g2 =>
  am_bi (ct 230 [.inr (.inr (29, 0)), .inl (g2 142 0 0)] g2) (fun r3 g3 =>
  if r1 = 0 then
    (am_bi (ct 169 [.inr (.inr (29, 0)), .inl r2] g3) (fun r13 g13 =>
    some (none, g13)))
  else
    (if r1 = (1 : Int32) then
      (am_bi (ct 170 [.inr (.inr (29, 0)), .inl r2] g3) (fun r12 g12 =>
      some (none, g12)))
    else
      (if r1 = (2 : Int32) then
        (am_bi (ct 167 [.inr (.inr (29, 0)), .inl r2, .inl r3] g3) (fun r9 g9 =>
        if r9 = 0 then
          (am_bi (ct 230 [.inr (.inr (29, 0)), .inl (100 : Int32)] g9) (fun r10 g10 =>
          am_bv (ct 171 [.inr (.inr (29, 0)), .inl r2, .inl r3, .inl (r10 + (1 : Int32)), .inl (1 : Int32)] g10) (fun g11 =>
          some (none, g11))))
        else
          (some (none, g9))))
      else
        (if r2 = r3 then
          (some (none, g3))
        else
          (am_bi (ct 167 [.inr (.inr (29, 0)), .inl r2, .inl r3] g3) (fun r4 g4 =>
          if r4 = 0 then
            (some (none, g4))
          else
            (am_bi (ct 232 [.inr (.inr (29, 0)), .inl r2, .inl r3] g4) (fun r5 g5 =>
            am_bi (ct 233 [.inr (.inr (29, 0)), .inl r5, .inl r2] g5) (fun r6 g6 =>
            am_bi (ct 234 [.inr (.inr (29, 0)), .inl r5, .inl r2] g6) (fun r7 g7 =>
            am_bv (ct 173 [.inr (.inr (29, 0)), .inl r6, .inl r7] g7) (fun g8 =>
            some (none, g8)))))))))))))) := rfl
set_option maxRecDepth 50000 in
theorem eM_dearestFrom_0 (ct : am_T) (n : Nat) (x1 : Int32) (x2 : Int32) (g : am_G) : am_run ct 232 (n + 1) 0 [some (.inr (.inr (29, 0))), some (.inl x1), some (.inl x2), none, none, none, none] [] g =
  am_bi (ct 186 [.inr (.inr (29, 0)), .inl x1, .inl x2] g) (fun r1 g1 =>
  am_run ct 232 n 9 [some (.inr (.inr (29, 0))), some (.inl x1), some (.inl x2), some (.inl r1), some (.inl (-1 : Int32)), some (.inl x1), none] [] g1) := rfl
set_option maxRecDepth 50000 in
theorem eM_dearestFrom_9 (ct : am_T) (n : Nat) (x1 : Int32) (x2 : Int32) (x3 : Int32) (x4 : Int32) (x5 : Int32) (g : am_G) : am_run ct 232 (n + 1) 9 [some (.inr (.inr (29, 0))), some (.inl x1), some (.inl x2), some (.inl x3), some (.inl x4), some (.inl x5), none] [] g =
  if x5 = x3 then
    (am_run ct 232 n 36 [some (.inr (.inr (29, 0))), some (.inl x1), some (.inl x2), some (.inl x3), some (.inl x4), some (.inl (-1 : Int32)), some (.inl x2)] [] g)
  else
    (if x4 < 0 then
      (am_bi (ct 150 [.inr (.inr (29, 0)), .inl x5] g) (fun r1 g1 =>
      am_run ct 232 n 9 [some (.inr (.inr (29, 0))), some (.inl x1), some (.inl x2), some (.inl x3), some (.inl x5), some (.inl r1), none] [] g1))
    else
      (am_bi (ct 141 [.inr (.inr (29, 0)), .inl ((48 : Int32) + x5)] g) (fun r2 g2 =>
      am_bi (ct 141 [.inr (.inr (29, 0)), .inl ((48 : Int32) + x4)] g2) (fun r3 g3 =>
      if r2 ≤ r3 then
        (am_bi (ct 150 [.inr (.inr (29, 0)), .inl x5] g3) (fun r4 g4 =>
        am_run ct 232 n 9 [some (.inr (.inr (29, 0))), some (.inl x1), some (.inl x2), some (.inl x3), some (.inl x4), some (.inl r4), none] [] g4))
      else
        (am_bi (ct 150 [.inr (.inr (29, 0)), .inl x5] g3) (fun r5 g5 =>
        am_run ct 232 n 9 [some (.inr (.inr (29, 0))), some (.inl x1), some (.inl x2), some (.inl x3), some (.inl x5), some (.inl r5), none] [] g5)))))) := rfl
set_option maxRecDepth 50000 in
theorem eM_dearestFrom_36 (ct : am_T) (n : Nat) (x1 : Int32) (x2 : Int32) (x3 : Int32) (x4 : Int32) (x5 : Int32) (x6 : Int32) (g : am_G) : am_run ct 232 (n + 1) 36 [some (.inr (.inr (29, 0))), some (.inl x1), some (.inl x2), some (.inl x3), some (.inl x4), some (.inl x5), some (.inl x6)] [] g =
  if x6 = x3 then
    (if x4 < 0 then
      (some (some (.inl x5), g))
    else
      (if x5 < 0 then
        (some (some (.inl x4), g))
      else
        (am_bi (ct 141 [.inr (.inr (29, 0)), .inl ((48 : Int32) + x5)] g) (fun r1 g1 =>
        am_bi (ct 141 [.inr (.inr (29, 0)), .inl ((48 : Int32) + x4)] g1) (fun r2 g2 =>
        if r1 ≤ r2 then
          (some (some (.inl x4), g2))
        else
          (some (some (.inl x5), g2)))))))
  else
    (if x5 < 0 then
      (am_bi (ct 150 [.inr (.inr (29, 0)), .inl x6] g) (fun r3 g3 =>
      am_run ct 232 n 36 [some (.inr (.inr (29, 0))), some (.inl x1), some (.inl x2), some (.inl x3), some (.inl x4), some (.inl x6), some (.inl r3)] [] g3))
    else
      (am_bi (ct 141 [.inr (.inr (29, 0)), .inl ((48 : Int32) + x6)] g) (fun r4 g4 =>
      am_bi (ct 141 [.inr (.inr (29, 0)), .inl ((48 : Int32) + x5)] g4) (fun r5 g5 =>
      if r4 < r5 then
        (am_bi (ct 150 [.inr (.inr (29, 0)), .inl x6] g5) (fun r6 g6 =>
        am_run ct 232 n 36 [some (.inr (.inr (29, 0))), some (.inl x1), some (.inl x2), some (.inl x3), some (.inl x4), some (.inl x5), some (.inl r6)] [] g6))
      else
        (am_bi (ct 150 [.inr (.inr (29, 0)), .inl x6] g5) (fun r7 g7 =>
        am_run ct 232 n 36 [some (.inr (.inr (29, 0))), some (.inl x1), some (.inl x2), some (.inl x3), some (.inl x4), some (.inl x6), some (.inl r7)] [] g7)))))) := rfl
set_option maxRecDepth 50000 in
theorem eM_nearer_0 (ct : am_T) (n : Nat) (x1 : Int32) (x2 : Int32) (g : am_G) : am_run ct 233 (n + 1) 0 [some (.inr (.inr (29, 0))), some (.inl x1), some (.inl x2)] [] g =
  am_bi (ct 180 [.inr (.inr (29, 0)), .inl x1, .inl x2] g) (fun r1 g1 =>
  if r1 = 0 then
    (am_bi (ct 150 [.inr (.inr (29, 0)), .inl x1] g1) (fun r2 g2 =>
    some (some (.inl r2), g2)))
  else
    (some (some (.inl x1), g1))) := rfl
set_option maxRecDepth 50000 in
theorem eM_further_0 (ct : am_T) (n : Nat) (x1 : Int32) (x2 : Int32) (g : am_G) : am_run ct 234 (n + 1) 0 [some (.inr (.inr (29, 0))), some (.inl x1), some (.inl x2)] [] g =
  am_bi (ct 180 [.inr (.inr (29, 0)), .inl x1, .inl x2] g) (fun r1 g1 =>
  if r1 = 0 then
    (some (some (.inl x1), g1))
  else
    (am_bi (ct 150 [.inr (.inr (29, 0)), .inl x1] g1) (fun r2 g2 =>
    some (some (.inl r2), g2)))) := rfl
set_option maxRecDepth 50000 in
theorem eM_trees_0 (ct : am_T) (n : Nat)  (g : am_G) : am_run ct 235 (n + 1) 0 [some (.inr (.inr (29, 0)))] [] g =
  am_bi (ct 226 [.inr (.inr (29, 0)), .inl (9999 : Int32)] g) (fun r1 g1 =>
  some (some (.inl r1), g1)) := rfl
set_option maxRecDepth 50000 in
theorem eM_chance_0 (ct : am_T) (n : Nat) (x1 : Int32) (x2 : Int32) (x3 : Int32) (g : am_G) : am_run ct 236 (n + 1) 0 [some (.inr (.inr (29, 0))), some (.inl x1), some (.inl x2), some (.inl x3), none] [] g =
  if x1 < (-1 : Int32) then
    (some (some (.inl (-1 : Int32)), am_put g 131 0 (0 : Int32)))
  else
    (am_bi (ct 134 [.inl x2, .inl (1 : Int32), .inl (60 : Int32)] (am_put g 131 0 (0 : Int32))) (fun r1 g1 =>
    if r1 = 0 then
      (some (some (.inl (-1 : Int32)), g1))
    else
      (am_bi (ct 134 [.inl x3, .inl (0 : Int32), .inl (3 : Int32)] g1) (fun r2 g2 =>
      if r2 = 0 then
        (some (some (.inl (-1 : Int32)), g2))
      else
        (if (g2 142 0 0) = 0 then
          (some (some (.inl (-1 : Int32)), g2))
        else
          (if 0 ≤ x1 then
            (if x1.toInt64.toInt32.toInt64 = x1.toInt64 then
              (am_bv (ct 143 [.inr (.inr (29, 0)), .inl (0 : Int32), .inl (1 : Int32)] (am_put g2 149 0 x1.toInt64.toInt32)) (fun g3 =>
            am_run ct 236 n 40 [some (.inr (.inr (29, 0))), some (.inl x1), some (.inl x2), some (.inl x3), some (.inl (0 : Int32))] [] (am_put g3 139 0 (1 : Int32))))
            else none)
          else
            (if ((g2 143 0 0).toInt64).toInt32.toInt64 = ((g2 143 0 0).toInt64) then
              (am_bv (ct 143 [.inr (.inr (29, 0)), .inl (0 : Int32), .inl (1 : Int32)] (am_put g2 149 0 ((g2 143 0 0).toInt64).toInt32)) (fun g4 =>
            am_run ct 236 n 40 [some (.inr (.inr (29, 0))), some (.inl x1), some (.inl x2), some (.inl x3), some (.inl (0 : Int32))] [] (am_put g4 139 0 (1 : Int32))))
            else none))))))) := rfl
set_option maxRecDepth 50000 in
theorem eM_chance_40 (ct : am_T) (n : Nat) (x1 : Int32) (x2 : Int32) (x3 : Int32) (x4 : Int32) (g : am_G) : am_run ct 236 (n + 1) 40 [some (.inr (.inr (29, 0))), some (.inl x1), some (.inl x2), some (.inl x3), some (.inl x4)] [] g =
  if x2 ≤ x4 then
    (if x3 = 0 then
      (am_bi (ct 235 [.inr (.inr (29, 0))] g) (fun r7 g7 =>
      if x3 = (1 : Int32) then
        (am_bi (ct 141 [.inr (.inr (29, 0)), .inl (120 : Int32)] (am_put g7 139 0 (0 : Int32))) (fun r8 g8 =>
        some (some (.inl (r7 - r8)), g8)))
      else
        (some (some (.inl r7), am_put g7 139 0 (0 : Int32)))))
    else
      (if x3 = (1 : Int32) then
        (am_bi (ct 141 [.inr (.inr (29, 0)), .inl (120 : Int32)] g) (fun r5 g5 =>
        if x3 = (1 : Int32) then
          (am_bi (ct 141 [.inr (.inr (29, 0)), .inl (120 : Int32)] (am_put g5 139 0 (0 : Int32))) (fun r6 g6 =>
          some (some (.inl (r5 - r6)), g6)))
        else
          (some (some (.inl r5), am_put g5 139 0 (0 : Int32)))))
      else
        (if x3 = (2 : Int32) then
          (am_bi (ct 220 [.inr (.inr (29, 0))] g) (fun r3 g3 =>
          if x3 = (1 : Int32) then
            (am_bi (ct 141 [.inr (.inr (29, 0)), .inl (120 : Int32)] (am_put g3 139 0 (0 : Int32))) (fun r4 g4 =>
            some (some (.inl (r3 - r4)), g4)))
          else
            (some (some (.inl r3), am_put g3 139 0 (0 : Int32)))))
        else
          (am_bi (ct 166 [.inr (.inr (29, 0)), .inl (0 : Int32)] g) (fun r1 g1 =>
          if x3 = (1 : Int32) then
            (am_bi (ct 141 [.inr (.inr (29, 0)), .inl (120 : Int32)] (am_put g1 139 0 (0 : Int32))) (fun r2 g2 =>
            some (some (.inl (r1 - r2)), g2)))
          else
            (some (some (.inl r1), am_put g1 139 0 (0 : Int32))))))))
  else
    (am_bv (ct 231 [.inr (.inr (29, 0))] g) (fun g9 =>
    am_run ct 236 n 40 [some (.inr (.inr (29, 0))), some (.inl x1), some (.inl x2), some (.inl x3), some (.inl (x4 + 1))] [] g9)) := rfl
set_option maxRecDepth 50000 in
theorem eM_count_0 (ct : am_T) (n : Nat) (x1 : Int32) (g : am_G) : am_run ct 237 (n + 1) 0 [some (.inr (.inr (29, 0))), some (.inl x1), none, none] [] g =
  if x1 = 0 then
    (some (some (.inl ((am_put g 131 0 (0 : Int32)) 142 0 0)), am_put g 131 0 (0 : Int32)))
  else if x1 = 1 then
    (am_bi (ct 235 [.inr (.inr (29, 0))] (am_put g 131 0 (0 : Int32))) (fun r1 g1 =>
    some (some (.inl (((am_put g 131 0 (0 : Int32)) 142 0 0) - r1)), g1)))
  else if x1 = 2 then
    (am_bi (ct 235 [.inr (.inr (29, 0))] (am_put g 131 0 (0 : Int32))) (fun r2 g2 =>
    some (some (.inl r2), g2)))
  else if x1 = 3 then
    (am_run ct 237 n 21 [some (.inr (.inr (29, 0))), some (.inl x1), some (.inl (0 : Int32)), some (.inl (0 : Int32))] [] (am_put g 131 0 (0 : Int32)))
  else if x1 = 4 then
    (am_bi (ct 141 [.inr (.inr (29, 0)), .inl (120 : Int32)] (am_put g 131 0 (0 : Int32))) (fun r3 g3 =>
    some (some (.inl r3), g3)))
  else if x1 = 5 then
    (some (some (.inl ((am_put g 131 0 (0 : Int32)) 140 0 0)), am_put g 131 0 (0 : Int32)))
  else if x1 = 6 then
    (some (some (.inl ((am_put g 131 0 (0 : Int32)) 130 0 0)), am_put g 131 0 (0 : Int32)))
  else (some (some (.inl (-1 : Int32)), am_put g 131 0 (0 : Int32))) := rfl
set_option maxRecDepth 50000 in
theorem eM_count_21 (ct : am_T) (n : Nat) (x1 : Int32) (x2 : Int32) (x3 : Int32) (g : am_G) : am_run ct 237 (n + 1) 21 [some (.inr (.inr (29, 0))), some (.inl x1), some (.inl x2), some (.inl x3)] [] g =
  if (g 142 0 0) ≤ x3 then
    (some (some (.inl x2), g))
  else
    (am_bi (ct 200 [.inr (.inr (29, 0)), .inl x3] g) (fun r1 g1 =>
    if r1 = 0 then
      (am_run ct 237 n 21 [some (.inr (.inr (29, 0))), some (.inl x1), some (.inl (x2 + (0 : Int32))), some (.inl (x3 + 1))] [] g1)
    else
      (am_run ct 237 n 21 [some (.inr (.inr (29, 0))), some (.inl x1), some (.inl (x2 + (1 : Int32))), some (.inl (x3 + 1))] [] g1))) := rfl
