/-! ===== what a run from a cut is: by wip/whole/write.py ===== -/
set_option maxRecDepth 50000 in
theorem eF_clear_0 (ct : am_T) (n : Nat) (i : Nat) (g : am_G) : am_run ct 0 (n + 1) 0 [some (.inr (.inr (1, i)))] [] g =
  some (none, am_put (am_put g 102 i (0 : Int32)) 103 i (0 : Int32)) := rfl
set_option maxRecDepth 50000 in
theorem eF_copyFrom_0 (ct : am_T) (n : Nat) (i j : Nat) (g : am_G) : am_run ct 1 (n + 1) 0 [some (.inr (.inr (1, i))), some (.inr (.inr (1, j)))] [] g =
  some (none, am_put (am_put (am_set (am_set (am_set (am_set (am_set g 2 i (va_cpy (g 2 j) (g 2 i) 0 0 24)) 3 i (va_cpy ((am_set g 2 i (va_cpy (g 2 j) (g 2 i) 0 0 24)) 3 j) ((am_set g 2 i (va_cpy (g 2 j) (g 2 i) 0 0 24)) 3 i) 0 0 24)) 4 i (va_cpy ((am_set (am_set g 2 i (va_cpy (g 2 j) (g 2 i) 0 0 24)) 3 i (va_cpy ((am_set g 2 i (va_cpy (g 2 j) (g 2 i) 0 0 24)) 3 j) ((am_set g 2 i (va_cpy (g 2 j) (g 2 i) 0 0 24)) 3 i) 0 0 24)) 4 j) ((am_set (am_set g 2 i (va_cpy (g 2 j) (g 2 i) 0 0 24)) 3 i (va_cpy ((am_set g 2 i (va_cpy (g 2 j) (g 2 i) 0 0 24)) 3 j) ((am_set g 2 i (va_cpy (g 2 j) (g 2 i) 0 0 24)) 3 i) 0 0 24)) 4 i) 0 0 24)) 5 i (va_cpy ((am_set (am_set (am_set g 2 i (va_cpy (g 2 j) (g 2 i) 0 0 24)) 3 i (va_cpy ((am_set g 2 i (va_cpy (g 2 j) (g 2 i) 0 0 24)) 3 j) ((am_set g 2 i (va_cpy (g 2 j) (g 2 i) 0 0 24)) 3 i) 0 0 24)) 4 i (va_cpy ((am_set (am_set g 2 i (va_cpy (g 2 j) (g 2 i) 0 0 24)) 3 i (va_cpy ((am_set g 2 i (va_cpy (g 2 j) (g 2 i) 0 0 24)) 3 j) ((am_set g 2 i (va_cpy (g 2 j) (g 2 i) 0 0 24)) 3 i) 0 0 24)) 4 j) ((am_set (am_set g 2 i (va_cpy (g 2 j) (g 2 i) 0 0 24)) 3 i (va_cpy ((am_set g 2 i (va_cpy (g 2 j) (g 2 i) 0 0 24)) 3 j) ((am_set g 2 i (va_cpy (g 2 j) (g 2 i) 0 0 24)) 3 i) 0 0 24)) 4 i) 0 0 24)) 5 j) ((am_set (am_set (am_set g 2 i (va_cpy (g 2 j) (g 2 i) 0 0 24)) 3 i (va_cpy ((am_set g 2 i (va_cpy (g 2 j) (g 2 i) 0 0 24)) 3 j) ((am_set g 2 i (va_cpy (g 2 j) (g 2 i) 0 0 24)) 3 i) 0 0 24)) 4 i (va_cpy ((am_set (am_set g 2 i (va_cpy (g 2 j) (g 2 i) 0 0 24)) 3 i (va_cpy ((am_set g 2 i (va_cpy (g 2 j) (g 2 i) 0 0 24)) 3 j) ((am_set g 2 i (va_cpy (g 2 j) (g 2 i) 0 0 24)) 3 i) 0 0 24)) 4 j) ((am_set (am_set g 2 i (va_cpy (g 2 j) (g 2 i) 0 0 24)) 3 i (va_cpy ((am_set g 2 i (va_cpy (g 2 j) (g 2 i) 0 0 24)) 3 j) ((am_set g 2 i (va_cpy (g 2 j) (g 2 i) 0 0 24)) 3 i) 0 0 24)) 4 i) 0 0 24)) 5 i) 0 0 24)) 6 i (va_cpy ((am_set (am_set (am_set (am_set g 2 i (va_cpy (g 2 j) (g 2 i) 0 0 24)) 3 i (va_cpy ((am_set g 2 i (va_cpy (g 2 j) (g 2 i) 0 0 24)) 3 j) ((am_set g 2 i (va_cpy (g 2 j) (g 2 i) 0 0 24)) 3 i) 0 0 24)) 4 i (va_cpy ((am_set (am_set g 2 i (va_cpy (g 2 j) (g 2 i) 0 0 24)) 3 i (va_cpy ((am_set g 2 i (va_cpy (g 2 j) (g 2 i) 0 0 24)) 3 j) ((am_set g 2 i (va_cpy (g 2 j) (g 2 i) 0 0 24)) 3 i) 0 0 24)) 4 j) ((am_set (am_set g 2 i (va_cpy (g 2 j) (g 2 i) 0 0 24)) 3 i (va_cpy ((am_set g 2 i (va_cpy (g 2 j) (g 2 i) 0 0 24)) 3 j) ((am_set g 2 i (va_cpy (g 2 j) (g 2 i) 0 0 24)) 3 i) 0 0 24)) 4 i) 0 0 24)) 5 i (va_cpy ((am_set (am_set (am_set g 2 i (va_cpy (g 2 j) (g 2 i) 0 0 24)) 3 i (va_cpy ((am_set g 2 i (va_cpy (g 2 j) (g 2 i) 0 0 24)) 3 j) ((am_set g 2 i (va_cpy (g 2 j) (g 2 i) 0 0 24)) 3 i) 0 0 24)) 4 i (va_cpy ((am_set (am_set g 2 i (va_cpy (g 2 j) (g 2 i) 0 0 24)) 3 i (va_cpy ((am_set g 2 i (va_cpy (g 2 j) (g 2 i) 0 0 24)) 3 j) ((am_set g 2 i (va_cpy (g 2 j) (g 2 i) 0 0 24)) 3 i) 0 0 24)) 4 j) ((am_set (am_set g 2 i (va_cpy (g 2 j) (g 2 i) 0 0 24)) 3 i (va_cpy ((am_set g 2 i (va_cpy (g 2 j) (g 2 i) 0 0 24)) 3 j) ((am_set g 2 i (va_cpy (g 2 j) (g 2 i) 0 0 24)) 3 i) 0 0 24)) 4 i) 0 0 24)) 5 j) ((am_set (am_set (am_set g 2 i (va_cpy (g 2 j) (g 2 i) 0 0 24)) 3 i (va_cpy ((am_set g 2 i (va_cpy (g 2 j) (g 2 i) 0 0 24)) 3 j) ((am_set g 2 i (va_cpy (g 2 j) (g 2 i) 0 0 24)) 3 i) 0 0 24)) 4 i (va_cpy ((am_set (am_set g 2 i (va_cpy (g 2 j) (g 2 i) 0 0 24)) 3 i (va_cpy ((am_set g 2 i (va_cpy (g 2 j) (g 2 i) 0 0 24)) 3 j) ((am_set g 2 i (va_cpy (g 2 j) (g 2 i) 0 0 24)) 3 i) 0 0 24)) 4 j) ((am_set (am_set g 2 i (va_cpy (g 2 j) (g 2 i) 0 0 24)) 3 i (va_cpy ((am_set g 2 i (va_cpy (g 2 j) (g 2 i) 0 0 24)) 3 j) ((am_set g 2 i (va_cpy (g 2 j) (g 2 i) 0 0 24)) 3 i) 0 0 24)) 4 i) 0 0 24)) 5 i) 0 0 24)) 6 j) ((am_set (am_set (am_set (am_set g 2 i (va_cpy (g 2 j) (g 2 i) 0 0 24)) 3 i (va_cpy ((am_set g 2 i (va_cpy (g 2 j) (g 2 i) 0 0 24)) 3 j) ((am_set g 2 i (va_cpy (g 2 j) (g 2 i) 0 0 24)) 3 i) 0 0 24)) 4 i (va_cpy ((am_set (am_set g 2 i (va_cpy (g 2 j) (g 2 i) 0 0 24)) 3 i (va_cpy ((am_set g 2 i (va_cpy (g 2 j) (g 2 i) 0 0 24)) 3 j) ((am_set g 2 i (va_cpy (g 2 j) (g 2 i) 0 0 24)) 3 i) 0 0 24)) 4 j) ((am_set (am_set g 2 i (va_cpy (g 2 j) (g 2 i) 0 0 24)) 3 i (va_cpy ((am_set g 2 i (va_cpy (g 2 j) (g 2 i) 0 0 24)) 3 j) ((am_set g 2 i (va_cpy (g 2 j) (g 2 i) 0 0 24)) 3 i) 0 0 24)) 4 i) 0 0 24)) 5 i (va_cpy ((am_set (am_set (am_set g 2 i (va_cpy (g 2 j) (g 2 i) 0 0 24)) 3 i (va_cpy ((am_set g 2 i (va_cpy (g 2 j) (g 2 i) 0 0 24)) 3 j) ((am_set g 2 i (va_cpy (g 2 j) (g 2 i) 0 0 24)) 3 i) 0 0 24)) 4 i (va_cpy ((am_set (am_set g 2 i (va_cpy (g 2 j) (g 2 i) 0 0 24)) 3 i (va_cpy ((am_set g 2 i (va_cpy (g 2 j) (g 2 i) 0 0 24)) 3 j) ((am_set g 2 i (va_cpy (g 2 j) (g 2 i) 0 0 24)) 3 i) 0 0 24)) 4 j) ((am_set (am_set g 2 i (va_cpy (g 2 j) (g 2 i) 0 0 24)) 3 i (va_cpy ((am_set g 2 i (va_cpy (g 2 j) (g 2 i) 0 0 24)) 3 j) ((am_set g 2 i (va_cpy (g 2 j) (g 2 i) 0 0 24)) 3 i) 0 0 24)) 4 i) 0 0 24)) 5 j) ((am_set (am_set (am_set g 2 i (va_cpy (g 2 j) (g 2 i) 0 0 24)) 3 i (va_cpy ((am_set g 2 i (va_cpy (g 2 j) (g 2 i) 0 0 24)) 3 j) ((am_set g 2 i (va_cpy (g 2 j) (g 2 i) 0 0 24)) 3 i) 0 0 24)) 4 i (va_cpy ((am_set (am_set g 2 i (va_cpy (g 2 j) (g 2 i) 0 0 24)) 3 i (va_cpy ((am_set g 2 i (va_cpy (g 2 j) (g 2 i) 0 0 24)) 3 j) ((am_set g 2 i (va_cpy (g 2 j) (g 2 i) 0 0 24)) 3 i) 0 0 24)) 4 j) ((am_set (am_set g 2 i (va_cpy (g 2 j) (g 2 i) 0 0 24)) 3 i (va_cpy ((am_set g 2 i (va_cpy (g 2 j) (g 2 i) 0 0 24)) 3 j) ((am_set g 2 i (va_cpy (g 2 j) (g 2 i) 0 0 24)) 3 i) 0 0 24)) 4 i) 0 0 24)) 5 i) 0 0 24)) 6 i) 0 0 24)) 102 i ((am_set (am_set (am_set (am_set (am_set g 2 i (va_cpy (g 2 j) (g 2 i) 0 0 24)) 3 i (va_cpy ((am_set g 2 i (va_cpy (g 2 j) (g 2 i) 0 0 24)) 3 j) ((am_set g 2 i (va_cpy (g 2 j) (g 2 i) 0 0 24)) 3 i) 0 0 24)) 4 i (va_cpy ((am_set (am_set g 2 i (va_cpy (g 2 j) (g 2 i) 0 0 24)) 3 i (va_cpy ((am_set g 2 i (va_cpy (g 2 j) (g 2 i) 0 0 24)) 3 j) ((am_set g 2 i (va_cpy (g 2 j) (g 2 i) 0 0 24)) 3 i) 0 0 24)) 4 j) ((am_set (am_set g 2 i (va_cpy (g 2 j) (g 2 i) 0 0 24)) 3 i (va_cpy ((am_set g 2 i (va_cpy (g 2 j) (g 2 i) 0 0 24)) 3 j) ((am_set g 2 i (va_cpy (g 2 j) (g 2 i) 0 0 24)) 3 i) 0 0 24)) 4 i) 0 0 24)) 5 i (va_cpy ((am_set (am_set (am_set g 2 i (va_cpy (g 2 j) (g 2 i) 0 0 24)) 3 i (va_cpy ((am_set g 2 i (va_cpy (g 2 j) (g 2 i) 0 0 24)) 3 j) ((am_set g 2 i (va_cpy (g 2 j) (g 2 i) 0 0 24)) 3 i) 0 0 24)) 4 i (va_cpy ((am_set (am_set g 2 i (va_cpy (g 2 j) (g 2 i) 0 0 24)) 3 i (va_cpy ((am_set g 2 i (va_cpy (g 2 j) (g 2 i) 0 0 24)) 3 j) ((am_set g 2 i (va_cpy (g 2 j) (g 2 i) 0 0 24)) 3 i) 0 0 24)) 4 j) ((am_set (am_set g 2 i (va_cpy (g 2 j) (g 2 i) 0 0 24)) 3 i (va_cpy ((am_set g 2 i (va_cpy (g 2 j) (g 2 i) 0 0 24)) 3 j) ((am_set g 2 i (va_cpy (g 2 j) (g 2 i) 0 0 24)) 3 i) 0 0 24)) 4 i) 0 0 24)) 5 j) ((am_set (am_set (am_set g 2 i (va_cpy (g 2 j) (g 2 i) 0 0 24)) 3 i (va_cpy ((am_set g 2 i (va_cpy (g 2 j) (g 2 i) 0 0 24)) 3 j) ((am_set g 2 i (va_cpy (g 2 j) (g 2 i) 0 0 24)) 3 i) 0 0 24)) 4 i (va_cpy ((am_set (am_set g 2 i (va_cpy (g 2 j) (g 2 i) 0 0 24)) 3 i (va_cpy ((am_set g 2 i (va_cpy (g 2 j) (g 2 i) 0 0 24)) 3 j) ((am_set g 2 i (va_cpy (g 2 j) (g 2 i) 0 0 24)) 3 i) 0 0 24)) 4 j) ((am_set (am_set g 2 i (va_cpy (g 2 j) (g 2 i) 0 0 24)) 3 i (va_cpy ((am_set g 2 i (va_cpy (g 2 j) (g 2 i) 0 0 24)) 3 j) ((am_set g 2 i (va_cpy (g 2 j) (g 2 i) 0 0 24)) 3 i) 0 0 24)) 4 i) 0 0 24)) 5 i) 0 0 24)) 6 i (va_cpy ((am_set (am_set (am_set (am_set g 2 i (va_cpy (g 2 j) (g 2 i) 0 0 24)) 3 i (va_cpy ((am_set g 2 i (va_cpy (g 2 j) (g 2 i) 0 0 24)) 3 j) ((am_set g 2 i (va_cpy (g 2 j) (g 2 i) 0 0 24)) 3 i) 0 0 24)) 4 i (va_cpy ((am_set (am_set g 2 i (va_cpy (g 2 j) (g 2 i) 0 0 24)) 3 i (va_cpy ((am_set g 2 i (va_cpy (g 2 j) (g 2 i) 0 0 24)) 3 j) ((am_set g 2 i (va_cpy (g 2 j) (g 2 i) 0 0 24)) 3 i) 0 0 24)) 4 j) ((am_set (am_set g 2 i (va_cpy (g 2 j) (g 2 i) 0 0 24)) 3 i (va_cpy ((am_set g 2 i (va_cpy (g 2 j) (g 2 i) 0 0 24)) 3 j) ((am_set g 2 i (va_cpy (g 2 j) (g 2 i) 0 0 24)) 3 i) 0 0 24)) 4 i) 0 0 24)) 5 i (va_cpy ((am_set (am_set (am_set g 2 i (va_cpy (g 2 j) (g 2 i) 0 0 24)) 3 i (va_cpy ((am_set g 2 i (va_cpy (g 2 j) (g 2 i) 0 0 24)) 3 j) ((am_set g 2 i (va_cpy (g 2 j) (g 2 i) 0 0 24)) 3 i) 0 0 24)) 4 i (va_cpy ((am_set (am_set g 2 i (va_cpy (g 2 j) (g 2 i) 0 0 24)) 3 i (va_cpy ((am_set g 2 i (va_cpy (g 2 j) (g 2 i) 0 0 24)) 3 j) ((am_set g 2 i (va_cpy (g 2 j) (g 2 i) 0 0 24)) 3 i) 0 0 24)) 4 j) ((am_set (am_set g 2 i (va_cpy (g 2 j) (g 2 i) 0 0 24)) 3 i (va_cpy ((am_set g 2 i (va_cpy (g 2 j) (g 2 i) 0 0 24)) 3 j) ((am_set g 2 i (va_cpy (g 2 j) (g 2 i) 0 0 24)) 3 i) 0 0 24)) 4 i) 0 0 24)) 5 j) ((am_set (am_set (am_set g 2 i (va_cpy (g 2 j) (g 2 i) 0 0 24)) 3 i (va_cpy ((am_set g 2 i (va_cpy (g 2 j) (g 2 i) 0 0 24)) 3 j) ((am_set g 2 i (va_cpy (g 2 j) (g 2 i) 0 0 24)) 3 i) 0 0 24)) 4 i (va_cpy ((am_set (am_set g 2 i (va_cpy (g 2 j) (g 2 i) 0 0 24)) 3 i (va_cpy ((am_set g 2 i (va_cpy (g 2 j) (g 2 i) 0 0 24)) 3 j) ((am_set g 2 i (va_cpy (g 2 j) (g 2 i) 0 0 24)) 3 i) 0 0 24)) 4 j) ((am_set (am_set g 2 i (va_cpy (g 2 j) (g 2 i) 0 0 24)) 3 i (va_cpy ((am_set g 2 i (va_cpy (g 2 j) (g 2 i) 0 0 24)) 3 j) ((am_set g 2 i (va_cpy (g 2 j) (g 2 i) 0 0 24)) 3 i) 0 0 24)) 4 i) 0 0 24)) 5 i) 0 0 24)) 6 j) ((am_set (am_set (am_set (am_set g 2 i (va_cpy (g 2 j) (g 2 i) 0 0 24)) 3 i (va_cpy ((am_set g 2 i (va_cpy (g 2 j) (g 2 i) 0 0 24)) 3 j) ((am_set g 2 i (va_cpy (g 2 j) (g 2 i) 0 0 24)) 3 i) 0 0 24)) 4 i (va_cpy ((am_set (am_set g 2 i (va_cpy (g 2 j) (g 2 i) 0 0 24)) 3 i (va_cpy ((am_set g 2 i (va_cpy (g 2 j) (g 2 i) 0 0 24)) 3 j) ((am_set g 2 i (va_cpy (g 2 j) (g 2 i) 0 0 24)) 3 i) 0 0 24)) 4 j) ((am_set (am_set g 2 i (va_cpy (g 2 j) (g 2 i) 0 0 24)) 3 i (va_cpy ((am_set g 2 i (va_cpy (g 2 j) (g 2 i) 0 0 24)) 3 j) ((am_set g 2 i (va_cpy (g 2 j) (g 2 i) 0 0 24)) 3 i) 0 0 24)) 4 i) 0 0 24)) 5 i (va_cpy ((am_set (am_set (am_set g 2 i (va_cpy (g 2 j) (g 2 i) 0 0 24)) 3 i (va_cpy ((am_set g 2 i (va_cpy (g 2 j) (g 2 i) 0 0 24)) 3 j) ((am_set g 2 i (va_cpy (g 2 j) (g 2 i) 0 0 24)) 3 i) 0 0 24)) 4 i (va_cpy ((am_set (am_set g 2 i (va_cpy (g 2 j) (g 2 i) 0 0 24)) 3 i (va_cpy ((am_set g 2 i (va_cpy (g 2 j) (g 2 i) 0 0 24)) 3 j) ((am_set g 2 i (va_cpy (g 2 j) (g 2 i) 0 0 24)) 3 i) 0 0 24)) 4 j) ((am_set (am_set g 2 i (va_cpy (g 2 j) (g 2 i) 0 0 24)) 3 i (va_cpy ((am_set g 2 i (va_cpy (g 2 j) (g 2 i) 0 0 24)) 3 j) ((am_set g 2 i (va_cpy (g 2 j) (g 2 i) 0 0 24)) 3 i) 0 0 24)) 4 i) 0 0 24)) 5 j) ((am_set (am_set (am_set g 2 i (va_cpy (g 2 j) (g 2 i) 0 0 24)) 3 i (va_cpy ((am_set g 2 i (va_cpy (g 2 j) (g 2 i) 0 0 24)) 3 j) ((am_set g 2 i (va_cpy (g 2 j) (g 2 i) 0 0 24)) 3 i) 0 0 24)) 4 i (va_cpy ((am_set (am_set g 2 i (va_cpy (g 2 j) (g 2 i) 0 0 24)) 3 i (va_cpy ((am_set g 2 i (va_cpy (g 2 j) (g 2 i) 0 0 24)) 3 j) ((am_set g 2 i (va_cpy (g 2 j) (g 2 i) 0 0 24)) 3 i) 0 0 24)) 4 j) ((am_set (am_set g 2 i (va_cpy (g 2 j) (g 2 i) 0 0 24)) 3 i (va_cpy ((am_set g 2 i (va_cpy (g 2 j) (g 2 i) 0 0 24)) 3 j) ((am_set g 2 i (va_cpy (g 2 j) (g 2 i) 0 0 24)) 3 i) 0 0 24)) 4 i) 0 0 24)) 5 i) 0 0 24)) 6 i) 0 0 24)) 102 j 0)) 103 i ((am_put (am_set (am_set (am_set (am_set (am_set g 2 i (va_cpy (g 2 j) (g 2 i) 0 0 24)) 3 i (va_cpy ((am_set g 2 i (va_cpy (g 2 j) (g 2 i) 0 0 24)) 3 j) ((am_set g 2 i (va_cpy (g 2 j) (g 2 i) 0 0 24)) 3 i) 0 0 24)) 4 i (va_cpy ((am_set (am_set g 2 i (va_cpy (g 2 j) (g 2 i) 0 0 24)) 3 i (va_cpy ((am_set g 2 i (va_cpy (g 2 j) (g 2 i) 0 0 24)) 3 j) ((am_set g 2 i (va_cpy (g 2 j) (g 2 i) 0 0 24)) 3 i) 0 0 24)) 4 j) ((am_set (am_set g 2 i (va_cpy (g 2 j) (g 2 i) 0 0 24)) 3 i (va_cpy ((am_set g 2 i (va_cpy (g 2 j) (g 2 i) 0 0 24)) 3 j) ((am_set g 2 i (va_cpy (g 2 j) (g 2 i) 0 0 24)) 3 i) 0 0 24)) 4 i) 0 0 24)) 5 i (va_cpy ((am_set (am_set (am_set g 2 i (va_cpy (g 2 j) (g 2 i) 0 0 24)) 3 i (va_cpy ((am_set g 2 i (va_cpy (g 2 j) (g 2 i) 0 0 24)) 3 j) ((am_set g 2 i (va_cpy (g 2 j) (g 2 i) 0 0 24)) 3 i) 0 0 24)) 4 i (va_cpy ((am_set (am_set g 2 i (va_cpy (g 2 j) (g 2 i) 0 0 24)) 3 i (va_cpy ((am_set g 2 i (va_cpy (g 2 j) (g 2 i) 0 0 24)) 3 j) ((am_set g 2 i (va_cpy (g 2 j) (g 2 i) 0 0 24)) 3 i) 0 0 24)) 4 j) ((am_set (am_set g 2 i (va_cpy (g 2 j) (g 2 i) 0 0 24)) 3 i (va_cpy ((am_set g 2 i (va_cpy (g 2 j) (g 2 i) 0 0 24)) 3 j) ((am_set g 2 i (va_cpy (g 2 j) (g 2 i) 0 0 24)) 3 i) 0 0 24)) 4 i) 0 0 24)) 5 j) ((am_set (am_set (am_set g 2 i (va_cpy (g 2 j) (g 2 i) 0 0 24)) 3 i (va_cpy ((am_set g 2 i (va_cpy (g 2 j) (g 2 i) 0 0 24)) 3 j) ((am_set g 2 i (va_cpy (g 2 j) (g 2 i) 0 0 24)) 3 i) 0 0 24)) 4 i (va_cpy ((am_set (am_set g 2 i (va_cpy (g 2 j) (g 2 i) 0 0 24)) 3 i (va_cpy ((am_set g 2 i (va_cpy (g 2 j) (g 2 i) 0 0 24)) 3 j) ((am_set g 2 i (va_cpy (g 2 j) (g 2 i) 0 0 24)) 3 i) 0 0 24)) 4 j) ((am_set (am_set g 2 i (va_cpy (g 2 j) (g 2 i) 0 0 24)) 3 i (va_cpy ((am_set g 2 i (va_cpy (g 2 j) (g 2 i) 0 0 24)) 3 j) ((am_set g 2 i (va_cpy (g 2 j) (g 2 i) 0 0 24)) 3 i) 0 0 24)) 4 i) 0 0 24)) 5 i) 0 0 24)) 6 i (va_cpy ((am_set (am_set (am_set (am_set g 2 i (va_cpy (g 2 j) (g 2 i) 0 0 24)) 3 i (va_cpy ((am_set g 2 i (va_cpy (g 2 j) (g 2 i) 0 0 24)) 3 j) ((am_set g 2 i (va_cpy (g 2 j) (g 2 i) 0 0 24)) 3 i) 0 0 24)) 4 i (va_cpy ((am_set (am_set g 2 i (va_cpy (g 2 j) (g 2 i) 0 0 24)) 3 i (va_cpy ((am_set g 2 i (va_cpy (g 2 j) (g 2 i) 0 0 24)) 3 j) ((am_set g 2 i (va_cpy (g 2 j) (g 2 i) 0 0 24)) 3 i) 0 0 24)) 4 j) ((am_set (am_set g 2 i (va_cpy (g 2 j) (g 2 i) 0 0 24)) 3 i (va_cpy ((am_set g 2 i (va_cpy (g 2 j) (g 2 i) 0 0 24)) 3 j) ((am_set g 2 i (va_cpy (g 2 j) (g 2 i) 0 0 24)) 3 i) 0 0 24)) 4 i) 0 0 24)) 5 i (va_cpy ((am_set (am_set (am_set g 2 i (va_cpy (g 2 j) (g 2 i) 0 0 24)) 3 i (va_cpy ((am_set g 2 i (va_cpy (g 2 j) (g 2 i) 0 0 24)) 3 j) ((am_set g 2 i (va_cpy (g 2 j) (g 2 i) 0 0 24)) 3 i) 0 0 24)) 4 i (va_cpy ((am_set (am_set g 2 i (va_cpy (g 2 j) (g 2 i) 0 0 24)) 3 i (va_cpy ((am_set g 2 i (va_cpy (g 2 j) (g 2 i) 0 0 24)) 3 j) ((am_set g 2 i (va_cpy (g 2 j) (g 2 i) 0 0 24)) 3 i) 0 0 24)) 4 j) ((am_set (am_set g 2 i (va_cpy (g 2 j) (g 2 i) 0 0 24)) 3 i (va_cpy ((am_set g 2 i (va_cpy (g 2 j) (g 2 i) 0 0 24)) 3 j) ((am_set g 2 i (va_cpy (g 2 j) (g 2 i) 0 0 24)) 3 i) 0 0 24)) 4 i) 0 0 24)) 5 j) ((am_set (am_set (am_set g 2 i (va_cpy (g 2 j) (g 2 i) 0 0 24)) 3 i (va_cpy ((am_set g 2 i (va_cpy (g 2 j) (g 2 i) 0 0 24)) 3 j) ((am_set g 2 i (va_cpy (g 2 j) (g 2 i) 0 0 24)) 3 i) 0 0 24)) 4 i (va_cpy ((am_set (am_set g 2 i (va_cpy (g 2 j) (g 2 i) 0 0 24)) 3 i (va_cpy ((am_set g 2 i (va_cpy (g 2 j) (g 2 i) 0 0 24)) 3 j) ((am_set g 2 i (va_cpy (g 2 j) (g 2 i) 0 0 24)) 3 i) 0 0 24)) 4 j) ((am_set (am_set g 2 i (va_cpy (g 2 j) (g 2 i) 0 0 24)) 3 i (va_cpy ((am_set g 2 i (va_cpy (g 2 j) (g 2 i) 0 0 24)) 3 j) ((am_set g 2 i (va_cpy (g 2 j) (g 2 i) 0 0 24)) 3 i) 0 0 24)) 4 i) 0 0 24)) 5 i) 0 0 24)) 6 j) ((am_set (am_set (am_set (am_set g 2 i (va_cpy (g 2 j) (g 2 i) 0 0 24)) 3 i (va_cpy ((am_set g 2 i (va_cpy (g 2 j) (g 2 i) 0 0 24)) 3 j) ((am_set g 2 i (va_cpy (g 2 j) (g 2 i) 0 0 24)) 3 i) 0 0 24)) 4 i (va_cpy ((am_set (am_set g 2 i (va_cpy (g 2 j) (g 2 i) 0 0 24)) 3 i (va_cpy ((am_set g 2 i (va_cpy (g 2 j) (g 2 i) 0 0 24)) 3 j) ((am_set g 2 i (va_cpy (g 2 j) (g 2 i) 0 0 24)) 3 i) 0 0 24)) 4 j) ((am_set (am_set g 2 i (va_cpy (g 2 j) (g 2 i) 0 0 24)) 3 i (va_cpy ((am_set g 2 i (va_cpy (g 2 j) (g 2 i) 0 0 24)) 3 j) ((am_set g 2 i (va_cpy (g 2 j) (g 2 i) 0 0 24)) 3 i) 0 0 24)) 4 i) 0 0 24)) 5 i (va_cpy ((am_set (am_set (am_set g 2 i (va_cpy (g 2 j) (g 2 i) 0 0 24)) 3 i (va_cpy ((am_set g 2 i (va_cpy (g 2 j) (g 2 i) 0 0 24)) 3 j) ((am_set g 2 i (va_cpy (g 2 j) (g 2 i) 0 0 24)) 3 i) 0 0 24)) 4 i (va_cpy ((am_set (am_set g 2 i (va_cpy (g 2 j) (g 2 i) 0 0 24)) 3 i (va_cpy ((am_set g 2 i (va_cpy (g 2 j) (g 2 i) 0 0 24)) 3 j) ((am_set g 2 i (va_cpy (g 2 j) (g 2 i) 0 0 24)) 3 i) 0 0 24)) 4 j) ((am_set (am_set g 2 i (va_cpy (g 2 j) (g 2 i) 0 0 24)) 3 i (va_cpy ((am_set g 2 i (va_cpy (g 2 j) (g 2 i) 0 0 24)) 3 j) ((am_set g 2 i (va_cpy (g 2 j) (g 2 i) 0 0 24)) 3 i) 0 0 24)) 4 i) 0 0 24)) 5 j) ((am_set (am_set (am_set g 2 i (va_cpy (g 2 j) (g 2 i) 0 0 24)) 3 i (va_cpy ((am_set g 2 i (va_cpy (g 2 j) (g 2 i) 0 0 24)) 3 j) ((am_set g 2 i (va_cpy (g 2 j) (g 2 i) 0 0 24)) 3 i) 0 0 24)) 4 i (va_cpy ((am_set (am_set g 2 i (va_cpy (g 2 j) (g 2 i) 0 0 24)) 3 i (va_cpy ((am_set g 2 i (va_cpy (g 2 j) (g 2 i) 0 0 24)) 3 j) ((am_set g 2 i (va_cpy (g 2 j) (g 2 i) 0 0 24)) 3 i) 0 0 24)) 4 j) ((am_set (am_set g 2 i (va_cpy (g 2 j) (g 2 i) 0 0 24)) 3 i (va_cpy ((am_set g 2 i (va_cpy (g 2 j) (g 2 i) 0 0 24)) 3 j) ((am_set g 2 i (va_cpy (g 2 j) (g 2 i) 0 0 24)) 3 i) 0 0 24)) 4 i) 0 0 24)) 5 i) 0 0 24)) 6 i) 0 0 24)) 102 i ((am_set (am_set (am_set (am_set (am_set g 2 i (va_cpy (g 2 j) (g 2 i) 0 0 24)) 3 i (va_cpy ((am_set g 2 i (va_cpy (g 2 j) (g 2 i) 0 0 24)) 3 j) ((am_set g 2 i (va_cpy (g 2 j) (g 2 i) 0 0 24)) 3 i) 0 0 24)) 4 i (va_cpy ((am_set (am_set g 2 i (va_cpy (g 2 j) (g 2 i) 0 0 24)) 3 i (va_cpy ((am_set g 2 i (va_cpy (g 2 j) (g 2 i) 0 0 24)) 3 j) ((am_set g 2 i (va_cpy (g 2 j) (g 2 i) 0 0 24)) 3 i) 0 0 24)) 4 j) ((am_set (am_set g 2 i (va_cpy (g 2 j) (g 2 i) 0 0 24)) 3 i (va_cpy ((am_set g 2 i (va_cpy (g 2 j) (g 2 i) 0 0 24)) 3 j) ((am_set g 2 i (va_cpy (g 2 j) (g 2 i) 0 0 24)) 3 i) 0 0 24)) 4 i) 0 0 24)) 5 i (va_cpy ((am_set (am_set (am_set g 2 i (va_cpy (g 2 j) (g 2 i) 0 0 24)) 3 i (va_cpy ((am_set g 2 i (va_cpy (g 2 j) (g 2 i) 0 0 24)) 3 j) ((am_set g 2 i (va_cpy (g 2 j) (g 2 i) 0 0 24)) 3 i) 0 0 24)) 4 i (va_cpy ((am_set (am_set g 2 i (va_cpy (g 2 j) (g 2 i) 0 0 24)) 3 i (va_cpy ((am_set g 2 i (va_cpy (g 2 j) (g 2 i) 0 0 24)) 3 j) ((am_set g 2 i (va_cpy (g 2 j) (g 2 i) 0 0 24)) 3 i) 0 0 24)) 4 j) ((am_set (am_set g 2 i (va_cpy (g 2 j) (g 2 i) 0 0 24)) 3 i (va_cpy ((am_set g 2 i (va_cpy (g 2 j) (g 2 i) 0 0 24)) 3 j) ((am_set g 2 i (va_cpy (g 2 j) (g 2 i) 0 0 24)) 3 i) 0 0 24)) 4 i) 0 0 24)) 5 j) ((am_set (am_set (am_set g 2 i (va_cpy (g 2 j) (g 2 i) 0 0 24)) 3 i (va_cpy ((am_set g 2 i (va_cpy (g 2 j) (g 2 i) 0 0 24)) 3 j) ((am_set g 2 i (va_cpy (g 2 j) (g 2 i) 0 0 24)) 3 i) 0 0 24)) 4 i (va_cpy ((am_set (am_set g 2 i (va_cpy (g 2 j) (g 2 i) 0 0 24)) 3 i (va_cpy ((am_set g 2 i (va_cpy (g 2 j) (g 2 i) 0 0 24)) 3 j) ((am_set g 2 i (va_cpy (g 2 j) (g 2 i) 0 0 24)) 3 i) 0 0 24)) 4 j) ((am_set (am_set g 2 i (va_cpy (g 2 j) (g 2 i) 0 0 24)) 3 i (va_cpy ((am_set g 2 i (va_cpy (g 2 j) (g 2 i) 0 0 24)) 3 j) ((am_set g 2 i (va_cpy (g 2 j) (g 2 i) 0 0 24)) 3 i) 0 0 24)) 4 i) 0 0 24)) 5 i) 0 0 24)) 6 i (va_cpy ((am_set (am_set (am_set (am_set g 2 i (va_cpy (g 2 j) (g 2 i) 0 0 24)) 3 i (va_cpy ((am_set g 2 i (va_cpy (g 2 j) (g 2 i) 0 0 24)) 3 j) ((am_set g 2 i (va_cpy (g 2 j) (g 2 i) 0 0 24)) 3 i) 0 0 24)) 4 i (va_cpy ((am_set (am_set g 2 i (va_cpy (g 2 j) (g 2 i) 0 0 24)) 3 i (va_cpy ((am_set g 2 i (va_cpy (g 2 j) (g 2 i) 0 0 24)) 3 j) ((am_set g 2 i (va_cpy (g 2 j) (g 2 i) 0 0 24)) 3 i) 0 0 24)) 4 j) ((am_set (am_set g 2 i (va_cpy (g 2 j) (g 2 i) 0 0 24)) 3 i (va_cpy ((am_set g 2 i (va_cpy (g 2 j) (g 2 i) 0 0 24)) 3 j) ((am_set g 2 i (va_cpy (g 2 j) (g 2 i) 0 0 24)) 3 i) 0 0 24)) 4 i) 0 0 24)) 5 i (va_cpy ((am_set (am_set (am_set g 2 i (va_cpy (g 2 j) (g 2 i) 0 0 24)) 3 i (va_cpy ((am_set g 2 i (va_cpy (g 2 j) (g 2 i) 0 0 24)) 3 j) ((am_set g 2 i (va_cpy (g 2 j) (g 2 i) 0 0 24)) 3 i) 0 0 24)) 4 i (va_cpy ((am_set (am_set g 2 i (va_cpy (g 2 j) (g 2 i) 0 0 24)) 3 i (va_cpy ((am_set g 2 i (va_cpy (g 2 j) (g 2 i) 0 0 24)) 3 j) ((am_set g 2 i (va_cpy (g 2 j) (g 2 i) 0 0 24)) 3 i) 0 0 24)) 4 j) ((am_set (am_set g 2 i (va_cpy (g 2 j) (g 2 i) 0 0 24)) 3 i (va_cpy ((am_set g 2 i (va_cpy (g 2 j) (g 2 i) 0 0 24)) 3 j) ((am_set g 2 i (va_cpy (g 2 j) (g 2 i) 0 0 24)) 3 i) 0 0 24)) 4 i) 0 0 24)) 5 j) ((am_set (am_set (am_set g 2 i (va_cpy (g 2 j) (g 2 i) 0 0 24)) 3 i (va_cpy ((am_set g 2 i (va_cpy (g 2 j) (g 2 i) 0 0 24)) 3 j) ((am_set g 2 i (va_cpy (g 2 j) (g 2 i) 0 0 24)) 3 i) 0 0 24)) 4 i (va_cpy ((am_set (am_set g 2 i (va_cpy (g 2 j) (g 2 i) 0 0 24)) 3 i (va_cpy ((am_set g 2 i (va_cpy (g 2 j) (g 2 i) 0 0 24)) 3 j) ((am_set g 2 i (va_cpy (g 2 j) (g 2 i) 0 0 24)) 3 i) 0 0 24)) 4 j) ((am_set (am_set g 2 i (va_cpy (g 2 j) (g 2 i) 0 0 24)) 3 i (va_cpy ((am_set g 2 i (va_cpy (g 2 j) (g 2 i) 0 0 24)) 3 j) ((am_set g 2 i (va_cpy (g 2 j) (g 2 i) 0 0 24)) 3 i) 0 0 24)) 4 i) 0 0 24)) 5 i) 0 0 24)) 6 j) ((am_set (am_set (am_set (am_set g 2 i (va_cpy (g 2 j) (g 2 i) 0 0 24)) 3 i (va_cpy ((am_set g 2 i (va_cpy (g 2 j) (g 2 i) 0 0 24)) 3 j) ((am_set g 2 i (va_cpy (g 2 j) (g 2 i) 0 0 24)) 3 i) 0 0 24)) 4 i (va_cpy ((am_set (am_set g 2 i (va_cpy (g 2 j) (g 2 i) 0 0 24)) 3 i (va_cpy ((am_set g 2 i (va_cpy (g 2 j) (g 2 i) 0 0 24)) 3 j) ((am_set g 2 i (va_cpy (g 2 j) (g 2 i) 0 0 24)) 3 i) 0 0 24)) 4 j) ((am_set (am_set g 2 i (va_cpy (g 2 j) (g 2 i) 0 0 24)) 3 i (va_cpy ((am_set g 2 i (va_cpy (g 2 j) (g 2 i) 0 0 24)) 3 j) ((am_set g 2 i (va_cpy (g 2 j) (g 2 i) 0 0 24)) 3 i) 0 0 24)) 4 i) 0 0 24)) 5 i (va_cpy ((am_set (am_set (am_set g 2 i (va_cpy (g 2 j) (g 2 i) 0 0 24)) 3 i (va_cpy ((am_set g 2 i (va_cpy (g 2 j) (g 2 i) 0 0 24)) 3 j) ((am_set g 2 i (va_cpy (g 2 j) (g 2 i) 0 0 24)) 3 i) 0 0 24)) 4 i (va_cpy ((am_set (am_set g 2 i (va_cpy (g 2 j) (g 2 i) 0 0 24)) 3 i (va_cpy ((am_set g 2 i (va_cpy (g 2 j) (g 2 i) 0 0 24)) 3 j) ((am_set g 2 i (va_cpy (g 2 j) (g 2 i) 0 0 24)) 3 i) 0 0 24)) 4 j) ((am_set (am_set g 2 i (va_cpy (g 2 j) (g 2 i) 0 0 24)) 3 i (va_cpy ((am_set g 2 i (va_cpy (g 2 j) (g 2 i) 0 0 24)) 3 j) ((am_set g 2 i (va_cpy (g 2 j) (g 2 i) 0 0 24)) 3 i) 0 0 24)) 4 i) 0 0 24)) 5 j) ((am_set (am_set (am_set g 2 i (va_cpy (g 2 j) (g 2 i) 0 0 24)) 3 i (va_cpy ((am_set g 2 i (va_cpy (g 2 j) (g 2 i) 0 0 24)) 3 j) ((am_set g 2 i (va_cpy (g 2 j) (g 2 i) 0 0 24)) 3 i) 0 0 24)) 4 i (va_cpy ((am_set (am_set g 2 i (va_cpy (g 2 j) (g 2 i) 0 0 24)) 3 i (va_cpy ((am_set g 2 i (va_cpy (g 2 j) (g 2 i) 0 0 24)) 3 j) ((am_set g 2 i (va_cpy (g 2 j) (g 2 i) 0 0 24)) 3 i) 0 0 24)) 4 j) ((am_set (am_set g 2 i (va_cpy (g 2 j) (g 2 i) 0 0 24)) 3 i (va_cpy ((am_set g 2 i (va_cpy (g 2 j) (g 2 i) 0 0 24)) 3 j) ((am_set g 2 i (va_cpy (g 2 j) (g 2 i) 0 0 24)) 3 i) 0 0 24)) 4 i) 0 0 24)) 5 i) 0 0 24)) 6 i) 0 0 24)) 102 j 0)) 103 j 0)) := rfl
set_option maxRecDepth 50000 in
theorem eF_addTown_0 (ct : am_T) (n : Nat) (i : Nat) (x1 : Int32) (g : am_G) : am_run ct 2 (n + 1) 0 [some (.inr (.inr (1, i))), some (.inl x1)] [] g =
  if (24 : Int32) ≤ (g 102 i 0) then
    (some (none, g))
  else
    (bif am_in (g 102 i 0) 24 then
      (bif am_in ((am_sto g 2 i (g 102 i 0).toNatClampNeg (-1 : Int32)) 102 i 0) 24 then
      (bif am_in ((am_sto (am_sto g 2 i (g 102 i 0).toNatClampNeg (-1 : Int32)) 3 i ((am_sto g 2 i (g 102 i 0).toNatClampNeg (-1 : Int32)) 102 i 0).toNatClampNeg (-1 : Int32)) 102 i 0) 24 then
      (bif am_in ((am_sto (am_sto (am_sto g 2 i (g 102 i 0).toNatClampNeg (-1 : Int32)) 3 i ((am_sto g 2 i (g 102 i 0).toNatClampNeg (-1 : Int32)) 102 i 0).toNatClampNeg (-1 : Int32)) 4 i ((am_sto (am_sto g 2 i (g 102 i 0).toNatClampNeg (-1 : Int32)) 3 i ((am_sto g 2 i (g 102 i 0).toNatClampNeg (-1 : Int32)) 102 i 0).toNatClampNeg (-1 : Int32)) 102 i 0).toNatClampNeg (0 : Int32)) 102 i 0) 24 then
      (bif am_in ((am_sto (am_sto (am_sto (am_sto g 2 i (g 102 i 0).toNatClampNeg (-1 : Int32)) 3 i ((am_sto g 2 i (g 102 i 0).toNatClampNeg (-1 : Int32)) 102 i 0).toNatClampNeg (-1 : Int32)) 4 i ((am_sto (am_sto g 2 i (g 102 i 0).toNatClampNeg (-1 : Int32)) 3 i ((am_sto g 2 i (g 102 i 0).toNatClampNeg (-1 : Int32)) 102 i 0).toNatClampNeg (-1 : Int32)) 102 i 0).toNatClampNeg (0 : Int32)) 5 i ((am_sto (am_sto (am_sto g 2 i (g 102 i 0).toNatClampNeg (-1 : Int32)) 3 i ((am_sto g 2 i (g 102 i 0).toNatClampNeg (-1 : Int32)) 102 i 0).toNatClampNeg (-1 : Int32)) 4 i ((am_sto (am_sto g 2 i (g 102 i 0).toNatClampNeg (-1 : Int32)) 3 i ((am_sto g 2 i (g 102 i 0).toNatClampNeg (-1 : Int32)) 102 i 0).toNatClampNeg (-1 : Int32)) 102 i 0).toNatClampNeg (0 : Int32)) 102 i 0).toNatClampNeg (0 : Int32)) 102 i 0) 24 then
      (some (none, am_put (am_sto (am_sto (am_sto (am_sto (am_sto g 2 i (g 102 i 0).toNatClampNeg (-1 : Int32)) 3 i ((am_sto g 2 i (g 102 i 0).toNatClampNeg (-1 : Int32)) 102 i 0).toNatClampNeg (-1 : Int32)) 4 i ((am_sto (am_sto g 2 i (g 102 i 0).toNatClampNeg (-1 : Int32)) 3 i ((am_sto g 2 i (g 102 i 0).toNatClampNeg (-1 : Int32)) 102 i 0).toNatClampNeg (-1 : Int32)) 102 i 0).toNatClampNeg (0 : Int32)) 5 i ((am_sto (am_sto (am_sto g 2 i (g 102 i 0).toNatClampNeg (-1 : Int32)) 3 i ((am_sto g 2 i (g 102 i 0).toNatClampNeg (-1 : Int32)) 102 i 0).toNatClampNeg (-1 : Int32)) 4 i ((am_sto (am_sto g 2 i (g 102 i 0).toNatClampNeg (-1 : Int32)) 3 i ((am_sto g 2 i (g 102 i 0).toNatClampNeg (-1 : Int32)) 102 i 0).toNatClampNeg (-1 : Int32)) 102 i 0).toNatClampNeg (0 : Int32)) 102 i 0).toNatClampNeg (0 : Int32)) 6 i ((am_sto (am_sto (am_sto (am_sto g 2 i (g 102 i 0).toNatClampNeg (-1 : Int32)) 3 i ((am_sto g 2 i (g 102 i 0).toNatClampNeg (-1 : Int32)) 102 i 0).toNatClampNeg (-1 : Int32)) 4 i ((am_sto (am_sto g 2 i (g 102 i 0).toNatClampNeg (-1 : Int32)) 3 i ((am_sto g 2 i (g 102 i 0).toNatClampNeg (-1 : Int32)) 102 i 0).toNatClampNeg (-1 : Int32)) 102 i 0).toNatClampNeg (0 : Int32)) 5 i ((am_sto (am_sto (am_sto g 2 i (g 102 i 0).toNatClampNeg (-1 : Int32)) 3 i ((am_sto g 2 i (g 102 i 0).toNatClampNeg (-1 : Int32)) 102 i 0).toNatClampNeg (-1 : Int32)) 4 i ((am_sto (am_sto g 2 i (g 102 i 0).toNatClampNeg (-1 : Int32)) 3 i ((am_sto g 2 i (g 102 i 0).toNatClampNeg (-1 : Int32)) 102 i 0).toNatClampNeg (-1 : Int32)) 102 i 0).toNatClampNeg (0 : Int32)) 102 i 0).toNatClampNeg (0 : Int32)) 102 i 0).toNatClampNeg x1) 102 i (((am_sto (am_sto (am_sto (am_sto (am_sto g 2 i (g 102 i 0).toNatClampNeg (-1 : Int32)) 3 i ((am_sto g 2 i (g 102 i 0).toNatClampNeg (-1 : Int32)) 102 i 0).toNatClampNeg (-1 : Int32)) 4 i ((am_sto (am_sto g 2 i (g 102 i 0).toNatClampNeg (-1 : Int32)) 3 i ((am_sto g 2 i (g 102 i 0).toNatClampNeg (-1 : Int32)) 102 i 0).toNatClampNeg (-1 : Int32)) 102 i 0).toNatClampNeg (0 : Int32)) 5 i ((am_sto (am_sto (am_sto g 2 i (g 102 i 0).toNatClampNeg (-1 : Int32)) 3 i ((am_sto g 2 i (g 102 i 0).toNatClampNeg (-1 : Int32)) 102 i 0).toNatClampNeg (-1 : Int32)) 4 i ((am_sto (am_sto g 2 i (g 102 i 0).toNatClampNeg (-1 : Int32)) 3 i ((am_sto g 2 i (g 102 i 0).toNatClampNeg (-1 : Int32)) 102 i 0).toNatClampNeg (-1 : Int32)) 102 i 0).toNatClampNeg (0 : Int32)) 102 i 0).toNatClampNeg (0 : Int32)) 6 i ((am_sto (am_sto (am_sto (am_sto g 2 i (g 102 i 0).toNatClampNeg (-1 : Int32)) 3 i ((am_sto g 2 i (g 102 i 0).toNatClampNeg (-1 : Int32)) 102 i 0).toNatClampNeg (-1 : Int32)) 4 i ((am_sto (am_sto g 2 i (g 102 i 0).toNatClampNeg (-1 : Int32)) 3 i ((am_sto g 2 i (g 102 i 0).toNatClampNeg (-1 : Int32)) 102 i 0).toNatClampNeg (-1 : Int32)) 102 i 0).toNatClampNeg (0 : Int32)) 5 i ((am_sto (am_sto (am_sto g 2 i (g 102 i 0).toNatClampNeg (-1 : Int32)) 3 i ((am_sto g 2 i (g 102 i 0).toNatClampNeg (-1 : Int32)) 102 i 0).toNatClampNeg (-1 : Int32)) 4 i ((am_sto (am_sto g 2 i (g 102 i 0).toNatClampNeg (-1 : Int32)) 3 i ((am_sto g 2 i (g 102 i 0).toNatClampNeg (-1 : Int32)) 102 i 0).toNatClampNeg (-1 : Int32)) 102 i 0).toNatClampNeg (0 : Int32)) 102 i 0).toNatClampNeg (0 : Int32)) 102 i 0).toNatClampNeg x1) 102 i 0) + (1 : Int32))))
    else none)
    else none)
    else none)
    else none)
    else none) := rfl
set_option maxRecDepth 50000 in
theorem eF_has_0 (ct : am_T) (n : Nat) (i : Nat) (x1 : Int32) (g : am_G) : am_run ct 3 (n + 1) 0 [some (.inr (.inr (1, i))), some (.inl x1)] [] g =
  if x1 < 0 then
    (some (some (.inl (0 : Int32)), g))
  else
    (if (g 102 i 0) ≤ x1 then
      (some (some (.inl (0 : Int32)), g))
    else
      (some (some (.inl (1 : Int32)), g))) := rfl
set_option maxRecDepth 50000 in
theorem eF_hasBoth_0 (ct : am_T) (n : Nat) (i : Nat) (x1 : Int32) (x2 : Int32) (g : am_G) : am_run ct 4 (n + 1) 0 [some (.inr (.inr (1, i))), some (.inl x1), some (.inl x2)] [] g =
  am_bi (ct 3 [.inr (.inr (1, i)), .inl x1] g) (fun r1 g1 =>
  if r1 = 0 then
    (some (some (.inl (0 : Int32)), g1))
  else
    (am_bi (ct 3 [.inr (.inr (1, i)), .inl x2] g1) (fun r2 g2 =>
    if r2 = 0 then
      (some (some (.inl (0 : Int32)), g2))
    else
      (some (some (.inl (1 : Int32)), g2))))) := rfl
set_option maxRecDepth 50000 in
theorem eF_touchAt_0 (ct : am_T) (n : Nat) (i : Nat) (x1 : Int32) (g : am_G) : am_run ct 5 (n + 1) 0 [some (.inr (.inr (1, i))), some (.inl x1), none, none, none] [] g =
  bif am_in x1 24 then
    (bif am_in x1 24 then
    (am_run ct 5 n 14 [some (.inr (.inr (1, i))), some (.inl x1), some (.inl x1), some (.inl ((am_sto g 3 i x1.toNatClampNeg (-1 : Int32)) 2 i x1.toNatClampNeg)), some (.inl (0 : Int32))] [] (am_sto g 3 i x1.toNatClampNeg (-1 : Int32)))
  else none)
  else none := rfl
set_option maxRecDepth 50000 in
theorem eF_touchAt_14 (ct : am_T) (n : Nat) (i : Nat) (x1 : Int32) (x2 : Int32) (x3 : Int32) (x4 : Int32) (g : am_G) : am_run ct 5 (n + 1) 14 [some (.inr (.inr (1, i))), some (.inl x1), some (.inl x2), some (.inl x3), some (.inl x4)] [] g =
  if (24 : Int32) ≤ x4 then
    (some (none, g))
  else
    (if x3 = (-1 : Int32) then
      (some (none, g))
    else
      (bif am_in x3 24 then
        (if (g 3 i x3.toNatClampNeg) = x2 then
        (bif am_in x3 24 then
          (am_run ct 5 n 14 [some (.inr (.inr (1, i))), some (.inl x1), some (.inl x3), some (.inl (g 2 i x3.toNatClampNeg)), some (.inl (x4 + 1))] [] g)
        else none)
      else
        (bif am_in x3 24 then
          (bif am_in x3 24 then
          (am_run ct 5 n 14 [some (.inr (.inr (1, i))), some (.inl x1), some (.inl x3), some (.inl ((am_put (am_sto g 3 i x3.toNatClampNeg x2) 103 i (((am_sto g 3 i x3.toNatClampNeg x2) 103 i 0) + (1 : Int32))) 2 i x3.toNatClampNeg)), some (.inl (x4 + 1))] [] (am_put (am_sto g 3 i x3.toNatClampNeg x2) 103 i (((am_sto g 3 i x3.toNatClampNeg x2) 103 i 0) + (1 : Int32))))
        else none)
        else none))
      else none)) := rfl
set_option maxRecDepth 50000 in
theorem eF_rerootAt_0 (ct : am_T) (n : Nat) (i : Nat) (x1 : Int32) (g : am_G) : am_run ct 6 (n + 1) 0 [some (.inr (.inr (1, i))), some (.inl x1), none, none, none, none, none, none, none, none] [] g =
  am_bv (ct 5 [.inr (.inr (1, i)), .inl x1] g) (fun g1 =>
  am_run ct 6 n 13 [some (.inr (.inr (1, i))), some (.inl x1), some (.inl (-1 : Int32)), some (.inl x1), some (.inl (0 : Int32)), some (.inl (0 : Int32)), some (.inl (0 : Int32)), none, none, none] [] g1) := rfl
set_option maxRecDepth 50000 in
theorem eF_rerootAt_13 (ct : am_T) (n : Nat) (i : Nat) (x1 : Int32) (x2 : Int32) (x3 : Int32) (x4 : Int32) (x5 : Int32) (x6 : Int32) (o7 : Option am_V) (o8 : Option am_V) (o9 : Option am_V) (g : am_G) : am_run ct 6 (n + 1) 13 [some (.inr (.inr (1, i))), some (.inl x1), some (.inl x2), some (.inl x3), some (.inl x4), some (.inl x5), some (.inl x6), o7, o8, o9] [] g =
  if (24 : Int32) ≤ x6 then
    (some (none, g))
  else
    (if x3 = (-1 : Int32) then
      (some (none, g))
    else
      (bif am_in x3 24 then
        (bif am_in x3 24 then
        (bif am_in x3 24 then
        (bif am_in x3 24 then
        (bif am_in x3 24 then
        (bif am_in x3 24 then
        (bif am_in x3 24 then
        (am_run ct 6 n 13 [some (.inr (.inr (1, i))), some (.inl x1), some (.inl x3), some (.inl (g 2 i x3.toNatClampNeg)), some (.inl (g 4 i x3.toNatClampNeg)), some (.inl (g 5 i x3.toNatClampNeg)), some (.inl (x6 + 1)), some (.inl (g 2 i x3.toNatClampNeg)), some (.inl (g 4 i x3.toNatClampNeg)), some (.inl (g 5 i x3.toNatClampNeg))] [] (am_sto (am_sto (am_sto (am_sto g 2 i x3.toNatClampNeg x2) 4 i x3.toNatClampNeg x4) 5 i x3.toNatClampNeg x5) 3 i x3.toNatClampNeg (g 2 i x3.toNatClampNeg)))
      else none)
      else none)
      else none)
      else none)
      else none)
      else none)
      else none)) := rfl
set_option maxRecDepth 50000 in
theorem eF_walkFrom_0 (ct : am_T) (n : Nat) (i : Nat) (x1 : Int32) (x2 : Int32) (g : am_G) : am_run ct 7 (n + 1) 0 [some (.inr (.inr (1, i))), some (.inl x1), some (.inl x2)] [] g =
  am_bv (ct 6 [.inr (.inr (1, i)), .inl x1] g) (fun g1 =>
  am_bv (ct 5 [.inr (.inr (1, i)), .inl x2] g1) (fun g2 =>
  some (none, g2))) := rfl
set_option maxRecDepth 50000 in
theorem eF_linkUnder_0 (ct : am_T) (n : Nat) (i : Nat) (x1 : Int32) (x2 : Int32) (x3 : Int32) (x4 : Int32) (g : am_G) : am_run ct 8 (n + 1) 0 [some (.inr (.inr (1, i))), some (.inl x1), some (.inl x2), some (.inl x3), some (.inl x4)] [] g =
  am_bv (ct 7 [.inr (.inr (1, i)), .inl x1, .inl x2] g) (fun g1 =>
  bif am_in x1 24 then
    (bif am_in x1 24 then
    (bif am_in x1 24 then
    (some (none, am_sto (am_sto (am_sto g1 2 i x1.toNatClampNeg x2) 4 i x1.toNatClampNeg x3) 5 i x1.toNatClampNeg x4))
  else none)
  else none)
  else none) := rfl
set_option maxRecDepth 50000 in
theorem eF_cutBetween_0 (ct : am_T) (n : Nat) (i : Nat) (x1 : Int32) (x2 : Int32) (g : am_G) : am_run ct 9 (n + 1) 0 [some (.inr (.inr (1, i))), some (.inl x1), some (.inl x2)] [] g =
  am_bv (ct 7 [.inr (.inr (1, i)), .inl x1, .inl x2] g) (fun g1 =>
  bif am_in x2 24 then
    (bif am_in x2 24 then
    (bif am_in x2 24 then
    (bif am_in x1 24 then
    (some (none, am_sto (am_sto (am_sto (am_sto g1 2 i x2.toNatClampNeg (-1 : Int32)) 4 i x2.toNatClampNeg (0 : Int32)) 5 i x2.toNatClampNeg (0 : Int32)) 3 i x1.toNatClampNeg (-1 : Int32)))
  else none)
  else none)
  else none)
  else none) := rfl
set_option maxRecDepth 50000 in
theorem eF_settleTreeOf_0 (ct : am_T) (n : Nat) (i : Nat) (x1 : Int32) (g : am_G) : am_run ct 10 (n + 1) 0 [some (.inr (.inr (1, i))), some (.inl x1), none, none, none, none] [] g =
  am_bi (ct 11 [.inr (.inr (1, i)), .inl x1] g) (fun r1 g1 =>
  am_bv (ct 22 [.inr (.inr (1, i))] g1) (fun g2 =>
  am_run ct 10 n 10 [some (.inr (.inr (1, i))), some (.inl x1), some (.inl r1), some (.inl (0 : Int32)), some (.inl (0 : Int32)), none] [] g2)) := rfl
set_option maxRecDepth 50000 in
theorem eF_settleTreeOf_10 (ct : am_T) (n : Nat) (i : Nat) (x1 : Int32) (x2 : Int32) (x3 : Int32) (x4 : Int32) (o5 : Option am_V) (g : am_G) : am_run ct 10 (n + 1) 10 [some (.inr (.inr (1, i))), some (.inl x1), some (.inl x2), some (.inl x3), some (.inl x4), o5] [] g =
  if (g 102 i 0) ≤ x4 then
    (some (some (.inl x3), g))
  else
    (am_bi (ct 11 [.inr (.inr (1, i)), .inl x4] g) (fun r1 g1 =>
    if r1 = x2 then
      (am_bi (ct 27 [.inr (.inr (1, i)), .inl x4] g1) (fun r2 g2 =>
      bif am_in x4 24 then
        (if (g2 3 i x4.toNatClampNeg) = r2 then
        (am_run ct 10 n 10 [some (.inr (.inr (1, i))), some (.inl x1), some (.inl x2), some (.inl x3), some (.inl (x4 + 1)), some (.inl r2)] [] g2)
      else
        (bif am_in x4 24 then
          (am_run ct 10 n 10 [some (.inr (.inr (1, i))), some (.inl x1), some (.inl x2), some (.inl (x3 + 1)), some (.inl (x4 + 1)), some (.inl r2)] [] (am_sto g2 3 i x4.toNatClampNeg r2))
        else none))
      else none))
    else
      (am_run ct 10 n 10 [some (.inr (.inr (1, i))), some (.inl x1), some (.inl x2), some (.inl x3), some (.inl (x4 + 1)), o5] [] g1))) := rfl
set_option maxRecDepth 50000 in
theorem eF_rootOf_0 (ct : am_T) (n : Nat) (i : Nat) (x1 : Int32) (g : am_G) : am_run ct 11 (n + 1) 0 [some (.inr (.inr (1, i))), some (.inl x1), none, none] [] g =
  am_run ct 11 n 4 [some (.inr (.inr (1, i))), some (.inl x1), some (.inl x1), some (.inl (0 : Int32))] [] g := rfl
set_option maxRecDepth 50000 in
theorem eF_rootOf_4 (ct : am_T) (n : Nat) (i : Nat) (x1 : Int32) (x2 : Int32) (x3 : Int32) (g : am_G) : am_run ct 11 (n + 1) 4 [some (.inr (.inr (1, i))), some (.inl x1), some (.inl x2), some (.inl x3)] [] g =
  if (24 : Int32) ≤ x3 then
    (some (some (.inl x2), g))
  else
    (bif am_in x2 24 then
      (if (g 2 i x2.toNatClampNeg) = (-1 : Int32) then
      (some (some (.inl x2), g))
    else
      (bif am_in x2 24 then
        (am_run ct 11 n 4 [some (.inr (.inr (1, i))), some (.inl x1), some (.inl (g 2 i x2.toNatClampNeg)), some (.inl (x3 + 1))] [] g)
      else none))
    else none) := rfl
set_option maxRecDepth 50000 in
theorem eF_depthOf_0 (ct : am_T) (n : Nat) (i : Nat) (x1 : Int32) (g : am_G) : am_run ct 12 (n + 1) 0 [some (.inr (.inr (1, i))), some (.inl x1), none, none, none] [] g =
  am_run ct 12 n 6 [some (.inr (.inr (1, i))), some (.inl x1), some (.inl x1), some (.inl (0 : Int32)), some (.inl (0 : Int32))] [] g := rfl
set_option maxRecDepth 50000 in
theorem eF_depthOf_6 (ct : am_T) (n : Nat) (i : Nat) (x1 : Int32) (x2 : Int32) (x3 : Int32) (x4 : Int32) (g : am_G) : am_run ct 12 (n + 1) 6 [some (.inr (.inr (1, i))), some (.inl x1), some (.inl x2), some (.inl x3), some (.inl x4)] [] g =
  if (24 : Int32) ≤ x4 then
    (some (some (.inl x3), g))
  else
    (bif am_in x2 24 then
      (if (g 2 i x2.toNatClampNeg) = (-1 : Int32) then
      (some (some (.inl x3), g))
    else
      (bif am_in x2 24 then
        (am_run ct 12 n 6 [some (.inr (.inr (1, i))), some (.inl x1), some (.inl (g 2 i x2.toNatClampNeg)), some (.inl (x3 + 1)), some (.inl (x4 + 1))] [] g)
      else none))
    else none) := rfl
set_option maxRecDepth 50000 in
theorem eF_climb_0 (ct : am_T) (n : Nat) (i : Nat) (x1 : Int32) (x2 : Int32) (g : am_G) : am_run ct 13 (n + 1) 0 [some (.inr (.inr (1, i))), some (.inl x1), some (.inl x2), none, none] [] g =
  am_run ct 13 n 4 [some (.inr (.inr (1, i))), some (.inl x1), some (.inl x2), some (.inl x1), some (.inl (0 : Int32))] [] g := rfl
set_option maxRecDepth 50000 in
theorem eF_climb_4 (ct : am_T) (n : Nat) (i : Nat) (x1 : Int32) (x2 : Int32) (x3 : Int32) (x4 : Int32) (g : am_G) : am_run ct 13 (n + 1) 4 [some (.inr (.inr (1, i))), some (.inl x1), some (.inl x2), some (.inl x3), some (.inl x4)] [] g =
  if (24 : Int32) ≤ x4 then
    (some (some (.inl x3), g))
  else
    (if x2 ≤ x4 then
      (some (some (.inl x3), g))
    else
      (bif am_in x3 24 then
        (if (g 2 i x3.toNatClampNeg) = (-1 : Int32) then
        (some (some (.inl x3), g))
      else
        (bif am_in x3 24 then
          (am_run ct 13 n 4 [some (.inr (.inr (1, i))), some (.inl x1), some (.inl x2), some (.inl (g 2 i x3.toNatClampNeg)), some (.inl (x4 + 1))] [] g)
        else none))
      else none)) := rfl
set_option maxRecDepth 50000 in
theorem eF_isOver_0 (ct : am_T) (n : Nat) (i : Nat) (x1 : Int32) (x2 : Int32) (g : am_G) : am_run ct 14 (n + 1) 0 [some (.inr (.inr (1, i))), some (.inl x1), some (.inl x2), none, none] [] g =
  am_run ct 14 n 4 [some (.inr (.inr (1, i))), some (.inl x1), some (.inl x2), some (.inl x2), some (.inl (0 : Int32))] [] g := rfl
set_option maxRecDepth 50000 in
theorem eF_isOver_4 (ct : am_T) (n : Nat) (i : Nat) (x1 : Int32) (x2 : Int32) (x3 : Int32) (x4 : Int32) (g : am_G) : am_run ct 14 (n + 1) 4 [some (.inr (.inr (1, i))), some (.inl x1), some (.inl x2), some (.inl x3), some (.inl x4)] [] g =
  if (24 : Int32) ≤ x4 then
    (some (some (.inl (0 : Int32)), g))
  else
    (if x3 = (-1 : Int32) then
      (some (some (.inl (0 : Int32)), g))
    else
      (if x3 = x1 then
        (some (some (.inl (1 : Int32)), g))
      else
        (bif am_in x3 24 then
          (am_run ct 14 n 4 [some (.inr (.inr (1, i))), some (.inl x1), some (.inl x2), some (.inl (g 2 i x3.toNatClampNeg)), some (.inl (x4 + 1))] [] g)
        else none))) := rfl
set_option maxRecDepth 50000 in
theorem eF_hangTogether_0 (ct : am_T) (n : Nat) (i : Nat) (x1 : Int32) (x2 : Int32) (g : am_G) : am_run ct 15 (n + 1) 0 [some (.inr (.inr (1, i))), some (.inl x1), some (.inl x2)] [] g =
  am_bi (ct 11 [.inr (.inr (1, i)), .inl x1] g) (fun r1 g1 =>
  am_bi (ct 11 [.inr (.inr (1, i)), .inl x2] g1) (fun r2 g2 =>
  if r1 = r2 then
    (some (some (.inl (1 : Int32)), g2))
  else
    (some (some (.inl (0 : Int32)), g2)))) := rfl
set_option maxRecDepth 50000 in
theorem eF_meetingOf_0 (ct : am_T) (n : Nat) (i : Nat) (x1 : Int32) (x2 : Int32) (g : am_G) : am_run ct 16 (n + 1) 0 [some (.inr (.inr (1, i))), some (.inl x1), some (.inl x2), none, none, none, none, none] [] g =
  am_bi (ct 12 [.inr (.inr (1, i)), .inl x1] g) (fun r1 g1 =>
  am_bi (ct 12 [.inr (.inr (1, i)), .inl x2] g1) (fun r2 g2 =>
  am_bi (ct 13 [.inr (.inr (1, i)), .inl x1, .inl (r1 - r2)] g2) (fun r3 g3 =>
  am_bi (ct 13 [.inr (.inr (1, i)), .inl x2, .inl (r2 - r1)] g3) (fun r4 g4 =>
  am_run ct 16 n 24 [some (.inr (.inr (1, i))), some (.inl x1), some (.inl x2), some (.inl r1), some (.inl r2), some (.inl r3), some (.inl r4), some (.inl (0 : Int32))] [] g4)))) := rfl
set_option maxRecDepth 50000 in
theorem eF_meetingOf_24 (ct : am_T) (n : Nat) (i : Nat) (x1 : Int32) (x2 : Int32) (x3 : Int32) (x4 : Int32) (x5 : Int32) (x6 : Int32) (x7 : Int32) (g : am_G) : am_run ct 16 (n + 1) 24 [some (.inr (.inr (1, i))), some (.inl x1), some (.inl x2), some (.inl x3), some (.inl x4), some (.inl x5), some (.inl x6), some (.inl x7)] [] g =
  if (24 : Int32) ≤ x7 then
    (some (some (.inl x5), g))
  else
    (if x5 = x6 then
      (some (some (.inl x5), g))
    else
      (if x5 = (-1 : Int32) then
        (some (some (.inl (-1 : Int32)), g))
      else
        (if x6 = (-1 : Int32) then
          (some (some (.inl (-1 : Int32)), g))
        else
          (bif am_in x5 24 then
            (bif am_in x6 24 then
            (am_run ct 16 n 24 [some (.inr (.inr (1, i))), some (.inl x1), some (.inl x2), some (.inl x3), some (.inl x4), some (.inl (g 2 i x5.toNatClampNeg)), some (.inl (g 2 i x6.toNatClampNeg)), some (.inl (x7 + 1))] [] g)
          else none)
          else none)))) := rfl
set_option maxRecDepth 50000 in
theorem eF_lowerOf_0 (ct : am_T) (n : Nat) (i : Nat) (x1 : Int32) (x2 : Int32) (g : am_G) : am_run ct 17 (n + 1) 0 [some (.inr (.inr (1, i))), some (.inl x1), some (.inl x2)] [] g =
  bif am_in x1 24 then
    (if (g 2 i x1.toNatClampNeg) = x2 then
    (some (some (.inl x1), g))
  else
    (bif am_in x2 24 then
      (if (g 2 i x2.toNatClampNeg) = x1 then
      (some (some (.inl x2), g))
    else
      (some (some (.inl (-1 : Int32)), g)))
    else none))
  else none := rfl
set_option maxRecDepth 50000 in
theorem eF_headOf_0 (ct : am_T) (n : Nat) (i : Nat) (x1 : Int32) (g : am_G) : am_run ct 18 (n + 1) 0 [some (.inr (.inr (1, i))), some (.inl x1), none, none, none] [] g =
  am_run ct 18 n 4 [some (.inr (.inr (1, i))), some (.inl x1), some (.inl x1), some (.inl (0 : Int32)), none] [] g := rfl
set_option maxRecDepth 50000 in
theorem eF_headOf_4 (ct : am_T) (n : Nat) (i : Nat) (x1 : Int32) (x2 : Int32) (x3 : Int32) (o4 : Option am_V) (g : am_G) : am_run ct 18 (n + 1) 4 [some (.inr (.inr (1, i))), some (.inl x1), some (.inl x2), some (.inl x3), o4] [] g =
  if (24 : Int32) ≤ x3 then
    (some (some (.inl x2), g))
  else
    (bif am_in x2 24 then
      (if (g 2 i x2.toNatClampNeg) = (-1 : Int32) then
      (some (some (.inl x2), g))
    else
      (bif am_in (g 2 i x2.toNatClampNeg) 24 then
        (if (g 3 i (g 2 i x2.toNatClampNeg).toNatClampNeg) = x2 then
        (am_run ct 18 n 4 [some (.inr (.inr (1, i))), some (.inl x1), some (.inl (g 2 i x2.toNatClampNeg)), some (.inl (x3 + 1)), some (.inl (g 2 i x2.toNatClampNeg))] [] g)
      else
        (some (some (.inl x2), g)))
      else none))
    else none) := rfl
set_option maxRecDepth 50000 in
theorem eF_tailOf_0 (ct : am_T) (n : Nat) (i : Nat) (x1 : Int32) (g : am_G) : am_run ct 19 (n + 1) 0 [some (.inr (.inr (1, i))), some (.inl x1), none, none] [] g =
  am_run ct 19 n 4 [some (.inr (.inr (1, i))), some (.inl x1), some (.inl x1), some (.inl (0 : Int32))] [] g := rfl
set_option maxRecDepth 50000 in
theorem eF_tailOf_4 (ct : am_T) (n : Nat) (i : Nat) (x1 : Int32) (x2 : Int32) (x3 : Int32) (g : am_G) : am_run ct 19 (n + 1) 4 [some (.inr (.inr (1, i))), some (.inl x1), some (.inl x2), some (.inl x3)] [] g =
  if (24 : Int32) ≤ x3 then
    (some (some (.inl x2), g))
  else
    (bif am_in x2 24 then
      (if (g 3 i x2.toNatClampNeg) = (-1 : Int32) then
      (some (some (.inl x2), g))
    else
      (bif am_in x2 24 then
        (am_run ct 19 n 4 [some (.inr (.inr (1, i))), some (.inl x1), some (.inl (g 3 i x2.toNatClampNeg)), some (.inl (x3 + 1))] [] g)
      else none))
    else none) := rfl
set_option maxRecDepth 50000 in
theorem eF_trees_0 (ct : am_T) (n : Nat) (i : Nat) (g : am_G) : am_run ct 20 (n + 1) 0 [some (.inr (.inr (1, i))), none, none] [] g =
  am_run ct 20 n 4 [some (.inr (.inr (1, i))), some (.inl (0 : Int32)), some (.inl (0 : Int32))] [] g := rfl
set_option maxRecDepth 50000 in
theorem eF_trees_4 (ct : am_T) (n : Nat) (i : Nat) (x1 : Int32) (x2 : Int32) (g : am_G) : am_run ct 20 (n + 1) 4 [some (.inr (.inr (1, i))), some (.inl x1), some (.inl x2)] [] g =
  if (g 102 i 0) ≤ x2 then
    (some (some (.inl x1), g))
  else
    (bif am_in x2 24 then
      (if (g 2 i x2.toNatClampNeg) = (-1 : Int32) then
      (am_run ct 20 n 4 [some (.inr (.inr (1, i))), some (.inl (x1 + 1)), some (.inl (x2 + 1))] [] g)
    else
      (am_run ct 20 n 4 [some (.inr (.inr (1, i))), some (.inl x1), some (.inl (x2 + 1))] [] g))
    else none) := rfl
set_option maxRecDepth 50000 in
theorem eF_chains_0 (ct : am_T) (n : Nat) (i : Nat) (g : am_G) : am_run ct 21 (n + 1) 0 [some (.inr (.inr (1, i))), none, none] [] g =
  am_run ct 21 n 5 [some (.inr (.inr (1, i))), some (.inl (g 102 i 0)), some (.inl (0 : Int32))] [] g := rfl
set_option maxRecDepth 50000 in
theorem eF_chains_5 (ct : am_T) (n : Nat) (i : Nat) (x1 : Int32) (x2 : Int32) (g : am_G) : am_run ct 21 (n + 1) 5 [some (.inr (.inr (1, i))), some (.inl x1), some (.inl x2)] [] g =
  if (g 102 i 0) ≤ x2 then
    (some (some (.inl x1), g))
  else
    (bif am_in x2 24 then
      (if (g 3 i x2.toNatClampNeg) = (-1 : Int32) then
      (am_run ct 21 n 5 [some (.inr (.inr (1, i))), some (.inl x1), some (.inl (x2 + 1))] [] g)
    else
      (am_run ct 21 n 5 [some (.inr (.inr (1, i))), some (.inl (x1 + (-1))), some (.inl (x2 + 1))] [] g))
    else none) := rfl
set_option maxRecDepth 50000 in
theorem eF_weigh_0 (ct : am_T) (n : Nat) (i : Nat) (g : am_G) : am_run ct 22 (n + 1) 0 [some (.inr (.inr (1, i))), none, none, none] [] g =
  am_run ct 22 n 2 [some (.inr (.inr (1, i))), some (.inl (0 : Int32)), none, none] [] g := rfl
set_option maxRecDepth 50000 in
theorem eF_weigh_2 (ct : am_T) (n : Nat) (i : Nat) (x1 : Int32) (g : am_G) : am_run ct 22 (n + 1) 2 [some (.inr (.inr (1, i))), some (.inl x1), none, none] [] g =
  if (g 102 i 0) ≤ x1 then
    (am_run ct 22 n 15 [some (.inr (.inr (1, i))), some (.inl (0 : Int32)), none, none] [] g)
  else
    (bif am_in x1 24 then
      (am_run ct 22 n 2 [some (.inr (.inr (1, i))), some (.inl (x1 + 1)), none, none] [] (am_sto g 7 i x1.toNatClampNeg (0 : Int32)))
    else none) := rfl
set_option maxRecDepth 50000 in
theorem eF_weigh_15 (ct : am_T) (n : Nat) (i : Nat) (x1 : Int32) (o2 : Option am_V) (o3 : Option am_V) (g : am_G) : am_run ct 22 (n + 1) 15 [some (.inr (.inr (1, i))), some (.inl x1), o2, o3] [] g =
  if (g 102 i 0) ≤ x1 then
    (some (none, g))
  else
    (am_run ct 22 n 23 [some (.inr (.inr (1, i))), some (.inl x1), some (.inl x1), some (.inl (0 : Int32))] [] g) := rfl
set_option maxRecDepth 50000 in
theorem eF_weigh_23 (ct : am_T) (n : Nat) (i : Nat) (x1 : Int32) (x2 : Int32) (x3 : Int32) (g : am_G) : am_run ct 22 (n + 1) 23 [some (.inr (.inr (1, i))), some (.inl x1), some (.inl x2), some (.inl x3)] [] g =
  if (24 : Int32) ≤ x3 then
    (am_run ct 22 n 15 [some (.inr (.inr (1, i))), some (.inl (x1 + 1)), some (.inl x2), some (.inl x3)] [] g)
  else
    (if x2 = (-1 : Int32) then
      (am_run ct 22 n 15 [some (.inr (.inr (1, i))), some (.inl (x1 + 1)), some (.inl x2), some (.inl x3)] [] g)
    else
      (bif am_in x2 24 then
        (bif am_in x2 24 then
        (bif am_in x2 24 then
        (am_run ct 22 n 23 [some (.inr (.inr (1, i))), some (.inl x1), some (.inl ((am_sto g 7 i x2.toNatClampNeg ((g 7 i x2.toNatClampNeg) + (1 : Int32))) 2 i x2.toNatClampNeg)), some (.inl (x3 + 1))] [] (am_sto g 7 i x2.toNatClampNeg ((g 7 i x2.toNatClampNeg) + (1 : Int32))))
      else none)
      else none)
      else none)) := rfl
set_option maxRecDepth 50000 in
theorem eF_sizeOf_0 (ct : am_T) (n : Nat) (i : Nat) (x1 : Int32) (g : am_G) : am_run ct 23 (n + 1) 0 [some (.inr (.inr (1, i))), some (.inl x1)] [] g =
  am_bv (ct 22 [.inr (.inr (1, i))] g) (fun g1 =>
  bif am_in x1 24 then
    (some (some (.inl (g1 7 i x1.toNatClampNeg)), g1))
  else none) := rfl
set_option maxRecDepth 50000 in
theorem eF_valuesUnder_0 (ct : am_T) (n : Nat) (i : Nat) (x1 : Int32) (g : am_G) : am_run ct 24 (n + 1) 0 [some (.inr (.inr (1, i))), some (.inl x1), none, none] [] g =
  am_run ct 24 n 4 [some (.inr (.inr (1, i))), some (.inl x1), some (.inl (0 : Int32)), some (.inl (0 : Int32))] [] g := rfl
set_option maxRecDepth 50000 in
theorem eF_valuesUnder_4 (ct : am_T) (n : Nat) (i : Nat) (x1 : Int32) (x2 : Int32) (x3 : Int32) (g : am_G) : am_run ct 24 (n + 1) 4 [some (.inr (.inr (1, i))), some (.inl x1), some (.inl x2), some (.inl x3)] [] g =
  if (g 102 i 0) ≤ x3 then
    (some (some (.inl x2), g))
  else
    (am_bi (ct 14 [.inr (.inr (1, i)), .inl x1, .inl x3] g) (fun r1 g1 =>
    if r1 = 0 then
      (am_run ct 24 n 4 [some (.inr (.inr (1, i))), some (.inl x1), some (.inl x2), some (.inl (x3 + 1))] [] g1)
    else
      (bif am_in x3 24 then
        (am_run ct 24 n 4 [some (.inr (.inr (1, i))), some (.inl x1), some (.inl (x2 + (g1 6 i x3.toNatClampNeg))), some (.inl (x3 + 1))] [] g1)
      else none))) := rfl
set_option maxRecDepth 50000 in
theorem eF_childrenOf_0 (ct : am_T) (n : Nat) (i : Nat) (x1 : Int32) (g : am_G) : am_run ct 25 (n + 1) 0 [some (.inr (.inr (1, i))), some (.inl x1), none, none] [] g =
  am_run ct 25 n 4 [some (.inr (.inr (1, i))), some (.inl x1), some (.inl (0 : Int32)), some (.inl (0 : Int32))] [] g := rfl
set_option maxRecDepth 50000 in
theorem eF_childrenOf_4 (ct : am_T) (n : Nat) (i : Nat) (x1 : Int32) (x2 : Int32) (x3 : Int32) (g : am_G) : am_run ct 25 (n + 1) 4 [some (.inr (.inr (1, i))), some (.inl x1), some (.inl x2), some (.inl x3)] [] g =
  if (g 102 i 0) ≤ x3 then
    (some (some (.inl x2), g))
  else
    (bif am_in x3 24 then
      (if (g 2 i x3.toNatClampNeg) = x1 then
      (am_run ct 25 n 4 [some (.inr (.inr (1, i))), some (.inl x1), some (.inl (x2 + 1)), some (.inl (x3 + 1))] [] g)
    else
      (am_run ct 25 n 4 [some (.inr (.inr (1, i))), some (.inl x1), some (.inl x2), some (.inl (x3 + 1))] [] g))
    else none) := rfl
set_option maxRecDepth 50000 in
theorem eF_heavyChildOf_0 (ct : am_T) (n : Nat) (i : Nat) (x1 : Int32) (g : am_G) : am_run ct 26 (n + 1) 0 [some (.inr (.inr (1, i))), some (.inl x1)] [] g =
  am_bv (ct 22 [.inr (.inr (1, i))] g) (fun g1 =>
  am_bi (ct 27 [.inr (.inr (1, i)), .inl x1] g1) (fun r2 g2 =>
  some (some (.inl r2), g2))) := rfl
set_option maxRecDepth 50000 in
theorem eF_heavyOfWeighed_0 (ct : am_T) (n : Nat) (i : Nat) (x1 : Int32) (g : am_G) : am_run ct 27 (n + 1) 0 [some (.inr (.inr (1, i))), some (.inl x1), none] [] g =
  am_run ct 27 n 2 [some (.inr (.inr (1, i))), some (.inl x1), some (.inl (0 : Int32))] [] g := rfl
set_option maxRecDepth 50000 in
theorem eF_heavyOfWeighed_2 (ct : am_T) (n : Nat) (i : Nat) (x1 : Int32) (x2 : Int32) (g : am_G) : am_run ct 27 (n + 1) 2 [some (.inr (.inr (1, i))), some (.inl x1), some (.inl x2)] [] g =
  if (g 102 i 0) ≤ x2 then
    (some (some (.inl (-1 : Int32)), g))
  else
    (bif am_in x2 24 then
      (if (g 2 i x2.toNatClampNeg) = x1 then
      (bif am_in x2 24 then
        (bif am_in x1 24 then
        (if ((2 : Int32) * (g 7 i x2.toNatClampNeg)) ≤ (g 7 i x1.toNatClampNeg) then
        (am_run ct 27 n 2 [some (.inr (.inr (1, i))), some (.inl x1), some (.inl (x2 + 1))] [] g)
      else
        (some (some (.inl x2), g)))
      else none)
      else none)
    else
      (am_run ct 27 n 2 [some (.inr (.inr (1, i))), some (.inl x1), some (.inl (x2 + 1))] [] g))
    else none) := rfl
set_option maxRecDepth 50000 in
theorem eF_heavyNotPreferred_0 (ct : am_T) (n : Nat) (i : Nat) (g : am_G) : am_run ct 28 (n + 1) 0 [some (.inr (.inr (1, i))), none, none, none] [] g =
  am_bv (ct 22 [.inr (.inr (1, i))] g) (fun g1 =>
  am_run ct 28 n 6 [some (.inr (.inr (1, i))), some (.inl (0 : Int32)), some (.inl (0 : Int32)), none] [] g1) := rfl
set_option maxRecDepth 50000 in
theorem eF_heavyNotPreferred_6 (ct : am_T) (n : Nat) (i : Nat) (x1 : Int32) (x2 : Int32) (o3 : Option am_V) (g : am_G) : am_run ct 28 (n + 1) 6 [some (.inr (.inr (1, i))), some (.inl x1), some (.inl x2), o3] [] g =
  if (g 102 i 0) ≤ x2 then
    (some (some (.inl x1), g))
  else
    (am_bi (ct 27 [.inr (.inr (1, i)), .inl x2] g) (fun r1 g1 =>
    if r1 = (-1 : Int32) then
      (am_run ct 28 n 6 [some (.inr (.inr (1, i))), some (.inl x1), some (.inl (x2 + 1)), some (.inl r1)] [] g1)
    else
      (bif am_in x2 24 then
        (if (g1 3 i x2.toNatClampNeg) = r1 then
        (am_run ct 28 n 6 [some (.inr (.inr (1, i))), some (.inl x1), some (.inl (x2 + 1)), some (.inl r1)] [] g1)
      else
        (am_run ct 28 n 6 [some (.inr (.inr (1, i))), some (.inl (x1 + 1)), some (.inl (x2 + 1)), some (.inl r1)] [] g1))
      else none))) := rfl
set_option maxRecDepth 50000 in
theorem eF_switchesTo_0 (ct : am_T) (n : Nat) (i : Nat) (x1 : Int32) (g : am_G) : am_run ct 29 (n + 1) 0 [some (.inr (.inr (1, i))), some (.inl x1), none, none, none, none] [] g =
  bif am_in x1 24 then
    (am_run ct 29 n 11 [some (.inr (.inr (1, i))), some (.inl x1), some (.inl (0 : Int32)), some (.inl x1), some (.inl (g 2 i x1.toNatClampNeg)), some (.inl (0 : Int32))] [] g)
  else none := rfl
set_option maxRecDepth 50000 in
theorem eF_switchesTo_11 (ct : am_T) (n : Nat) (i : Nat) (x1 : Int32) (x2 : Int32) (x3 : Int32) (x4 : Int32) (x5 : Int32) (g : am_G) : am_run ct 29 (n + 1) 11 [some (.inr (.inr (1, i))), some (.inl x1), some (.inl x2), some (.inl x3), some (.inl x4), some (.inl x5)] [] g =
  if (24 : Int32) ≤ x5 then
    (some (some (.inl x2), g))
  else
    (if x4 = (-1 : Int32) then
      (some (some (.inl x2), g))
    else
      (bif am_in x4 24 then
        (if (g 3 i x4.toNatClampNeg) = x3 then
        (bif am_in x4 24 then
          (am_run ct 29 n 11 [some (.inr (.inr (1, i))), some (.inl x1), some (.inl x2), some (.inl x4), some (.inl (g 2 i x4.toNatClampNeg)), some (.inl (x5 + 1))] [] g)
        else none)
      else
        (bif am_in x4 24 then
          (am_run ct 29 n 11 [some (.inr (.inr (1, i))), some (.inl x1), some (.inl (x2 + 1)), some (.inl x4), some (.inl (g 2 i x4.toNatClampNeg)), some (.inl (x5 + 1))] [] g)
        else none))
      else none)) := rfl
set_option maxRecDepth 50000 in
theorem eF_lowerOfExtreme_5_0 (ct : am_T) (n : Nat) (i : Nat) (x1 : Int32) (x3 : Int32) (g : am_G) : am_run ct 30 (n + 1) 0 [some (.inr (.inr (1, i))), some (.inl x1), some (.inr (.inr (5, i))), some (.inl x3), none, none, none] [] g =
  am_bi (ct 11 [.inr (.inr (1, i)), .inl x1] g) (fun r1 g1 =>
  am_run ct 30 n 8 [some (.inr (.inr (1, i))), some (.inl x1), some (.inr (.inr (5, i))), some (.inl x3), some (.inl r1), some (.inl (-2 : Int32)), some (.inl (0 : Int32))] [] g1) := rfl
set_option maxRecDepth 50000 in
theorem eF_lowerOfExtreme_5_8 (ct : am_T) (n : Nat) (i : Nat) (x1 : Int32) (x3 : Int32) (x4 : Int32) (x5 : Int32) (x6 : Int32) (g : am_G) : am_run ct 30 (n + 1) 8 [some (.inr (.inr (1, i))), some (.inl x1), some (.inr (.inr (5, i))), some (.inl x3), some (.inl x4), some (.inl x5), some (.inl x6)] [] g =
  if (g 102 i 0) ≤ x6 then
    (some (some (.inl x5), g))
  else
    (if x6 = x4 then
      (am_run ct 30 n 8 [some (.inr (.inr (1, i))), some (.inl x1), some (.inr (.inr (5, i))), some (.inl x3), some (.inl x4), some (.inl x5), some (.inl (x6 + 1))] [] g)
    else
      (am_bi (ct 11 [.inr (.inr (1, i)), .inl x6] g) (fun r1 g1 =>
      if r1 = x4 then
        (if x5 = (-2 : Int32) then
          (am_run ct 30 n 8 [some (.inr (.inr (1, i))), some (.inl x1), some (.inr (.inr (5, i))), some (.inl x3), some (.inl x4), some (.inl x6), some (.inl (x6 + 1))] [] g1)
        else
          (bif am_in x6 24 then
            (bif am_in x5 24 then
            (if (x3 * (g1 5 i x6.toNatClampNeg)) ≤ (x3 * (g1 5 i x5.toNatClampNeg)) then
            (am_run ct 30 n 8 [some (.inr (.inr (1, i))), some (.inl x1), some (.inr (.inr (5, i))), some (.inl x3), some (.inl x4), some (.inl x5), some (.inl (x6 + 1))] [] g1)
          else
            (am_run ct 30 n 8 [some (.inr (.inr (1, i))), some (.inl x1), some (.inr (.inr (5, i))), some (.inl x3), some (.inl x4), some (.inl x6), some (.inl (x6 + 1))] [] g1))
          else none)
          else none))
      else
        (am_run ct 30 n 8 [some (.inr (.inr (1, i))), some (.inl x1), some (.inr (.inr (5, i))), some (.inl x3), some (.inl x4), some (.inl x5), some (.inl (x6 + 1))] [] g1)))) := rfl
set_option maxRecDepth 50000 in
theorem eF_lowerOfExtreme_4_0 (ct : am_T) (n : Nat) (i : Nat) (x1 : Int32) (x3 : Int32) (g : am_G) : am_run ct 30 (n + 1) 0 [some (.inr (.inr (1, i))), some (.inl x1), some (.inr (.inr (4, i))), some (.inl x3), none, none, none] [] g =
  am_bi (ct 11 [.inr (.inr (1, i)), .inl x1] g) (fun r1 g1 =>
  am_run ct 30 n 8 [some (.inr (.inr (1, i))), some (.inl x1), some (.inr (.inr (4, i))), some (.inl x3), some (.inl r1), some (.inl (-2 : Int32)), some (.inl (0 : Int32))] [] g1) := rfl
set_option maxRecDepth 50000 in
theorem eF_lowerOfExtreme_4_8 (ct : am_T) (n : Nat) (i : Nat) (x1 : Int32) (x3 : Int32) (x4 : Int32) (x5 : Int32) (x6 : Int32) (g : am_G) : am_run ct 30 (n + 1) 8 [some (.inr (.inr (1, i))), some (.inl x1), some (.inr (.inr (4, i))), some (.inl x3), some (.inl x4), some (.inl x5), some (.inl x6)] [] g =
  if (g 102 i 0) ≤ x6 then
    (some (some (.inl x5), g))
  else
    (if x6 = x4 then
      (am_run ct 30 n 8 [some (.inr (.inr (1, i))), some (.inl x1), some (.inr (.inr (4, i))), some (.inl x3), some (.inl x4), some (.inl x5), some (.inl (x6 + 1))] [] g)
    else
      (am_bi (ct 11 [.inr (.inr (1, i)), .inl x6] g) (fun r1 g1 =>
      if r1 = x4 then
        (if x5 = (-2 : Int32) then
          (am_run ct 30 n 8 [some (.inr (.inr (1, i))), some (.inl x1), some (.inr (.inr (4, i))), some (.inl x3), some (.inl x4), some (.inl x6), some (.inl (x6 + 1))] [] g1)
        else
          (bif am_in x6 24 then
            (bif am_in x5 24 then
            (if (x3 * (g1 4 i x6.toNatClampNeg)) ≤ (x3 * (g1 4 i x5.toNatClampNeg)) then
            (am_run ct 30 n 8 [some (.inr (.inr (1, i))), some (.inl x1), some (.inr (.inr (4, i))), some (.inl x3), some (.inl x4), some (.inl x5), some (.inl (x6 + 1))] [] g1)
          else
            (am_run ct 30 n 8 [some (.inr (.inr (1, i))), some (.inl x1), some (.inr (.inr (4, i))), some (.inl x3), some (.inl x4), some (.inl x6), some (.inl (x6 + 1))] [] g1))
          else none)
          else none))
      else
        (am_run ct 30 n 8 [some (.inr (.inr (1, i))), some (.inl x1), some (.inr (.inr (4, i))), some (.inl x3), some (.inl x4), some (.inl x5), some (.inl (x6 + 1))] [] g1)))) := rfl
set_option maxRecDepth 50000 in
theorem eF_midstOfTreeOf_0 (ct : am_T) (n : Nat) (i : Nat) (x1 : Int32) (g : am_G) : am_run ct 31 (n + 1) 0 [some (.inr (.inr (1, i))), some (.inl x1), none, none, none, none, none] [] g =
  am_bi (ct 11 [.inr (.inr (1, i)), .inl x1] g) (fun r1 g1 =>
  am_bv (ct 22 [.inr (.inr (1, i))] g1) (fun g2 =>
  am_run ct 31 n 12 [some (.inr (.inr (1, i))), some (.inl x1), some (.inl r1), some (.inl (-1 : Int32)), some (.inl (24 : Int32)), some (.inl (0 : Int32)), none] [] g2)) := rfl
set_option maxRecDepth 50000 in
theorem eF_midstOfTreeOf_12 (ct : am_T) (n : Nat) (i : Nat) (x1 : Int32) (x2 : Int32) (x3 : Int32) (x4 : Int32) (x5 : Int32) (o6 : Option am_V) (g : am_G) : am_run ct 31 (n + 1) 12 [some (.inr (.inr (1, i))), some (.inl x1), some (.inl x2), some (.inl x3), some (.inl x4), some (.inl x5), o6] [] g =
  if (g 102 i 0) ≤ x5 then
    (some (some (.inl x3), g))
  else
    (am_bi (ct 11 [.inr (.inr (1, i)), .inl x5] g) (fun r1 g1 =>
    if r1 = x2 then
      (bif am_in x2 24 then
        (am_bi (ct 32 [.inr (.inr (1, i)), .inl x5, .inl (g1 7 i x2.toNatClampNeg)] g1) (fun r2 g2 =>
      if x3 = (-1 : Int32) then
        (am_run ct 31 n 12 [some (.inr (.inr (1, i))), some (.inl x1), some (.inl x2), some (.inl x5), some (.inl r2), some (.inl (x5 + 1)), some (.inl r2)] [] g2)
      else
        (if x4 ≤ r2 then
          (am_run ct 31 n 12 [some (.inr (.inr (1, i))), some (.inl x1), some (.inl x2), some (.inl x3), some (.inl x4), some (.inl (x5 + 1)), some (.inl r2)] [] g2)
        else
          (am_run ct 31 n 12 [some (.inr (.inr (1, i))), some (.inl x1), some (.inl x2), some (.inl x5), some (.inl r2), some (.inl (x5 + 1)), some (.inl r2)] [] g2))))
      else none)
    else
      (am_run ct 31 n 12 [some (.inr (.inr (1, i))), some (.inl x1), some (.inl x2), some (.inl x3), some (.inl x4), some (.inl (x5 + 1)), o6] [] g1))) := rfl
set_option maxRecDepth 50000 in
theorem eF_greatestPartOfWeighed_0 (ct : am_T) (n : Nat) (i : Nat) (x1 : Int32) (x2 : Int32) (g : am_G) : am_run ct 32 (n + 1) 0 [some (.inr (.inr (1, i))), some (.inl x1), some (.inl x2), none, none] [] g =
  bif am_in x1 24 then
    (am_run ct 32 n 9 [some (.inr (.inr (1, i))), some (.inl x1), some (.inl x2), some (.inl (x2 - (g 7 i x1.toNatClampNeg))), some (.inl (0 : Int32))] [] g)
  else none := rfl
set_option maxRecDepth 50000 in
theorem eF_greatestPartOfWeighed_9 (ct : am_T) (n : Nat) (i : Nat) (x1 : Int32) (x2 : Int32) (x3 : Int32) (x4 : Int32) (g : am_G) : am_run ct 32 (n + 1) 9 [some (.inr (.inr (1, i))), some (.inl x1), some (.inl x2), some (.inl x3), some (.inl x4)] [] g =
  if (g 102 i 0) ≤ x4 then
    (some (some (.inl x3), g))
  else
    (bif am_in x4 24 then
      (if (g 2 i x4.toNatClampNeg) = x1 then
      (bif am_in x4 24 then
        (am_run ct 32 n 9 [some (.inr (.inr (1, i))), some (.inl x1), some (.inl x2), some (.inl (if x3 < (g 7 i x4.toNatClampNeg) then (g 7 i x4.toNatClampNeg) else x3)), some (.inl (x4 + 1))] [] g)
      else none)
    else
      (am_run ct 32 n 9 [some (.inr (.inr (1, i))), some (.inl x1), some (.inl x2), some (.inl x3), some (.inl (x4 + 1))] [] g))
    else none) := rfl
set_option maxRecDepth 50000 in
theorem eF_partsBy_0 (ct : am_T) (n : Nat) (i : Nat) (x1 : Int32) (g : am_G) : am_run ct 33 (n + 1) 0 [some (.inr (.inr (1, i))), some (.inl x1), none, none] [] g =
  am_run ct 33 n 5 [some (.inr (.inr (1, i))), some (.inl x1), some (.inl (g 102 i 0)), some (.inl (0 : Int32))] [] g := rfl
set_option maxRecDepth 50000 in
theorem eF_partsBy_5 (ct : am_T) (n : Nat) (i : Nat) (x1 : Int32) (x2 : Int32) (x3 : Int32) (g : am_G) : am_run ct 33 (n + 1) 5 [some (.inr (.inr (1, i))), some (.inl x1), some (.inl x2), some (.inl x3)] [] g =
  if (g 102 i 0) ≤ x3 then
    (some (some (.inl x2), g))
  else
    (bif am_in x3 24 then
      (if (g 2 i x3.toNatClampNeg) = (-1 : Int32) then
      (am_run ct 33 n 5 [some (.inr (.inr (1, i))), some (.inl x1), some (.inl x2), some (.inl (x3 + 1))] [] g)
    else
      (bif am_in x3 24 then
        (if x1 < (g 4 i x3.toNatClampNeg) then
        (am_run ct 33 n 5 [some (.inr (.inr (1, i))), some (.inl x1), some (.inl x2), some (.inl (x3 + 1))] [] g)
      else
        (am_run ct 33 n 5 [some (.inr (.inr (1, i))), some (.inl x1), some (.inl (x2 + (-1))), some (.inl (x3 + 1))] [] g))
      else none))
    else none) := rfl
set_option maxRecDepth 50000 in
theorem eF_leastLengthFor_0 (ct : am_T) (n : Nat) (i : Nat) (x1 : Int32) (g : am_G) : am_run ct 34 (n + 1) 0 [some (.inr (.inr (1, i))), some (.inl x1), none, none] [] g =
  am_bi (ct 33 [.inr (.inr (1, i)), .inl (0 : Int32)] g) (fun r1 g1 =>
  if x1 < r1 then
    (am_run ct 34 n 11 [some (.inr (.inr (1, i))), some (.inl x1), some (.inl (-1 : Int32)), some (.inl (0 : Int32))] [] g1)
  else
    (some (some (.inl (0 : Int32)), g1))) := rfl
set_option maxRecDepth 50000 in
theorem eF_leastLengthFor_11 (ct : am_T) (n : Nat) (i : Nat) (x1 : Int32) (x2 : Int32) (x3 : Int32) (g : am_G) : am_run ct 34 (n + 1) 11 [some (.inr (.inr (1, i))), some (.inl x1), some (.inl x2), some (.inl x3)] [] g =
  if (g 102 i 0) ≤ x3 then
    (some (some (.inl x2), g))
  else
    (bif am_in x3 24 then
      (if (g 2 i x3.toNatClampNeg) = (-1 : Int32) then
      (am_run ct 34 n 11 [some (.inr (.inr (1, i))), some (.inl x1), some (.inl x2), some (.inl (x3 + 1))] [] g)
    else
      (if x2 = (-1 : Int32) then
        (bif am_in x3 24 then
          (am_bi (ct 33 [.inr (.inr (1, i)), .inl (g 4 i x3.toNatClampNeg)] g) (fun r1 g1 =>
        if x1 < r1 then
          (am_run ct 34 n 11 [some (.inr (.inr (1, i))), some (.inl x1), some (.inl x2), some (.inl (x3 + 1))] [] g1)
        else
          (bif am_in x3 24 then
            (am_run ct 34 n 11 [some (.inr (.inr (1, i))), some (.inl x1), some (.inl (g1 4 i x3.toNatClampNeg)), some (.inl (x3 + 1))] [] g1)
          else none)))
        else none)
      else
        (bif am_in x3 24 then
          (if x2 ≤ (g 4 i x3.toNatClampNeg) then
          (am_run ct 34 n 11 [some (.inr (.inr (1, i))), some (.inl x1), some (.inl x2), some (.inl (x3 + 1))] [] g)
        else
          (bif am_in x3 24 then
            (am_bi (ct 33 [.inr (.inr (1, i)), .inl (g 4 i x3.toNatClampNeg)] g) (fun r2 g2 =>
          if x1 < r2 then
            (am_run ct 34 n 11 [some (.inr (.inr (1, i))), some (.inl x1), some (.inl x2), some (.inl (x3 + 1))] [] g2)
          else
            (bif am_in x3 24 then
              (am_run ct 34 n 11 [some (.inr (.inr (1, i))), some (.inl x1), some (.inl (g2 4 i x3.toNatClampNeg)), some (.inl (x3 + 1))] [] g2)
            else none)))
          else none))
        else none)))
    else none) := rfl
