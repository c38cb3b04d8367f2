set_option maxRecDepth 100000 in
theorem am_ok14 : ∀ j, j < 12 → am_ckp (168 + j) = true := by decide +kernel
set_option maxRecDepth 100000 in
theorem am_ok15 : ∀ j, j < 12 → am_ckp (180 + j) = true := by decide +kernel
set_option maxRecDepth 100000 in
theorem am_ok16 : ∀ j, j < 12 → am_ckp (192 + j) = true := by decide +kernel
set_option maxRecDepth 100000 in
theorem am_ok17 : ∀ j, j < 12 → am_ckp (204 + j) = true := by decide +kernel
set_option maxRecDepth 100000 in
theorem am_ok18 : ∀ j, j < 12 → am_ckp (216 + j) = true := by decide +kernel
set_option maxRecDepth 100000 in
theorem am_ok19 : ∀ j, j < 10 → am_ckp (228 + j) = true := by decide +kernel
theorem am_okall (mi : Nat) (h : mi < 238) : am_ckp mi = true := by
  have e : mi = 12 * (mi / 12) + mi % 12 := by omega
  have hj : mi % 12 < 12 := by omega
  have hk : mi / 12 < 20 := by omega
  generalize mi / 12 = k at e hk
  generalize mi % 12 = j at e hj
  subst e
  match k, hk, h with
  | 0, _, h => exact am_ok0 j (by omega)
  | 1, _, h => exact am_ok1 j (by omega)
  | 2, _, h => exact am_ok2 j (by omega)
  | 3, _, h => exact am_ok3 j (by omega)
  | 4, _, h => exact am_ok4 j (by omega)
  | 5, _, h => exact am_ok5 j (by omega)
  | 6, _, h => exact am_ok6 j (by omega)
  | 7, _, h => exact am_ok7 j (by omega)
  | 8, _, h => exact am_ok8 j (by omega)
  | 9, _, h => exact am_ok9 j (by omega)
  | 10, _, h => exact am_ok10 j (by omega)
  | 11, _, h => exact am_ok11 j (by omega)
  | 12, _, h => exact am_ok12 j (by omega)
  | 13, _, h => exact am_ok13 j (by omega)
  | 14, _, h => exact am_ok14 j (by omega)
  | 15, _, h => exact am_ok15 j (by omega)
  | 16, _, h => exact am_ok16 j (by omega)
  | 17, _, h => exact am_ok17 j (by omega)
  | 18, _, h => exact am_ok18 j (by omega)
  | 19, _, h => exact am_ok19 j (by omega)
  | _ + 20, hk, _ => exact absurd hk (by omega)
