set_option maxRecDepth 100000 in
theorem am_ok7 : ∀ j, j < 12 → am_ckp (84 + j) = true := by decide +kernel
set_option maxRecDepth 100000 in
theorem am_ok8 : ∀ j, j < 12 → am_ckp (96 + j) = true := by decide +kernel
set_option maxRecDepth 100000 in
theorem am_ok9 : ∀ j, j < 12 → am_ckp (108 + j) = true := by decide +kernel
set_option maxRecDepth 100000 in
theorem am_ok10 : ∀ j, j < 12 → am_ckp (120 + j) = true := by decide +kernel
set_option maxRecDepth 100000 in
theorem am_ok11 : ∀ j, j < 12 → am_ckp (132 + j) = true := by decide +kernel
set_option maxRecDepth 100000 in
theorem am_ok12 : ∀ j, j < 12 → am_ckp (144 + j) = true := by decide +kernel
set_option maxRecDepth 100000 in
theorem am_ok13 : ∀ j, j < 12 → am_ckp (156 + j) = true := by decide +kernel
