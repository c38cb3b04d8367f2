set_option maxRecDepth 100000 in
theorem am_ok0 : ∀ j, j < 12 → am_ckp (0 + j) = true := by decide +kernel
set_option maxRecDepth 100000 in
theorem am_ok1 : ∀ j, j < 12 → am_ckp (12 + j) = true := by decide +kernel
set_option maxRecDepth 100000 in
theorem am_ok2 : ∀ j, j < 12 → am_ckp (24 + j) = true := by decide +kernel
set_option maxRecDepth 100000 in
theorem am_ok3 : ∀ j, j < 12 → am_ckp (36 + j) = true := by decide +kernel
set_option maxRecDepth 100000 in
theorem am_ok4 : ∀ j, j < 12 → am_ckp (48 + j) = true := by decide +kernel
set_option maxRecDepth 100000 in
theorem am_ok5 : ∀ j, j < 12 → am_ckp (60 + j) = true := by decide +kernel
set_option maxRecDepth 100000 in
theorem am_ok6 : ∀ j, j < 12 → am_ckp (72 + j) = true := by decide +kernel
