/-! ===== the law's cases: their instructions (by wip/whole/src/gen75.py) ===== -/
theorem la_k0 : la_ckc 228 5 21 25 = true ∧ am_ckv am_inf "TownForestLaw" 21 [84, 5 + 1, 1, 9 + 1, 373] = true ∧ am_ckv am_inf "TownForestLaw" 25 [133, 5 + 1, 1, 10 + 1, 1148] = true := by decide +kernel
theorem la_k1 : la_ckc 301 1 26 30 = true ∧ am_ckv am_inf "TownForestLaw" 26 [85, 1 + 1, 1, 9 + 1, 381] = true ∧ am_ckv am_inf "TownForestLaw" 30 [163, 1 + 1, 1, 10 + 1, 1180] = true := by decide +kernel
theorem la_k2 : la_ckc 326 1 31 34 = true ∧ am_ckv am_inf "TownForestLaw" 31 [86, 1 + 1, 1, 9 + 1, 555] = true ∧ am_ckv am_inf "TownForestLaw" 34 [164, 1 + 1, 1, 10 + 1, 1291] = true := by decide +kernel
theorem la_k3 : la_ckc 351 1 35 38 = true ∧ am_ckv am_inf "TownForestLaw" 35 [87, 1 + 1, 1, 9 + 1, 559] = true ∧ am_ckv am_inf "TownForestLaw" 38 [165, 1 + 1, 1, 10 + 1, 1295] = true := by decide +kernel
theorem la_k4 : la_ckc 376 1 39 42 = true ∧ am_ckv am_inf "TownForestLaw" 39 [88, 1 + 1, 1, 9 + 1, 564] = true ∧ am_ckv am_inf "TownForestLaw" 42 [176, 1 + 1, 1, 10 + 1, 1299] = true := by decide +kernel
theorem la_k5 : la_ckc 401 1 43 46 = true ∧ am_ckv am_inf "TownForestLaw" 43 [89, 1 + 1, 1, 9 + 1, 575] = true ∧ am_ckv am_inf "TownForestLaw" 46 [177, 1 + 1, 1, 10 + 1, 1311] = true := by decide +kernel
theorem la_k6 : la_ckc 426 4 47 51 = true ∧ am_ckv am_inf "TownForestLaw" 47 [90, 4 + 1, 1, 9 + 1, 580] = true ∧ am_ckv am_inf "TownForestLaw" 51 [181, 4 + 1, 1, 10 + 1, 1315] = true := by decide +kernel
theorem la_k7 : la_ckc 487 2 52 55 = true ∧ am_ckv am_inf "TownForestLaw" 52 [91, 2 + 1, 1, 9 + 1, 597] = true ∧ am_ckv am_inf "TownForestLaw" 55 [182, 2 + 1, 1, 10 + 1, 1326] = true := by decide +kernel
theorem la_k8 : la_ckc 524 2 56 59 = true ∧ am_ckv am_inf "TownForestLaw" 56 [92, 2 + 1, 1, 9 + 1, 609] = true ∧ am_ckv am_inf "TownForestLaw" 59 [183, 2 + 1, 1, 10 + 1, 1338] = true := by decide +kernel
theorem la_k9 : la_ckc 561 1 60 63 = true ∧ am_ckv am_inf "TownForestLaw" 60 [93, 1 + 1, 1, 9 + 1, 663] = true ∧ am_ckv am_inf "TownForestLaw" 63 [184, 1 + 1, 1, 10 + 1, 1346] = true := by decide +kernel
theorem la_k10 : la_ckc 586 2 64 67 = true ∧ am_ckv am_inf "TownForestLaw" 64 [94, 2 + 1, 1, 9 + 1, 667] = true ∧ am_ckv am_inf "TownForestLaw" 67 [187, 2 + 1, 1, 10 + 1, 1350] = true := by decide +kernel
theorem la_k11 : la_ckc 623 3 68 72 = true ∧ am_ckv am_inf "TownForestLaw" 68 [95, 3 + 1, 1, 9 + 1, 672] = true ∧ am_ckv am_inf "TownForestLaw" 72 [188, 3 + 1, 1, 10 + 1, 1358] = true := by decide +kernel
theorem la_k12 : la_ckc 672 2 73 76 = true ∧ am_ckv am_inf "TownForestLaw" 73 [96, 2 + 1, 1, 9 + 1, 685] = true ∧ am_ckv am_inf "TownForestLaw" 76 [192, 2 + 1, 1, 10 + 1, 1370] = true := by decide +kernel
theorem la_k13 : la_ckc 709 3 77 80 = true ∧ am_ckv am_inf "TownForestLaw" 77 [97, 3 + 1, 1, 9 + 1, 695] = true ∧ am_ckv am_inf "TownForestLaw" 80 [189, 3 + 1, 1, 10 + 1, 1362] = true := by decide +kernel
theorem la_k14 : la_ckc 758 1 81 84 = true ∧ am_ckv am_inf "TownForestLaw" 81 [98, 1 + 1, 1, 9 + 1, 699] = true ∧ am_ckv am_inf "TownForestLaw" 84 [191, 1 + 1, 1, 10 + 1, 1366] = true := by decide +kernel
