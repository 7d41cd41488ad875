theorem rz_2 : ∀ most, most < 17 → 5 ≤ most → rz_ 6 most = none := by decide +kernel
theorem rz_3 : rz_ 6 17 = some [0, 1, 4, 10, 12, 17] := by decide +kernel
