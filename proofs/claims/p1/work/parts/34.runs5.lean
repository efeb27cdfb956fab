set_option maxRecDepth 1000000 in
theorem g_a36 : g_all 36 [(0, 4294967295)] [(0, 4294967295)] [(0, 4294967295)] [0] = true := by decide +kernel
