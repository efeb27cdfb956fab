set_option maxRecDepth 1000000 in
theorem g_a25 : g_all 25 [(0, 4294967295)] [(0, 4294967295)] [(0, 4294967295)] [0] = true := by decide +kernel
set_option maxRecDepth 1000000 in
theorem g_a26 : g_all 26 [(0, 4294967295)] [(0, 4294967295)] [(0, 4294967295)] [0] = true := by decide +kernel
