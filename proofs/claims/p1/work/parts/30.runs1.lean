set_option maxRecDepth 1000000 in
theorem g_fewok : ∀ n, n < 6 → g_end (g_run q_K0 ((List.range n).map (fun i => .inr (i, 0, 0)))) = true := by decide +kernel
set_option maxRecDepth 1000000 in
theorem g_a0 : g_all 0 [(0, 4294967295)] [(0, 4294967295)] [(0, 4294967295)] [0] = true := by decide +kernel
set_option maxRecDepth 1000000 in
theorem g_a1 : g_all 1 [(0, 2147483647), (2147483648, 2147483648), (2147483649, 4294967295)] [(0, 4294967295)] [(0, 4294967295)] [0] = true := by decide +kernel
set_option maxRecDepth 1000000 in
theorem g_a2 : g_all 2 [(0, 4294967295)] [(0, 4294967295)] [(0, 4294967295)] [0] = true := by decide +kernel
set_option maxRecDepth 1000000 in
theorem g_a3 : g_all 3 [(0, 2147483647), (2147483648, 2147483648), (2147483649, 2147483649), (2147483650, 4294967295)] [(0, 4294967295)] [(0, 4294967295)] [0] = true := by decide +kernel
set_option maxRecDepth 1000000 in
theorem g_a4 : g_all 4 [(0, 2147483647), (2147483648, 4294967295)] [(0, 4294967295)] [(0, 4294967295)] [0] = true := by decide +kernel
set_option maxRecDepth 1000000 in
theorem g_a5 : g_all 5 [(0, 2147483647), (2147483648, 4294967295)] [(0, 4294967295)] [(0, 4294967295)] [0] = true := by decide +kernel
set_option maxRecDepth 1000000 in
theorem g_a6 : g_all 6 [(0, 2147483647), (2147483648, 4294967295)] [(0, 4294967295)] [(0, 4294967295)] [0] = true := by decide +kernel
set_option maxRecDepth 1000000 in
theorem g_a7 : g_all 7 [(0, 2147483647), (2147483648, 2147483648), (2147483649, 4294967295)] [(0, 2147483647), (2147483648, 2147483648), (2147483649, 2147483649), (2147483650, 4294967295)] [(0, 4294967295)] [0] = true := by decide +kernel
set_option maxRecDepth 1000000 in
theorem g_a8 : g_all 8 [(0, 2147483647), (2147483648, 4294967295)] [(0, 4294967295)] [(0, 4294967295)] [0] = true := by decide +kernel
set_option maxRecDepth 1000000 in
theorem g_a9 : g_all 9 [(0, 4294967295)] [(0, 4294967295)] [(0, 4294967295)] [0] = true := by decide +kernel
set_option maxRecDepth 1000000 in
theorem g_a10 : g_all 10 [(0, 2147483647), (2147483648, 4294967295)] [(0, 4294967295)] [(0, 4294967295)] [1, 2] = true := by decide +kernel
set_option maxRecDepth 1000000 in
theorem g_a11 : g_all 11 [(0, 2147483647), (2147483648, 4294967295)] [(0, 4294967295)] [(0, 4294967295)] [0] = true := by decide +kernel
set_option maxRecDepth 1000000 in
theorem g_a12 : g_all 12 [(0, 2147483647), (2147483648, 4294967295)] [(0, 4294967295)] [(0, 4294967295)] [0] = true := by decide +kernel
set_option maxRecDepth 1000000 in
theorem g_a13 : g_all 13 [(0, 2147483647), (2147483648, 4294967295)] [(0, 4294967295)] [(0, 4294967295)] [0] = true := by decide +kernel
set_option maxRecDepth 1000000 in
theorem g_a14 : g_all 14 [(0, 2147483647), (2147483648, 4294967295)] [(0, 4294967295)] [(0, 4294967295)] [0] = true := by decide +kernel
set_option maxRecDepth 1000000 in
theorem g_a15 : g_all 15 [(0, 2147483647), (2147483648, 4294967295)] [(0, 4294967295)] [(0, 4294967295)] [0] = true := by decide +kernel
set_option maxRecDepth 1000000 in
theorem g_a16 : g_all 16 [(0, 4294967295)] [(0, 4294967295)] [(0, 4294967295)] [0] = true := by decide +kernel
set_option maxRecDepth 1000000 in
theorem g_a17 : g_all 17 [(0, 4294967295)] [(0, 4294967295)] [(0, 4294967295)] [0] = true := by decide +kernel
set_option maxRecDepth 1000000 in
theorem g_a18 : g_all 18 [(0, 2147483647), (2147483648, 4294967295)] [(0, 4294967295)] [(0, 4294967295)] [0] = true := by decide +kernel
set_option maxRecDepth 1000000 in
theorem g_a19 : g_all 19 [(0, 2147483647), (2147483648, 4294967295)] [(0, 4294967295)] [(0, 4294967295)] [0] = true := by decide +kernel
set_option maxRecDepth 1000000 in
theorem g_a20 : g_all 20 [(0, 2147483647), (2147483648, 4294967295)] [(0, 4294967295)] [(0, 4294967295)] [0] = true := by decide +kernel
set_option maxRecDepth 1000000 in
theorem g_a21 : g_all 21 [(0, 4294967295)] [(0, 4294967295)] [(0, 4294967295)] [0] = true := by decide +kernel
set_option maxRecDepth 1000000 in
theorem g_a22 : g_all 22 [(0, 4294967295)] [(0, 4294967295)] [(0, 4294967295)] [0] = true := by decide +kernel
set_option maxRecDepth 1000000 in
theorem g_a23 : g_all 23 [(0, 4294967295)] [(0, 4294967295)] [(0, 4294967295)] [0] = true := by decide +kernel
set_option maxRecDepth 1000000 in
theorem g_a24 : g_all 24 [(0, 4294967295)] [(0, 4294967295)] [(0, 4294967295)] [0] = true := by decide +kernel
set_option maxRecDepth 1000000 in
theorem g_a27 : g_all 27 [(0, 2147483647), (2147483648, 2147483648), (2147483649, 2147483649), (2147483650, 4294967295)] [(0, 4294967295)] [(0, 4294967295)] [0] = true := by decide +kernel
set_option maxRecDepth 1000000 in
theorem g_a28 : g_all 28 [(0, 2147483647), (2147483648, 2147483648), (2147483649, 2147483649), (2147483650, 4294967295)] [(0, 4294967295)] [(0, 4294967295)] [0] = true := by decide +kernel
set_option maxRecDepth 1000000 in
theorem g_a29 : g_all 29 [(0, 2147483647), (2147483648, 4294967295)] [(0, 4294967295)] [(0, 4294967295)] [0] = true := by decide +kernel
set_option maxRecDepth 1000000 in
theorem g_a30 : g_all 30 [(0, 2147483647), (2147483648, 2147483648), (2147483649, 2147483649), (2147483650, 2147483650), (2147483651, 4294967295)] [(0, 4294967295)] [(0, 4294967295)] [0] = true := by decide +kernel
