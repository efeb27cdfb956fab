set_option maxRecDepth 1000000 in
theorem g_a31 : g_all 31 [(0, 2147483647), (2147483648, 4294967295)] [(0, 4294967295)] [(0, 4294967295)] [0] = true := by decide +kernel
set_option maxRecDepth 1000000 in
theorem g_a32 : g_all 32 [(0, 4294967295)] [(0, 4294967295)] [(0, 4294967295)] [0] = true := by decide +kernel
set_option maxRecDepth 1000000 in
theorem g_a33 : g_all 33 [(0, 2147483647), (2147483648, 4294967295)] [(0, 4294967295)] [(0, 4294967295)] [1, 2] = true := by decide +kernel
set_option maxRecDepth 1000000 in
theorem g_a34 : g_all 34 [(0, 2147483647), (2147483648, 4294967295)] [(0, 4294967295)] [(0, 4294967295)] [0] = true := by decide +kernel
set_option maxRecDepth 1000000 in
theorem g_a35 : g_all 35 [(0, 2147483647), (2147483648, 4294967295)] [(0, 4294967295)] [(0, 4294967295)] [0] = true := by decide +kernel
set_option maxRecDepth 1000000 in
theorem g_a37 : g_all 37 [(0, 2147483647), (2147483648, 2147483708), (2147483709, 4294967295)] [(0, 4294967295)] [(0, 4294967295)] [0] = true := by decide +kernel
set_option maxRecDepth 1000000 in
theorem g_a38 : g_all 38 [(0, 2147483647), (2147483648, 4294967295)] [(0, 4294967295)] [(0, 4294967295)] [0] = true := by decide +kernel
set_option maxRecDepth 1000000 in
theorem g_a39 : g_all 39 [(0, 4294967295)] [(0, 4294967295)] [(0, 4294967295)] [0] = true := by decide +kernel
set_option maxRecDepth 1000000 in
theorem g_a40 : g_all 40 [(0, 2147483647), (2147483648, 2147483648), (2147483649, 2147483649), (2147483650, 4294967295)] [(0, 4294967295)] [(0, 4294967295)] [0] = true := by decide +kernel
set_option maxRecDepth 1000000 in
theorem g_a41 : g_all 41 [(0, 4294967295)] [(0, 4294967295)] [(0, 4294967295)] [0] = true := by decide +kernel
set_option maxRecDepth 1000000 in
theorem g_a42 : g_all 42 [(0, 4294967295)] [(0, 4294967295)] [(0, 4294967295)] [0] = true := by decide +kernel
set_option maxRecDepth 1000000 in
theorem g_a43 : g_all 43 [(0, 4294967295)] [(0, 4294967295)] [(0, 4294967295)] [0] = true := by decide +kernel
set_option maxRecDepth 1000000 in
theorem g_a44 : g_all 44 [(0, 4294967295)] [(0, 4294967295)] [(0, 4294967295)] [0] = true := by decide +kernel
set_option maxRecDepth 1000000 in
theorem g_a45 : g_all 45 [(0, 2147483648), (2147483649, 2147483708), (2147483709, 4294967295)] [(0, 4294967295)] [(0, 4294967295)] [0] = true := by decide +kernel
set_option maxRecDepth 1000000 in
theorem g_a47 : g_all 47 [(0, 2147483647), (2147483648, 4294967295)] [(0, 4294967295)] [(0, 4294967295)] [0] = true := by decide +kernel
set_option maxRecDepth 1000000 in
theorem g_a49 : g_all 49 [(0, 2147483647), (2147483648, 4294967295)] [(0, 4294967295)] [(0, 4294967295)] [0] = true := by decide +kernel
set_option maxRecDepth 1000000 in
theorem g_a50 : g_all 50 [(0, 2147483647), (2147483648, 2147484648), (2147484649, 4294967295)] [(0, 4294967295)] [(0, 4294967295)] [0] = true := by decide +kernel
set_option maxRecDepth 1000000 in
theorem g_a51 : g_all 51 [(0, 4294967295)] [(0, 4294967295)] [(0, 4294967295)] [0] = true := by decide +kernel
set_option maxRecDepth 1000000 in
theorem g_a52 : g_all 52 [(0, 2147483647), (2147483648, 2147483648), (2147483649, 2147483649), (2147483650, 4294967295)] [(0, 4294967295)] [(0, 4294967295)] [0] = true := by decide +kernel
set_option maxRecDepth 1000000 in
theorem g_a53 : g_all 53 [(0, 2147483647), (2147483648, 2147483648), (2147483649, 2147483649), (2147483650, 4294967295)] [(0, 4294967295)] [(0, 4294967295)] [0] = true := by decide +kernel
set_option maxRecDepth 1000000 in
theorem g_a54 : g_all 54 [(0, 2147483647), (2147483648, 2147483648), (2147483649, 2147483649), (2147483650, 2147483650), (2147483651, 4294967295)] [(0, 4294967295)] [(0, 4294967295)] [0] = true := by decide +kernel
set_option maxRecDepth 1000000 in
theorem g_a55 : g_all 55 [(0, 2147483647), (2147483648, 2147483648), (2147483649, 2147483649), (2147483650, 2147483650), (2147483651, 4294967295)] [(0, 4294967295)] [(0, 4294967295)] [0] = true := by decide +kernel
set_option maxRecDepth 1000000 in
theorem g_a57 : g_all 57 [(0, 4294967295)] [(0, 4294967295)] [(0, 4294967295)] [0] = true := by decide +kernel
set_option maxRecDepth 1000000 in
theorem g_a58 : g_all 58 [(0, 4294967295)] [(0, 4294967295)] [(0, 4294967295)] [0] = true := by decide +kernel
set_option maxRecDepth 1000000 in
theorem g_a59 : g_all 59 [(0, 4294967295)] [(0, 4294967295)] [(0, 4294967295)] [0] = true := by decide +kernel
set_option maxRecDepth 1000000 in
theorem g_a60 : g_all 60 [(0, 4294967295)] [(0, 4294967295)] [(0, 4294967295)] [0] = true := by decide +kernel
set_option maxRecDepth 1000000 in
theorem g_a61 : g_all 61 [(0, 4294967295)] [(0, 4294967295)] [(0, 4294967295)] [0] = true := by decide +kernel
set_option maxRecDepth 1000000 in
theorem g_a62 : g_all 62 [(0, 4294967295)] [(0, 4294967295)] [(0, 4294967295)] [0] = true := by decide +kernel
set_option maxRecDepth 1000000 in
theorem g_a63 : g_all 63 [(0, 4294967295)] [(0, 4294967295)] [(0, 4294967295)] [0] = true := by decide +kernel
