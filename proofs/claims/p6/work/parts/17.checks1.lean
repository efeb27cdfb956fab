set_option maxRecDepth 100000 in
theorem g_k65 : q_TK1 g_cl g_ty g_tbl g_ms g_m65 g_t65 := ⟨by decide +kernel, g_l0, g_lk0, q_ckt_ok (by decide +kernel)⟩
set_option maxRecDepth 100000 in
theorem g_k66 : q_TK1 g_cl g_ty g_tbl g_ms g_m66 g_t66 := ⟨by decide +kernel, g_l0, g_lk0, q_ckt_ok (by decide +kernel)⟩
set_option maxRecDepth 100000 in
theorem g_k67 : q_TK1 g_cl g_ty g_tbl g_ms g_m67 g_t67 := ⟨by decide +kernel, g_l0, g_lk0, q_ckt_ok (by decide +kernel)⟩
set_option maxRecDepth 100000 in
theorem g_k68 : q_TK1 g_cl g_ty g_tbl g_ms g_m68 g_t68 := ⟨by decide +kernel, g_l0, g_lk0, q_ckt_ok (by decide +kernel)⟩
set_option maxRecDepth 100000 in
theorem g_k69 : q_TK1 g_cl g_ty g_tbl g_ms g_m69 g_t69 := ⟨by decide +kernel, g_l0, g_lk0, q_ckt_ok (by decide +kernel)⟩
set_option maxRecDepth 100000 in
theorem g_k70 : q_TK1 g_cl g_ty g_tbl g_ms g_m70 g_t70 := ⟨by decide +kernel, g_l0, g_lk0, q_ckt_ok (by decide +kernel)⟩
set_option maxRecDepth 100000 in
theorem g_k71 : q_TK1 g_cl g_ty g_tbl g_ms g_m71 g_t71 := ⟨by decide +kernel, g_l0, g_lk0, q_ckt_ok (by decide +kernel)⟩
set_option maxRecDepth 100000 in
theorem g_k72 : q_TK1 g_cl g_ty g_tbl g_ms g_m72 g_t72 := ⟨by decide +kernel, g_l0, g_lk0, q_ckt_ok (by decide +kernel)⟩
set_option maxRecDepth 100000 in
theorem g_k73 : q_TK1 g_cl g_ty g_tbl g_ms g_m73 g_t73 := ⟨by decide +kernel, g_l0, g_lk0, q_ckt_ok (by decide +kernel)⟩
set_option maxRecDepth 100000 in
theorem g_k74 : q_TK1 g_cl g_ty g_tbl g_ms g_m74 g_t74 := ⟨by decide +kernel, g_l0, g_lk0, q_ckt_ok (by decide +kernel)⟩
set_option maxRecDepth 100000 in
theorem g_k75 : q_TK1 g_cl g_ty g_tbl g_ms g_m75 g_t75 := ⟨by decide +kernel, g_l0, g_lk0, q_ckt_ok (by decide +kernel)⟩
set_option maxRecDepth 100000 in
theorem g_k76 : q_TK1 g_cl g_ty g_tbl g_ms g_m76 g_t76 := ⟨by decide +kernel, g_l0, g_lk0, q_ckt_ok (by decide +kernel)⟩
set_option maxRecDepth 100000 in
theorem g_k77 : q_TK1 g_cl g_ty g_tbl g_ms g_m77 g_t77 := ⟨by decide +kernel, g_l0, g_lk0, q_ckt_ok (by decide +kernel)⟩
set_option maxRecDepth 100000 in
theorem g_k78 : q_TK1 g_cl g_ty g_tbl g_ms g_m78 g_t78 := ⟨by decide +kernel, g_l0, g_lk0, q_ckt_ok (by decide +kernel)⟩
set_option maxRecDepth 100000 in
theorem g_k79 : q_TK1 g_cl g_ty g_tbl g_ms g_m79 g_t79 := ⟨by decide +kernel, g_l0, g_lk0, q_ckt_ok (by decide +kernel)⟩
set_option maxRecDepth 100000 in
theorem g_k80 : q_TK1 g_cl g_ty g_tbl g_ms g_m80 g_t80 := ⟨by decide +kernel, g_l0, g_lk0, q_ckt_ok (by decide +kernel)⟩
set_option maxRecDepth 100000 in
theorem g_k81 : q_TK1 g_cl g_ty g_tbl g_ms g_m81 g_t81 := ⟨by decide +kernel, g_l0, g_lk0, q_ckt_ok (by decide +kernel)⟩
set_option maxRecDepth 100000 in
theorem g_k82 : q_TK1 g_cl g_ty g_tbl g_ms g_m82 g_t82 := ⟨by decide +kernel, g_l0, g_lk0, q_ckt_ok (by decide +kernel)⟩
set_option maxRecDepth 100000 in
theorem g_k83 : q_TK1 g_cl g_ty g_tbl g_ms g_m83 g_t83 := ⟨by decide +kernel, g_l1, g_lk1, q_ckt_ok (by decide +kernel)⟩
set_option maxRecDepth 100000 in
theorem g_k84 : q_TK1 g_cl g_ty g_tbl g_ms g_m84 g_t84 := ⟨by decide +kernel, g_l1, g_lk1, q_ckt_ok (by decide +kernel)⟩
set_option maxRecDepth 100000 in
theorem g_k85 : q_TK1 g_cl g_ty g_tbl g_ms g_m85 g_t85 := ⟨by decide +kernel, g_l1, g_lk1, q_ckt_ok (by decide +kernel)⟩
set_option maxRecDepth 100000 in
theorem g_k86 : q_TK1 g_cl g_ty g_tbl g_ms g_m86 g_t86 := ⟨by decide +kernel, g_l1, g_lk1, q_ckt_ok (by decide +kernel)⟩
set_option maxRecDepth 100000 in
theorem g_k87 : q_TK1 g_cl g_ty g_tbl g_ms g_m87 g_t87 := ⟨by decide +kernel, g_l2, g_lk2, q_ckt_ok (by decide +kernel)⟩
set_option maxRecDepth 100000 in
theorem g_k88 : q_TK1 g_cl g_ty g_tbl g_ms g_m88 g_t88 := ⟨by decide +kernel, g_l2, g_lk2, q_ckt_ok (by decide +kernel)⟩
set_option maxRecDepth 100000 in
theorem g_k89 : q_TK1 g_cl g_ty g_tbl g_ms g_m89 g_t89 := ⟨by decide +kernel, g_l2, g_lk2, q_ckt_ok (by decide +kernel)⟩
set_option maxRecDepth 100000 in
theorem g_k90 : q_TK1 g_cl g_ty g_tbl g_ms g_m90 g_t90 := ⟨by decide +kernel, g_l2, g_lk2, q_ckt_ok (by decide +kernel)⟩
set_option maxRecDepth 100000 in
theorem g_k91 : q_TK1 g_cl g_ty g_tbl g_ms g_m91 g_t91 := ⟨by decide +kernel, g_l2, g_lk2, q_ckt_ok (by decide +kernel)⟩
set_option maxRecDepth 100000 in
theorem g_k92 : q_TK1 g_cl g_ty g_tbl g_ms g_m92 g_t92 := ⟨by decide +kernel, g_l2, g_lk2, q_ckt_ok (by decide +kernel)⟩
set_option maxRecDepth 100000 in
theorem g_k93 : q_TK1 g_cl g_ty g_tbl g_ms g_m93 g_t93 := ⟨by decide +kernel, g_l3, g_lk3, q_ckt_ok (by decide +kernel)⟩
set_option maxRecDepth 100000 in
theorem g_k94 : q_TK1 g_cl g_ty g_tbl g_ms g_m94 g_t94 := ⟨by decide +kernel, g_l3, g_lk3, q_ckt_ok (by decide +kernel)⟩
set_option maxRecDepth 100000 in
theorem g_k95 : q_TK1 g_cl g_ty g_tbl g_ms g_m95 g_t95 := ⟨by decide +kernel, g_l3, g_lk3, q_ckt_ok (by decide +kernel)⟩
set_option maxRecDepth 100000 in
theorem g_k96 : q_TK1 g_cl g_ty g_tbl g_ms g_m96 g_t96 := ⟨by decide +kernel, g_l3, g_lk3, q_ckt_ok (by decide +kernel)⟩
set_option maxRecDepth 100000 in
theorem g_k97 : q_TK1 g_cl g_ty g_tbl g_ms g_m97 g_t97 := ⟨by decide +kernel, g_l3, g_lk3, q_ckt_ok (by decide +kernel)⟩
set_option maxRecDepth 100000 in
theorem g_k98 : q_TK1 g_cl g_ty g_tbl g_ms g_m98 g_t98 := ⟨by decide +kernel, g_l3, g_lk3, q_ckt_ok (by decide +kernel)⟩
set_option maxRecDepth 100000 in
theorem g_k99 : q_TK1 g_cl g_ty g_tbl g_ms g_m99 g_t99 := ⟨by decide +kernel, g_l4, g_lk4, q_ckt_ok (by decide +kernel)⟩
set_option maxRecDepth 100000 in
theorem g_k100 : q_TK1 g_cl g_ty g_tbl g_ms g_m100 g_t100 := ⟨by decide +kernel, g_l4, g_lk4, q_ckt_ok (by decide +kernel)⟩
set_option maxRecDepth 100000 in
theorem g_k101 : q_TK1 g_cl g_ty g_tbl g_ms g_m101 g_t101 := ⟨by decide +kernel, g_l4, g_lk4, q_ckt_ok (by decide +kernel)⟩
set_option maxRecDepth 100000 in
theorem g_k102 : q_TK1 g_cl g_ty g_tbl g_ms g_m102 g_t102 := ⟨by decide +kernel, g_l4, g_lk4, q_ckt_ok (by decide +kernel)⟩
set_option maxRecDepth 100000 in
theorem g_k103 : q_TK1 g_cl g_ty g_tbl g_ms g_m103 g_t103 := ⟨by decide +kernel, g_l4, g_lk4, q_ckt_ok (by decide +kernel)⟩
set_option maxRecDepth 100000 in
theorem g_k104 : q_TK1 g_cl g_ty g_tbl g_ms g_m104 g_t104 := ⟨by decide +kernel, g_l5, g_lk5, q_ckt_ok (by decide +kernel)⟩
set_option maxRecDepth 100000 in
theorem g_k106 : q_TK1 g_cl g_ty g_tbl g_ms g_m106 g_t106 := ⟨by decide +kernel, g_l5, g_lk5, q_ckt_ok (by decide +kernel)⟩
set_option maxRecDepth 100000 in
theorem g_k107 : q_TK1 g_cl g_ty g_tbl g_ms g_m107 g_t107 := ⟨by decide +kernel, g_l5, g_lk5, q_ckt_ok (by decide +kernel)⟩
set_option maxRecDepth 100000 in
theorem g_k108 : q_TK1 g_cl g_ty g_tbl g_ms g_m108 g_t108 := ⟨by decide +kernel, g_l5, g_lk5, q_ckt_ok (by decide +kernel)⟩
set_option maxRecDepth 100000 in
theorem g_k109 : q_TK1 g_cl g_ty g_tbl g_ms g_m109 g_t109 := ⟨by decide +kernel, g_l5, g_lk5, q_ckt_ok (by decide +kernel)⟩
set_option maxRecDepth 100000 in
theorem g_k110 : q_TK1 g_cl g_ty g_tbl g_ms g_m110 g_t110 := ⟨by decide +kernel, g_l5, g_lk5, q_ckt_ok (by decide +kernel)⟩
set_option maxRecDepth 100000 in
theorem g_k111 : q_TK1 g_cl g_ty g_tbl g_ms g_m111 g_t111 := ⟨by decide +kernel, g_l5, g_lk5, q_ckt_ok (by decide +kernel)⟩
set_option maxRecDepth 100000 in
theorem g_k113 : q_TK1 g_cl g_ty g_tbl g_ms g_m113 g_t113 := ⟨by decide +kernel, g_l5, g_lk5, q_ckt_ok (by decide +kernel)⟩
set_option maxRecDepth 100000 in
theorem g_k114 : q_TK1 g_cl g_ty g_tbl g_ms g_m114 g_t114 := ⟨by decide +kernel, g_l5, g_lk5, q_ckt_ok (by decide +kernel)⟩
set_option maxRecDepth 100000 in
theorem g_k115 : q_TK1 g_cl g_ty g_tbl g_ms g_m115 g_t115 := ⟨by decide +kernel, g_l5, g_lk5, q_ckt_ok (by decide +kernel)⟩
set_option maxRecDepth 100000 in
theorem g_k116 : q_TK1 g_cl g_ty g_tbl g_ms g_m116 g_t116 := ⟨by decide +kernel, g_l5, g_lk5, q_ckt_ok (by decide +kernel)⟩
set_option maxRecDepth 100000 in
theorem g_k117 : q_TK1 g_cl g_ty g_tbl g_ms g_m117 g_t117 := ⟨by decide +kernel, g_l5, g_lk5, q_ckt_ok (by decide +kernel)⟩
set_option maxRecDepth 100000 in
theorem g_k118 : q_TK1 g_cl g_ty g_tbl g_ms g_m118 g_t118 := ⟨by decide +kernel, g_l5, g_lk5, q_ckt_ok (by decide +kernel)⟩
set_option maxRecDepth 100000 in
theorem g_k119 : q_TK1 g_cl g_ty g_tbl g_ms g_m119 g_t119 := ⟨by decide +kernel, g_l5, g_lk5, q_ckt_ok (by decide +kernel)⟩
set_option maxRecDepth 100000 in
theorem g_k120 : q_TK1 g_cl g_ty g_tbl g_ms g_m120 g_t120 := ⟨by decide +kernel, g_l5, g_lk5, q_ckt_ok (by decide +kernel)⟩
set_option maxRecDepth 100000 in
theorem g_k121 : q_TK1 g_cl g_ty g_tbl g_ms g_m121 g_t121 := ⟨by decide +kernel, g_l5, g_lk5, q_ckt_ok (by decide +kernel)⟩
set_option maxRecDepth 100000 in
theorem g_k122 : q_TK1 g_cl g_ty g_tbl g_ms g_m122 g_t122 := ⟨by decide +kernel, g_l5, g_lk5, q_ckt_ok (by decide +kernel)⟩
set_option maxRecDepth 100000 in
theorem g_k123 : q_TK1 g_cl g_ty g_tbl g_ms g_m123 g_t123 := ⟨by decide +kernel, g_l5, g_lk5, q_ckt_ok (by decide +kernel)⟩
set_option maxRecDepth 100000 in
theorem g_k124 : q_TK1 g_cl g_ty g_tbl g_ms g_m124 g_t124 := ⟨by decide +kernel, g_l5, g_lk5, q_ckt_ok (by decide +kernel)⟩
set_option maxRecDepth 100000 in
theorem g_k125 : q_TK1 g_cl g_ty g_tbl g_ms g_m125 g_t125 := ⟨by decide +kernel, g_l5, g_lk5, q_ckt_ok (by decide +kernel)⟩
set_option maxRecDepth 100000 in
theorem g_k126 : q_TK1 g_cl g_ty g_tbl g_ms g_m126 g_t126 := ⟨by decide +kernel, g_l5, g_lk5, q_ckt_ok (by decide +kernel)⟩
set_option maxRecDepth 100000 in
theorem g_k127 : q_TK1 g_cl g_ty g_tbl g_ms g_m127 g_t127 := ⟨by decide +kernel, g_l5, g_lk5, q_ckt_ok (by decide +kernel)⟩
set_option maxRecDepth 100000 in
theorem g_k128 : q_TK1 g_cl g_ty g_tbl g_ms g_m128 g_t128 := ⟨by decide +kernel, g_l5, g_lk5, q_ckt_ok (by decide +kernel)⟩
set_option maxRecDepth 100000 in
theorem g_k129 : q_TK1 g_cl g_ty g_tbl g_ms g_m129 g_t129 := ⟨by decide +kernel, g_l5, g_lk5, q_ckt_ok (by decide +kernel)⟩
