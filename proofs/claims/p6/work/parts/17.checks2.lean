set_option maxRecDepth 100000 in
theorem g_k130 : q_TK1 g_cl g_ty g_tbl g_ms g_m130 g_t130 := ⟨by decide +kernel, g_l6, g_lk6, q_ckt_ok (by decide +kernel)⟩
set_option maxRecDepth 100000 in
theorem g_k131 : q_TK1 g_cl g_ty g_tbl g_ms g_m131 g_t131 := ⟨by decide +kernel, g_l6, g_lk6, q_ckt_ok (by decide +kernel)⟩
set_option maxRecDepth 100000 in
theorem g_k132 : q_TK1 g_cl g_ty g_tbl g_ms g_m132 g_t132 := ⟨by decide +kernel, g_l6, g_lk6, q_ckt_ok (by decide +kernel)⟩
set_option maxRecDepth 100000 in
theorem g_k133 : q_TK1 g_cl g_ty g_tbl g_ms g_m133 g_t133 := ⟨by decide +kernel, g_l6, g_lk6, q_ckt_ok (by decide +kernel)⟩
set_option maxRecDepth 100000 in
theorem g_k134 : q_TK1 g_cl g_ty g_tbl g_ms g_m134 g_t134 := ⟨by decide +kernel, g_l6, g_lk6, q_ckt_ok (by decide +kernel)⟩
set_option maxRecDepth 100000 in
theorem g_k135 : q_TK1 g_cl g_ty g_tbl g_ms g_m135 g_t135 := ⟨by decide +kernel, g_l6, g_lk6, q_ckt_ok (by decide +kernel)⟩
set_option maxRecDepth 100000 in
theorem g_k136 : q_TK1 g_cl g_ty g_tbl g_ms g_m136 g_t136 := ⟨by decide +kernel, g_l6, g_lk6, q_ckt_ok (by decide +kernel)⟩
set_option maxRecDepth 100000 in
theorem g_k137 : q_TK1 g_cl g_ty g_tbl g_ms g_m137 g_t137 := ⟨by decide +kernel, g_l6, g_lk6, q_ckt_ok (by decide +kernel)⟩
set_option maxRecDepth 100000 in
theorem g_k138 : q_TK1 g_cl g_ty g_tbl g_ms g_m138 g_t138 := ⟨by decide +kernel, g_l7, g_lk7, q_ckt_ok (by decide +kernel)⟩
set_option maxRecDepth 100000 in
theorem g_k139 : q_TK1 g_cl g_ty g_tbl g_ms g_m139 g_t139 := ⟨by decide +kernel, g_l7, g_lk7, q_ckt_ok (by decide +kernel)⟩
set_option maxRecDepth 100000 in
theorem g_k140 : q_TK1 g_cl g_ty g_tbl g_ms g_m140 g_t140 := ⟨by decide +kernel, g_l7, g_lk7, q_ckt_ok (by decide +kernel)⟩
set_option maxRecDepth 100000 in
theorem g_k141 : q_TK1 g_cl g_ty g_tbl g_ms g_m141 g_t141 := ⟨by decide +kernel, g_l7, g_lk7, q_ckt_ok (by decide +kernel)⟩
set_option maxRecDepth 100000 in
theorem g_k142 : q_TK1 g_cl g_ty g_tbl g_ms g_m142 g_t142 := ⟨by decide +kernel, g_l7, g_lk7, q_ckt_ok (by decide +kernel)⟩
set_option maxRecDepth 100000 in
theorem g_k143 : q_TK1 g_cl g_ty g_tbl g_ms g_m143 g_t143 := ⟨by decide +kernel, g_l7, g_lk7, q_ckt_ok (by decide +kernel)⟩
set_option maxRecDepth 100000 in
theorem g_k144 : q_TK1 g_cl g_ty g_tbl g_ms g_m144 g_t144 := ⟨by decide +kernel, g_l7, g_lk7, q_ckt_ok (by decide +kernel)⟩
set_option maxRecDepth 100000 in
theorem g_k145 : q_TK1 g_cl g_ty g_tbl g_ms g_m145 g_t145 := ⟨by decide +kernel, g_l7, g_lk7, q_ckt_ok (by decide +kernel)⟩
set_option maxRecDepth 100000 in
theorem g_k146 : q_TK1 g_cl g_ty g_tbl g_ms g_m146 g_t146 := ⟨by decide +kernel, g_l7, g_lk7, q_ckt_ok (by decide +kernel)⟩
set_option maxRecDepth 100000 in
theorem g_k147 : q_TK1 g_cl g_ty g_tbl g_ms g_m147 g_t147 := ⟨by decide +kernel, g_l7, g_lk7, q_ckt_ok (by decide +kernel)⟩
set_option maxRecDepth 100000 in
theorem g_k148 : q_TK1 g_cl g_ty g_tbl g_ms g_m148 g_t148 := ⟨by decide +kernel, g_l7, g_lk7, q_ckt_ok (by decide +kernel)⟩
set_option maxRecDepth 100000 in
theorem g_k149 : q_TK1 g_cl g_ty g_tbl g_ms g_m149 g_t149 := ⟨by decide +kernel, g_l7, g_lk7, q_ckt_ok (by decide +kernel)⟩
set_option maxRecDepth 100000 in
theorem g_k150 : q_TK1 g_cl g_ty g_tbl g_ms g_m150 g_t150 := ⟨by decide +kernel, g_l8, g_lk8, q_ckt_ok (by decide +kernel)⟩
set_option maxRecDepth 100000 in
theorem g_k151 : q_TK1 g_cl g_ty g_tbl g_ms g_m151 g_t151 := ⟨by decide +kernel, g_l8, g_lk8, q_ckt_ok (by decide +kernel)⟩
set_option maxRecDepth 100000 in
theorem g_k152 : q_TK1 g_cl g_ty g_tbl g_ms g_m152 g_t152 := ⟨by decide +kernel, g_l8, g_lk8, q_ckt_ok (by decide +kernel)⟩
set_option maxRecDepth 100000 in
theorem g_k153 : q_TK1 g_cl g_ty g_tbl g_ms g_m153 g_t153 := ⟨by decide +kernel, g_l9, g_lk9, q_ckt_ok (by decide +kernel)⟩
set_option maxRecDepth 100000 in
theorem g_k154 : q_TK1 g_cl g_ty g_tbl g_ms g_m154 g_t154 := ⟨by decide +kernel, g_l9, g_lk9, q_ckt_ok (by decide +kernel)⟩
set_option maxRecDepth 100000 in
theorem g_k155 : q_TK1 g_cl g_ty g_tbl g_ms g_m155 g_t155 := ⟨by decide +kernel, g_l9, g_lk9, q_ckt_ok (by decide +kernel)⟩
set_option maxRecDepth 100000 in
theorem g_k156 : q_TK1 g_cl g_ty g_tbl g_ms g_m156 g_t156 := ⟨by decide +kernel, g_l10, g_lk10, q_ckt_ok (by decide +kernel)⟩
set_option maxRecDepth 100000 in
theorem g_k157 : q_TK1 g_cl g_ty g_tbl g_ms g_m157 g_t157 := ⟨by decide +kernel, g_l10, g_lk10, q_ckt_ok (by decide +kernel)⟩
set_option maxRecDepth 100000 in
theorem g_k158 : q_TK1 g_cl g_ty g_tbl g_ms g_m158 g_t158 := ⟨by decide +kernel, g_l10, g_lk10, q_ckt_ok (by decide +kernel)⟩
set_option maxRecDepth 100000 in
theorem g_k159 : q_TK1 g_cl g_ty g_tbl g_ms g_m159 g_t159 := ⟨by decide +kernel, g_l10, g_lk10, q_ckt_ok (by decide +kernel)⟩
set_option maxRecDepth 100000 in
theorem g_k160 : q_TK1 g_cl g_ty g_tbl g_ms g_m160 g_t160 := ⟨by decide +kernel, g_l10, g_lk10, q_ckt_ok (by decide +kernel)⟩
set_option maxRecDepth 100000 in
theorem g_k161 : q_TK1 g_cl g_ty g_tbl g_ms g_m161 g_t161 := ⟨by decide +kernel, g_l10, g_lk10, q_ckt_ok (by decide +kernel)⟩
set_option maxRecDepth 100000 in
theorem g_k162 : q_TK1 g_cl g_ty g_tbl g_ms g_m162 g_t162 := ⟨by decide +kernel, g_l10, g_lk10, q_ckt_ok (by decide +kernel)⟩
set_option maxRecDepth 100000 in
theorem g_k163 : q_TK1 g_cl g_ty g_tbl g_ms g_m163 g_t163 := ⟨by decide +kernel, g_l10, g_lk10, q_ckt_ok (by decide +kernel)⟩
set_option maxRecDepth 100000 in
theorem g_k164 : q_TK1 g_cl g_ty g_tbl g_ms g_m164 g_t164 := ⟨by decide +kernel, g_l10, g_lk10, q_ckt_ok (by decide +kernel)⟩
set_option maxRecDepth 100000 in
theorem g_k165 : q_TK1 g_cl g_ty g_tbl g_ms g_m165 g_t165 := ⟨by decide +kernel, g_l10, g_lk10, q_ckt_ok (by decide +kernel)⟩
set_option maxRecDepth 100000 in
theorem g_k166 : q_TK1 g_cl g_ty g_tbl g_ms g_m166 g_t166 := ⟨by decide +kernel, g_l10, g_lk10, q_ckt_ok (by decide +kernel)⟩
set_option maxRecDepth 100000 in
theorem g_k167 : q_TK1 g_cl g_ty g_tbl g_ms g_m167 g_t167 := ⟨by decide +kernel, g_l10, g_lk10, q_ckt_ok (by decide +kernel)⟩
set_option maxRecDepth 100000 in
theorem g_k168 : q_TK1 g_cl g_ty g_tbl g_ms g_m168 g_t168 := ⟨by decide +kernel, g_l10, g_lk10, q_ckt_ok (by decide +kernel)⟩
set_option maxRecDepth 100000 in
theorem g_k169 : q_TK1 g_cl g_ty g_tbl g_ms g_m169 g_t169 := ⟨by decide +kernel, g_l10, g_lk10, q_ckt_ok (by decide +kernel)⟩
set_option maxRecDepth 100000 in
theorem g_k170 : q_TK1 g_cl g_ty g_tbl g_ms g_m170 g_t170 := ⟨by decide +kernel, g_l10, g_lk10, q_ckt_ok (by decide +kernel)⟩
set_option maxRecDepth 100000 in
theorem g_k171 : q_TK1 g_cl g_ty g_tbl g_ms g_m171 g_t171 := ⟨by decide +kernel, g_l10, g_lk10, q_ckt_ok (by decide +kernel)⟩
set_option maxRecDepth 100000 in
theorem g_k172 : q_TK1 g_cl g_ty g_tbl g_ms g_m172 g_t172 := ⟨by decide +kernel, g_l10, g_lk10, q_ckt_ok (by decide +kernel)⟩
set_option maxRecDepth 100000 in
theorem g_k173 : q_TK1 g_cl g_ty g_tbl g_ms g_m173 g_t173 := ⟨by decide +kernel, g_l12, g_lk12, q_ckt_ok (by decide +kernel)⟩
set_option maxRecDepth 100000 in
theorem g_k174 : q_TK1 g_cl g_ty g_tbl g_ms g_m174 g_t174 := ⟨by decide +kernel, g_l12, g_lk12, q_ckt_ok (by decide +kernel)⟩
set_option maxRecDepth 100000 in
theorem g_k175 : q_TK1 g_cl g_ty g_tbl g_ms g_m175 g_t175 := ⟨by decide +kernel, g_l12, g_lk12, q_ckt_ok (by decide +kernel)⟩
set_option maxRecDepth 100000 in
theorem g_k176 : q_TK1 g_cl g_ty g_tbl g_ms g_m176 g_t176 := ⟨by decide +kernel, g_l12, g_lk12, q_ckt_ok (by decide +kernel)⟩
set_option maxRecDepth 100000 in
theorem g_k177 : q_TK1 g_cl g_ty g_tbl g_ms g_m177 g_t177 := ⟨by decide +kernel, g_l12, g_lk12, q_ckt_ok (by decide +kernel)⟩
set_option maxRecDepth 100000 in
theorem g_k178 : q_TK1 g_cl g_ty g_tbl g_ms g_m178 g_t178 := ⟨by decide +kernel, g_l12, g_lk12, q_ckt_ok (by decide +kernel)⟩
set_option maxRecDepth 100000 in
theorem g_k179 : q_TK1 g_cl g_ty g_tbl g_ms g_m179 g_t179 := ⟨by decide +kernel, g_l12, g_lk12, q_ckt_ok (by decide +kernel)⟩
set_option maxRecDepth 100000 in
theorem g_k180 : q_TK1 g_cl g_ty g_tbl g_ms g_m180 g_t180 := ⟨by decide +kernel, g_l12, g_lk12, q_ckt_ok (by decide +kernel)⟩
set_option maxRecDepth 100000 in
theorem g_k181 : q_TK1 g_cl g_ty g_tbl g_ms g_m181 g_t181 := ⟨by decide +kernel, g_l12, g_lk12, q_ckt_ok (by decide +kernel)⟩
set_option maxRecDepth 100000 in
theorem g_k182 : q_TK1 g_cl g_ty g_tbl g_ms g_m182 g_t182 := ⟨by decide +kernel, g_l12, g_lk12, q_ckt_ok (by decide +kernel)⟩
set_option maxRecDepth 100000 in
theorem g_k183 : q_TK1 g_cl g_ty g_tbl g_ms g_m183 g_t183 := ⟨by decide +kernel, g_l12, g_lk12, q_ckt_ok (by decide +kernel)⟩
set_option maxRecDepth 100000 in
theorem g_k184 : q_TK1 g_cl g_ty g_tbl g_ms g_m184 g_t184 := ⟨by decide +kernel, g_l12, g_lk12, q_ckt_ok (by decide +kernel)⟩
set_option maxRecDepth 100000 in
theorem g_k185 : q_TK1 g_cl g_ty g_tbl g_ms g_m185 g_t185 := ⟨by decide +kernel, g_l12, g_lk12, q_ckt_ok (by decide +kernel)⟩
set_option maxRecDepth 100000 in
theorem g_k186 : q_TK1 g_cl g_ty g_tbl g_ms g_m186 g_t186 := ⟨by decide +kernel, g_l12, g_lk12, q_ckt_ok (by decide +kernel)⟩
set_option maxRecDepth 100000 in
theorem g_k187 : q_TK1 g_cl g_ty g_tbl g_ms g_m187 g_t187 := ⟨by decide +kernel, g_l12, g_lk12, q_ckt_ok (by decide +kernel)⟩
set_option maxRecDepth 100000 in
theorem g_k188 : q_TK1 g_cl g_ty g_tbl g_ms g_m188 g_t188 := ⟨by decide +kernel, g_l12, g_lk12, q_ckt_ok (by decide +kernel)⟩
set_option maxRecDepth 100000 in
theorem g_k189 : q_TK1 g_cl g_ty g_tbl g_ms g_m189 g_t189 := ⟨by decide +kernel, g_l12, g_lk12, q_ckt_ok (by decide +kernel)⟩
set_option maxRecDepth 100000 in
theorem g_k190 : q_TK1 g_cl g_ty g_tbl g_ms g_m190 g_t190 := ⟨by decide +kernel, g_l12, g_lk12, q_ckt_ok (by decide +kernel)⟩
set_option maxRecDepth 100000 in
theorem g_k191 : q_TK1 g_cl g_ty g_tbl g_ms g_m191 g_t191 := ⟨by decide +kernel, g_l12, g_lk12, q_ckt_ok (by decide +kernel)⟩
set_option maxRecDepth 100000 in
theorem g_k192 : q_TK1 g_cl g_ty g_tbl g_ms g_m192 g_t192 := ⟨by decide +kernel, g_l12, g_lk12, q_ckt_ok (by decide +kernel)⟩
set_option maxRecDepth 100000 in
theorem g_k193 : q_TK1 g_cl g_ty g_tbl g_ms g_m193 g_t193 := ⟨by decide +kernel, g_l12, g_lk12, q_ckt_ok (by decide +kernel)⟩
set_option maxRecDepth 100000 in
theorem g_k194 : q_TK1 g_cl g_ty g_tbl g_ms g_m194 g_t194 := ⟨by decide +kernel, g_l12, g_lk12, q_ckt_ok (by decide +kernel)⟩
