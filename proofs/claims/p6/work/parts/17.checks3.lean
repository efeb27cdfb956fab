set_option maxRecDepth 100000 in
theorem g_k195 : q_TK1 g_cl g_ty g_tbl g_ms g_m195 g_t195 := ⟨by decide +kernel, g_l12, g_lk12, q_ckt_ok (by decide +kernel)⟩
set_option maxRecDepth 100000 in
theorem g_k196 : q_TK1 g_cl g_ty g_tbl g_ms g_m196 g_t196 := ⟨by decide +kernel, g_l12, g_lk12, q_ckt_ok (by decide +kernel)⟩
set_option maxRecDepth 100000 in
theorem g_k197 : q_TK1 g_cl g_ty g_tbl g_ms g_m197 g_t197 := ⟨by decide +kernel, g_l12, g_lk12, q_ckt_ok (by decide +kernel)⟩
set_option maxRecDepth 100000 in
theorem g_k198 : q_TK1 g_cl g_ty g_tbl g_ms g_m198 g_t198 := ⟨by decide +kernel, g_l12, g_lk12, q_ckt_ok (by decide +kernel)⟩
set_option maxRecDepth 100000 in
theorem g_k199 : q_TK1 g_cl g_ty g_tbl g_ms g_m199 g_t199 := ⟨by decide +kernel, g_l12, g_lk12, q_ckt_ok (by decide +kernel)⟩
set_option maxRecDepth 100000 in
theorem g_k200 : q_TK1 g_cl g_ty g_tbl g_ms g_m200 g_t200 := ⟨by decide +kernel, g_l12, g_lk12, q_ckt_ok (by decide +kernel)⟩
set_option maxRecDepth 100000 in
theorem g_k201 : q_TK1 g_cl g_ty g_tbl g_ms g_m201 g_t201 := ⟨by decide +kernel, g_l12, g_lk12, q_ckt_ok (by decide +kernel)⟩
set_option maxRecDepth 100000 in
theorem g_k202 : q_TK1 g_cl g_ty g_tbl g_ms g_m202 g_t202 := ⟨by decide +kernel, g_l12, g_lk12, q_ckt_ok (by decide +kernel)⟩
set_option maxRecDepth 100000 in
theorem g_k203 : q_TK1 g_cl g_ty g_tbl g_ms g_m203 g_t203 := ⟨by decide +kernel, g_l12, g_lk12, q_ckt_ok (by decide +kernel)⟩
set_option maxRecDepth 100000 in
theorem g_k204 : q_TK1 g_cl g_ty g_tbl g_ms g_m204 g_t204 := ⟨by decide +kernel, g_l12, g_lk12, q_ckt_ok (by decide +kernel)⟩
set_option maxRecDepth 100000 in
theorem g_k205 : q_TK1 g_cl g_ty g_tbl g_ms g_m205 g_t205 := ⟨by decide +kernel, g_l12, g_lk12, q_ckt_ok (by decide +kernel)⟩
set_option maxRecDepth 100000 in
theorem g_k206 : q_TK1 g_cl g_ty g_tbl g_ms g_m206 g_t206 := ⟨by decide +kernel, g_l12, g_lk12, q_ckt_ok (by decide +kernel)⟩
set_option maxRecDepth 100000 in
theorem g_k207 : q_TK1 g_cl g_ty g_tbl g_ms g_m207 g_t207 := ⟨by decide +kernel, g_l12, g_lk12, q_ckt_ok (by decide +kernel)⟩
set_option maxRecDepth 100000 in
theorem g_k208 : q_TK1 g_cl g_ty g_tbl g_ms g_m208 g_t208 := ⟨by decide +kernel, g_l12, g_lk12, q_ckt_ok (by decide +kernel)⟩
set_option maxRecDepth 100000 in
theorem g_k209 : q_TK1 g_cl g_ty g_tbl g_ms g_m209 g_t209 := ⟨by decide +kernel, g_l12, g_lk12, q_ckt_ok (by decide +kernel)⟩
set_option maxRecDepth 100000 in
theorem g_k210 : q_TK1 g_cl g_ty g_tbl g_ms g_m210 g_t210 := ⟨by decide +kernel, g_l12, g_lk12, q_ckt_ok (by decide +kernel)⟩
set_option maxRecDepth 100000 in
theorem g_k211 : q_TK1 g_cl g_ty g_tbl g_ms g_m211 g_t211 := ⟨by decide +kernel, g_l12, g_lk12, q_ckt_ok (by decide +kernel)⟩
set_option maxRecDepth 100000 in
theorem g_k212 : q_TK1 g_cl g_ty g_tbl g_ms g_m212 g_t212 := ⟨by decide +kernel, g_l12, g_lk12, q_ckt_ok (by decide +kernel)⟩
set_option maxRecDepth 100000 in
theorem g_k213 : q_TK1 g_cl g_ty g_tbl g_ms g_m213 g_t213 := ⟨by decide +kernel, g_l12, g_lk12, q_ckt_ok (by decide +kernel)⟩
set_option maxRecDepth 100000 in
theorem g_k214 : q_TK1 g_cl g_ty g_tbl g_ms g_m214 g_t214 := ⟨by decide +kernel, g_l12, g_lk12, q_ckt_ok (by decide +kernel)⟩
set_option maxRecDepth 100000 in
theorem g_k215 : q_TK1 g_cl g_ty g_tbl g_ms g_m215 g_t215 := ⟨by decide +kernel, g_l12, g_lk12, q_ckt_ok (by decide +kernel)⟩
set_option maxRecDepth 100000 in
theorem g_k216 : q_TK1 g_cl g_ty g_tbl g_ms g_m216 g_t216 := ⟨by decide +kernel, g_l12, g_lk12, q_ckt_ok (by decide +kernel)⟩
set_option maxRecDepth 100000 in
theorem g_k217 : q_TK1 g_cl g_ty g_tbl g_ms g_m217 g_t217 := ⟨by decide +kernel, g_l12, g_lk12, q_ckt_ok (by decide +kernel)⟩
set_option maxRecDepth 100000 in
theorem g_k218 : q_TK1 g_cl g_ty g_tbl g_ms g_m218 g_t218 := ⟨by decide +kernel, g_l12, g_lk12, q_ckt_ok (by decide +kernel)⟩
set_option maxRecDepth 100000 in
theorem g_k219 : q_TK1 g_cl g_ty g_tbl g_ms g_m219 g_t219 := ⟨by decide +kernel, g_l12, g_lk12, q_ckt_ok (by decide +kernel)⟩
set_option maxRecDepth 100000 in
theorem g_k220 : q_TK1 g_cl g_ty g_tbl g_ms g_m220 g_t220 := ⟨by decide +kernel, g_l12, g_lk12, q_ckt_ok (by decide +kernel)⟩
set_option maxRecDepth 100000 in
theorem g_k221 : q_TK1 g_cl g_ty g_tbl g_ms g_m221 g_t221 := ⟨by decide +kernel, g_l12, g_lk12, q_ckt_ok (by decide +kernel)⟩
set_option maxRecDepth 100000 in
theorem g_k222 : q_TK1 g_cl g_ty g_tbl g_ms g_m222 g_t222 := ⟨by decide +kernel, g_l12, g_lk12, q_ckt_ok (by decide +kernel)⟩
set_option maxRecDepth 100000 in
theorem g_k223 : q_TK1 g_cl g_ty g_tbl g_ms g_m223 g_t223 := ⟨by decide +kernel, g_l12, g_lk12, q_ckt_ok (by decide +kernel)⟩
set_option maxRecDepth 100000 in
theorem g_k224 : q_TK1 g_cl g_ty g_tbl g_ms g_m224 g_t224 := ⟨by decide +kernel, g_l12, g_lk12, q_ckt_ok (by decide +kernel)⟩
set_option maxRecDepth 100000 in
theorem g_k225 : q_TK1 g_cl g_ty g_tbl g_ms g_m225 g_t225 := ⟨by decide +kernel, g_l12, g_lk12, q_ckt_ok (by decide +kernel)⟩
set_option maxRecDepth 100000 in
theorem g_k226 : q_TK1 g_cl g_ty g_tbl g_ms g_m226 g_t226 := ⟨by decide +kernel, g_l12, g_lk12, q_ckt_ok (by decide +kernel)⟩
set_option maxRecDepth 100000 in
theorem g_k227 : q_TK1 g_cl g_ty g_tbl g_ms g_m227 g_t227 := ⟨by decide +kernel, g_l12, g_lk12, q_ckt_ok (by decide +kernel)⟩
set_option maxRecDepth 100000 in
theorem g_k228 : q_TK1 g_cl g_ty g_tbl g_ms g_m228 g_t228 := ⟨by decide +kernel, g_l12, g_lk12, q_ckt_ok (by decide +kernel)⟩
set_option maxRecDepth 100000 in
theorem g_k229 : q_TK1 g_cl g_ty g_tbl g_ms g_m229 g_t229 := ⟨by decide +kernel, g_l12, g_lk12, q_ckt_ok (by decide +kernel)⟩
set_option maxRecDepth 100000 in
theorem g_k230 : q_TK1 g_cl g_ty g_tbl g_ms g_m230 g_t230 := ⟨by decide +kernel, g_l12, g_lk12, q_ckt_ok (by decide +kernel)⟩
set_option maxRecDepth 100000 in
theorem g_k231 : q_TK1 g_cl g_ty g_tbl g_ms g_m231 g_t231 := ⟨by decide +kernel, g_l12, g_lk12, q_ckt_ok (by decide +kernel)⟩
set_option maxRecDepth 100000 in
theorem g_k232 : q_TK1 g_cl g_ty g_tbl g_ms g_m232 g_t232 := ⟨by decide +kernel, g_l12, g_lk12, q_ckt_ok (by decide +kernel)⟩
set_option maxRecDepth 100000 in
theorem g_k233 : q_TK1 g_cl g_ty g_tbl g_ms g_m233 g_t233 := ⟨by decide +kernel, g_l12, g_lk12, q_ckt_ok (by decide +kernel)⟩
set_option maxRecDepth 100000 in
theorem g_k234 : q_TK1 g_cl g_ty g_tbl g_ms g_m234 g_t234 := ⟨by decide +kernel, g_l12, g_lk12, q_ckt_ok (by decide +kernel)⟩
set_option maxRecDepth 100000 in
theorem g_k235 : q_TK1 g_cl g_ty g_tbl g_ms g_m235 g_t235 := ⟨by decide +kernel, g_l12, g_lk12, q_ckt_ok (by decide +kernel)⟩
set_option maxRecDepth 100000 in
theorem g_k236 : q_TK1 g_cl g_ty g_tbl g_ms g_m236 g_t236 := ⟨by decide +kernel, g_l12, g_lk12, q_ckt_ok (by decide +kernel)⟩
set_option maxRecDepth 100000 in
theorem g_k237 : q_TK1 g_cl g_ty g_tbl g_ms g_m237 g_t237 := ⟨by decide +kernel, g_l12, g_lk12, q_ckt_ok (by decide +kernel)⟩
set_option maxRecDepth 100000 in
theorem g_k238 : q_TK1 g_cl g_ty g_tbl g_ms g_m238 g_t238 := ⟨by decide +kernel, g_l12, g_lk12, q_ckt_ok (by decide +kernel)⟩
set_option maxRecDepth 100000 in
theorem g_k239 : q_TK1 g_cl g_ty g_tbl g_ms g_m239 g_t239 := ⟨by decide +kernel, g_l12, g_lk12, q_ckt_ok (by decide +kernel)⟩
set_option maxRecDepth 100000 in
theorem g_k240 : q_TK1 g_cl g_ty g_tbl g_ms g_m240 g_t240 := ⟨by decide +kernel, g_l12, g_lk12, q_ckt_ok (by decide +kernel)⟩
set_option maxRecDepth 100000 in
theorem g_k241 : q_TK1 g_cl g_ty g_tbl g_ms g_m241 g_t241 := ⟨by decide +kernel, g_l12, g_lk12, q_ckt_ok (by decide +kernel)⟩
set_option maxRecDepth 100000 in
theorem g_k242 : q_TK1 g_cl g_ty g_tbl g_ms g_m242 g_t242 := ⟨by decide +kernel, g_l12, g_lk12, q_ckt_ok (by decide +kernel)⟩
set_option maxRecDepth 100000 in
theorem g_k243 : q_TK1 g_cl g_ty g_tbl g_ms g_m243 g_t243 := ⟨by decide +kernel, g_l12, g_lk12, q_ckt_ok (by decide +kernel)⟩
set_option maxRecDepth 100000 in
theorem g_k244 : q_TK1 g_cl g_ty g_tbl g_ms g_m244 g_t244 := ⟨by decide +kernel, g_l12, g_lk12, q_ckt_ok (by decide +kernel)⟩
set_option maxRecDepth 100000 in
theorem g_k245 : q_TK1 g_cl g_ty g_tbl g_ms g_m245 g_t245 := ⟨by decide +kernel, g_l12, g_lk12, q_ckt_ok (by decide +kernel)⟩
set_option maxRecDepth 100000 in
theorem g_k246 : q_TK1 g_cl g_ty g_tbl g_ms g_m246 g_t246 := ⟨by decide +kernel, g_l12, g_lk12, q_ckt_ok (by decide +kernel)⟩
set_option maxRecDepth 100000 in
theorem g_k247 : q_TK1 g_cl g_ty g_tbl g_ms g_m247 g_t247 := ⟨by decide +kernel, g_l12, g_lk12, q_ckt_ok (by decide +kernel)⟩
set_option maxRecDepth 100000 in
theorem g_k248 : q_TK1 g_cl g_ty g_tbl g_ms g_m248 g_t248 := ⟨by decide +kernel, g_l12, g_lk12, q_ckt_ok (by decide +kernel)⟩
set_option maxRecDepth 100000 in
theorem g_k249 : q_TK1 g_cl g_ty g_tbl g_ms g_m249 g_t249 := ⟨by decide +kernel, g_l12, g_lk12, q_ckt_ok (by decide +kernel)⟩
set_option maxRecDepth 100000 in
theorem g_k250 : q_TK1 g_cl g_ty g_tbl g_ms g_m250 g_t250 := ⟨by decide +kernel, g_l12, g_lk12, q_ckt_ok (by decide +kernel)⟩
set_option maxRecDepth 100000 in
theorem g_k251 : q_TK1 g_cl g_ty g_tbl g_ms g_m251 g_t251 := ⟨by decide +kernel, g_l12, g_lk12, q_ckt_ok (by decide +kernel)⟩
set_option maxRecDepth 100000 in
theorem g_k252 : q_TK1 g_cl g_ty g_tbl g_ms g_m252 g_t252 := ⟨by decide +kernel, g_l12, g_lk12, q_ckt_ok (by decide +kernel)⟩
set_option maxRecDepth 100000 in
theorem g_k253 : q_TK1 g_cl g_ty g_tbl g_ms g_m253 g_t253 := ⟨by decide +kernel, g_l12, g_lk12, q_ckt_ok (by decide +kernel)⟩
set_option maxRecDepth 100000 in
theorem g_k254 : q_TK1 g_cl g_ty g_tbl g_ms g_m254 g_t254 := ⟨by decide +kernel, g_l12, g_lk12, q_ckt_ok (by decide +kernel)⟩
set_option maxRecDepth 100000 in
theorem g_k255 : q_TK1 g_cl g_ty g_tbl g_ms g_m255 g_t255 := ⟨by decide +kernel, g_l12, g_lk12, q_ckt_ok (by decide +kernel)⟩
set_option maxRecDepth 100000 in
theorem g_k256 : q_TK1 g_cl g_ty g_tbl g_ms g_m256 g_t256 := ⟨by decide +kernel, g_l12, g_lk12, q_ckt_ok (by decide +kernel)⟩
set_option maxRecDepth 100000 in
theorem g_k257 : q_TK1 g_cl g_ty g_tbl g_ms g_m257 g_t257 := ⟨by decide +kernel, g_l12, g_lk12, q_ckt_ok (by decide +kernel)⟩
set_option maxRecDepth 100000 in
theorem g_k258 : q_TK1 g_cl g_ty g_tbl g_ms g_m258 g_t258 := ⟨by decide +kernel, g_l12, g_lk12, q_ckt_ok (by decide +kernel)⟩
set_option maxRecDepth 100000 in
theorem g_k259 : q_TK1 g_cl g_ty g_tbl g_ms g_m259 g_t259 := ⟨by decide +kernel, g_l12, g_lk12, q_ckt_ok (by decide +kernel)⟩
