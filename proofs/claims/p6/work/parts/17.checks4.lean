set_option maxRecDepth 100000 in
theorem g_k260 : q_TK1 g_cl g_ty g_tbl g_ms g_m260 g_t260 := ⟨by decide +kernel, g_l12, g_lk12, q_ckt_ok (by decide +kernel)⟩
set_option maxRecDepth 100000 in
theorem g_k261 : q_TK1 g_cl g_ty g_tbl g_ms g_m261 g_t261 := ⟨by decide +kernel, g_l12, g_lk12, q_ckt_ok (by decide +kernel)⟩
set_option maxRecDepth 100000 in
theorem g_k262 : q_TK1 g_cl g_ty g_tbl g_ms g_m262 g_t262 := ⟨by decide +kernel, g_l12, g_lk12, q_ckt_ok (by decide +kernel)⟩
set_option maxRecDepth 100000 in
theorem g_k263 : q_TK1 g_cl g_ty g_tbl g_ms g_m263 g_t263 := ⟨by decide +kernel, g_l12, g_lk12, q_ckt_ok (by decide +kernel)⟩
set_option maxRecDepth 100000 in
theorem g_k264 : q_TK1 g_cl g_ty g_tbl g_ms g_m264 g_t264 := ⟨by decide +kernel, g_l12, g_lk12, q_ckt_ok (by decide +kernel)⟩
set_option maxRecDepth 100000 in
theorem g_k265 : q_TK1 g_cl g_ty g_tbl g_ms g_m265 g_t265 := ⟨by decide +kernel, g_l12, g_lk12, q_ckt_ok (by decide +kernel)⟩
set_option maxRecDepth 100000 in
theorem g_k266 : q_TK1 g_cl g_ty g_tbl g_ms g_m266 g_t266 := ⟨by decide +kernel, g_l12, g_lk12, q_ckt_ok (by decide +kernel)⟩
set_option maxRecDepth 100000 in
theorem g_k267 : q_TK1 g_cl g_ty g_tbl g_ms g_m267 g_t267 := ⟨by decide +kernel, g_l12, g_lk12, q_ckt_ok (by decide +kernel)⟩
set_option maxRecDepth 100000 in
theorem g_k268 : q_TK1 g_cl g_ty g_tbl g_ms g_m268 g_t268 := ⟨by decide +kernel, g_l12, g_lk12, q_ckt_ok (by decide +kernel)⟩
set_option maxRecDepth 100000 in
theorem g_k269 : q_TK1 g_cl g_ty g_tbl g_ms g_m269 g_t269 := ⟨by decide +kernel, g_l12, g_lk12, q_ckt_ok (by decide +kernel)⟩
set_option maxRecDepth 100000 in
theorem g_k270 : q_TK1 g_cl g_ty g_tbl g_ms g_m270 g_t270 := ⟨by decide +kernel, g_l12, g_lk12, q_ckt_ok (by decide +kernel)⟩
set_option maxRecDepth 100000 in
theorem g_k271 : q_TK1 g_cl g_ty g_tbl g_ms g_m271 g_t271 := ⟨by decide +kernel, g_l12, g_lk12, q_ckt_ok (by decide +kernel)⟩
set_option maxRecDepth 100000 in
theorem g_k272 : q_TK1 g_cl g_ty g_tbl g_ms g_m272 g_t272 := ⟨by decide +kernel, g_l12, g_lk12, q_ckt_ok (by decide +kernel)⟩
set_option maxRecDepth 100000 in
theorem g_k273 : q_TK1 g_cl g_ty g_tbl g_ms g_m273 g_t273 := ⟨by decide +kernel, g_l12, g_lk12, q_ckt_ok (by decide +kernel)⟩
set_option maxRecDepth 100000 in
theorem g_k274 : q_TK1 g_cl g_ty g_tbl g_ms g_m274 g_t274 := ⟨by decide +kernel, g_l12, g_lk12, q_ckt_ok (by decide +kernel)⟩
set_option maxRecDepth 100000 in
theorem g_k275 : q_TK1 g_cl g_ty g_tbl g_ms g_m275 g_t275 := ⟨by decide +kernel, g_l12, g_lk12, q_ckt_ok (by decide +kernel)⟩
set_option maxRecDepth 100000 in
theorem g_k276 : q_TK1 g_cl g_ty g_tbl g_ms g_m276 g_t276 := ⟨by decide +kernel, g_l12, g_lk12, q_ckt_ok (by decide +kernel)⟩
set_option maxRecDepth 100000 in
theorem g_k277 : q_TK1 g_cl g_ty g_tbl g_ms g_m277 g_t277 := ⟨by decide +kernel, g_l12, g_lk12, q_ckt_ok (by decide +kernel)⟩
set_option maxRecDepth 100000 in
theorem g_k278 : q_TK1 g_cl g_ty g_tbl g_ms g_m278 g_t278 := ⟨by decide +kernel, g_l12, g_lk12, q_ckt_ok (by decide +kernel)⟩
set_option maxRecDepth 100000 in
theorem g_k279 : q_TK1 g_cl g_ty g_tbl g_ms g_m279 g_t279 := ⟨by decide +kernel, g_l12, g_lk12, q_ckt_ok (by decide +kernel)⟩
set_option maxRecDepth 100000 in
theorem g_k280 : q_TK1 g_cl g_ty g_tbl g_ms g_m280 g_t280 := ⟨by decide +kernel, g_l12, g_lk12, q_ckt_ok (by decide +kernel)⟩
set_option maxRecDepth 100000 in
theorem g_k281 : q_TK1 g_cl g_ty g_tbl g_ms g_m281 g_t281 := ⟨by decide +kernel, g_l12, g_lk12, q_ckt_ok (by decide +kernel)⟩
set_option maxRecDepth 100000 in
theorem g_k282 : q_TK1 g_cl g_ty g_tbl g_ms g_m282 g_t282 := ⟨by decide +kernel, g_l12, g_lk12, q_ckt_ok (by decide +kernel)⟩
set_option maxRecDepth 100000 in
theorem g_k283 : q_TK1 g_cl g_ty g_tbl g_ms g_m283 g_t283 := ⟨by decide +kernel, g_l12, g_lk12, q_ckt_ok (by decide +kernel)⟩
set_option maxRecDepth 100000 in
theorem g_k284 : q_TK1 g_cl g_ty g_tbl g_ms g_m284 g_t284 := ⟨by decide +kernel, g_l12, g_lk12, q_ckt_ok (by decide +kernel)⟩
set_option maxRecDepth 100000 in
theorem g_k285 : q_TK1 g_cl g_ty g_tbl g_ms g_m285 g_t285 := ⟨by decide +kernel, g_l12, g_lk12, q_ckt_ok (by decide +kernel)⟩
set_option maxRecDepth 100000 in
theorem g_k286 : q_TK1 g_cl g_ty g_tbl g_ms g_m286 g_t286 := ⟨by decide +kernel, g_l12, g_lk12, q_ckt_ok (by decide +kernel)⟩
set_option maxRecDepth 100000 in
theorem g_k287 : q_TK1 g_cl g_ty g_tbl g_ms g_m287 g_t287 := ⟨by decide +kernel, g_l12, g_lk12, q_ckt_ok (by decide +kernel)⟩
set_option maxRecDepth 100000 in
theorem g_k288 : q_TK1 g_cl g_ty g_tbl g_ms g_m288 g_t288 := ⟨by decide +kernel, g_l12, g_lk12, q_ckt_ok (by decide +kernel)⟩
set_option maxRecDepth 100000 in
theorem g_k289 : q_TK1 g_cl g_ty g_tbl g_ms g_m289 g_t289 := ⟨by decide +kernel, g_l12, g_lk12, q_ckt_ok (by decide +kernel)⟩
set_option maxRecDepth 100000 in
theorem g_k290 : q_TK1 g_cl g_ty g_tbl g_ms g_m290 g_t290 := ⟨by decide +kernel, g_l12, g_lk12, q_ckt_ok (by decide +kernel)⟩
set_option maxRecDepth 100000 in
theorem g_k291 : q_TK1 g_cl g_ty g_tbl g_ms g_m291 g_t291 := ⟨by decide +kernel, g_l12, g_lk12, q_ckt_ok (by decide +kernel)⟩
set_option maxRecDepth 100000 in
theorem g_k292 : q_TK1 g_cl g_ty g_tbl g_ms g_m292 g_t292 := ⟨by decide +kernel, g_l12, g_lk12, q_ckt_ok (by decide +kernel)⟩
set_option maxRecDepth 100000 in
theorem g_k293 : q_TK1 g_cl g_ty g_tbl g_ms g_m293 g_t293 := ⟨by decide +kernel, g_l12, g_lk12, q_ckt_ok (by decide +kernel)⟩
set_option maxRecDepth 100000 in
theorem g_k294 : q_TK1 g_cl g_ty g_tbl g_ms g_m294 g_t294 := ⟨by decide +kernel, g_l12, g_lk12, q_ckt_ok (by decide +kernel)⟩
set_option maxRecDepth 100000 in
theorem g_k295 : q_TK1 g_cl g_ty g_tbl g_ms g_m295 g_t295 := ⟨by decide +kernel, g_l12, g_lk12, q_ckt_ok (by decide +kernel)⟩
set_option maxRecDepth 100000 in
theorem g_k296 : q_TK1 g_cl g_ty g_tbl g_ms g_m296 g_t296 := ⟨by decide +kernel, g_l12, g_lk12, q_ckt_ok (by decide +kernel)⟩
set_option maxRecDepth 100000 in
theorem g_k297 : q_TK1 g_cl g_ty g_tbl g_ms g_m297 g_t297 := ⟨by decide +kernel, g_l12, g_lk12, q_ckt_ok (by decide +kernel)⟩
set_option maxRecDepth 100000 in
theorem g_k298 : q_TK1 g_cl g_ty g_tbl g_ms g_m298 g_t298 := ⟨by decide +kernel, g_l12, g_lk12, q_ckt_ok (by decide +kernel)⟩
set_option maxRecDepth 100000 in
theorem g_k299 : q_TK1 g_cl g_ty g_tbl g_ms g_m299 g_t299 := ⟨by decide +kernel, g_l12, g_lk12, q_ckt_ok (by decide +kernel)⟩
set_option maxRecDepth 100000 in
theorem g_k300 : q_TK1 g_cl g_ty g_tbl g_ms g_m300 g_t300 := ⟨by decide +kernel, g_l12, g_lk12, q_ckt_ok (by decide +kernel)⟩
set_option maxRecDepth 100000 in
theorem g_k301 : q_TK1 g_cl g_ty g_tbl g_ms g_m301 g_t301 := ⟨by decide +kernel, g_l12, g_lk12, q_ckt_ok (by decide +kernel)⟩
set_option maxRecDepth 100000 in
theorem g_k302 : q_TK1 g_cl g_ty g_tbl g_ms g_m302 g_t302 := ⟨by decide +kernel, g_l12, g_lk12, q_ckt_ok (by decide +kernel)⟩
set_option maxRecDepth 100000 in
theorem g_k303 : q_TK1 g_cl g_ty g_tbl g_ms g_m303 g_t303 := ⟨by decide +kernel, g_l12, g_lk12, q_ckt_ok (by decide +kernel)⟩
set_option maxRecDepth 100000 in
theorem g_k304 : q_TK1 g_cl g_ty g_tbl g_ms g_m304 g_t304 := ⟨by decide +kernel, g_l12, g_lk12, q_ckt_ok (by decide +kernel)⟩
set_option maxRecDepth 100000 in
theorem g_k305 : q_TK1 g_cl g_ty g_tbl g_ms g_m305 g_t305 := ⟨by decide +kernel, g_l12, g_lk12, q_ckt_ok (by decide +kernel)⟩
set_option maxRecDepth 100000 in
theorem g_k306 : q_TK1 g_cl g_ty g_tbl g_ms g_m306 g_t306 := ⟨by decide +kernel, g_l12, g_lk12, q_ckt_ok (by decide +kernel)⟩
set_option maxRecDepth 100000 in
theorem g_k307 : q_TK1 g_cl g_ty g_tbl g_ms g_m307 g_t307 := ⟨by decide +kernel, g_l12, g_lk12, q_ckt_ok (by decide +kernel)⟩
set_option maxRecDepth 100000 in
theorem g_k308 : q_TK1 g_cl g_ty g_tbl g_ms g_m308 g_t308 := ⟨by decide +kernel, g_l12, g_lk12, q_ckt_ok (by decide +kernel)⟩
set_option maxRecDepth 100000 in
theorem g_k309 : q_TK1 g_cl g_ty g_tbl g_ms g_m309 g_t309 := ⟨by decide +kernel, g_l12, g_lk12, q_ckt_ok (by decide +kernel)⟩
set_option maxRecDepth 100000 in
theorem g_k310 : q_TK1 g_cl g_ty g_tbl g_ms g_m310 g_t310 := ⟨by decide +kernel, g_l12, g_lk12, q_ckt_ok (by decide +kernel)⟩
set_option maxRecDepth 100000 in
theorem g_k311 : q_TK1 g_cl g_ty g_tbl g_ms g_m311 g_t311 := ⟨by decide +kernel, g_l12, g_lk12, q_ckt_ok (by decide +kernel)⟩
set_option maxRecDepth 100000 in
theorem g_k312 : q_TK1 g_cl g_ty g_tbl g_ms g_m312 g_t312 := ⟨by decide +kernel, g_l12, g_lk12, q_ckt_ok (by decide +kernel)⟩
set_option maxRecDepth 100000 in
theorem g_k313 : q_TK1 g_cl g_ty g_tbl g_ms g_m313 g_t313 := ⟨by decide +kernel, g_l12, g_lk12, q_ckt_ok (by decide +kernel)⟩
set_option maxRecDepth 100000 in
theorem g_k314 : q_TK1 g_cl g_ty g_tbl g_ms g_m314 g_t314 := ⟨by decide +kernel, g_l12, g_lk12, q_ckt_ok (by decide +kernel)⟩
set_option maxRecDepth 100000 in
theorem g_k315 : q_TK1 g_cl g_ty g_tbl g_ms g_m315 g_t315 := ⟨by decide +kernel, g_l12, g_lk12, q_ckt_ok (by decide +kernel)⟩
set_option maxRecDepth 100000 in
theorem g_k316 : q_TK1 g_cl g_ty g_tbl g_ms g_m316 g_t316 := ⟨by decide +kernel, g_l12, g_lk12, q_ckt_ok (by decide +kernel)⟩
set_option maxRecDepth 100000 in
theorem g_k317 : q_TK1 g_cl g_ty g_tbl g_ms g_m317 g_t317 := ⟨by decide +kernel, g_l12, g_lk12, q_ckt_ok (by decide +kernel)⟩
set_option maxRecDepth 100000 in
theorem g_k318 : q_TK1 g_cl g_ty g_tbl g_ms g_m318 g_t318 := ⟨by decide +kernel, g_l12, g_lk12, q_ckt_ok (by decide +kernel)⟩
set_option maxRecDepth 100000 in
theorem g_k319 : q_TK1 g_cl g_ty g_tbl g_ms g_m319 g_t319 := ⟨by decide +kernel, g_l12, g_lk12, q_ckt_ok (by decide +kernel)⟩
set_option maxRecDepth 100000 in
theorem g_k320 : q_TK1 g_cl g_ty g_tbl g_ms g_m320 g_t320 := ⟨by decide +kernel, g_l12, g_lk12, q_ckt_ok (by decide +kernel)⟩
set_option maxRecDepth 100000 in
theorem g_k321 : q_TK1 g_cl g_ty g_tbl g_ms g_m321 g_t321 := ⟨by decide +kernel, g_l12, g_lk12, q_ckt_ok (by decide +kernel)⟩
set_option maxRecDepth 100000 in
theorem g_k322 : q_TK1 g_cl g_ty g_tbl g_ms g_m322 g_t322 := ⟨by decide +kernel, g_l12, g_lk12, q_ckt_ok (by decide +kernel)⟩
set_option maxRecDepth 100000 in
theorem g_k323 : q_TK1 g_cl g_ty g_tbl g_ms g_m323 g_t323 := ⟨by decide +kernel, g_l12, g_lk12, q_ckt_ok (by decide +kernel)⟩
set_option maxRecDepth 100000 in
theorem g_k324 : q_TK1 g_cl g_ty g_tbl g_ms g_m324 g_t324 := ⟨by decide +kernel, g_l12, g_lk12, q_ckt_ok (by decide +kernel)⟩
set_option maxRecDepth 100000 in
theorem g_k325 : q_TK1 g_cl g_ty g_tbl g_ms g_m325 g_t325 := ⟨by decide +kernel, g_l13, g_lk13, q_ckt_ok (by decide +kernel)⟩
