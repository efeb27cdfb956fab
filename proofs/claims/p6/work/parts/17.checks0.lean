set_option maxRecDepth 100000 in
theorem g_k0 : q_TK1 g_cl g_ty g_tbl g_ms g_m0 g_t0 := ⟨by decide +kernel, g_l0, g_lk0, q_ckt_ok (by decide +kernel)⟩
set_option maxRecDepth 100000 in
theorem g_k1 : q_TK1 g_cl g_ty g_tbl g_ms g_m1 g_t1 := ⟨by decide +kernel, g_l0, g_lk0, q_ckt_ok (by decide +kernel)⟩
set_option maxRecDepth 100000 in
theorem g_k2 : q_TK1 g_cl g_ty g_tbl g_ms g_m2 g_t2 := ⟨by decide +kernel, g_l0, g_lk0, q_ckt_ok (by decide +kernel)⟩
set_option maxRecDepth 100000 in
theorem g_k3 : q_TK1 g_cl g_ty g_tbl g_ms g_m3 g_t3 := ⟨by decide +kernel, g_l0, g_lk0, q_ckt_ok (by decide +kernel)⟩
set_option maxRecDepth 100000 in
theorem g_k4 : q_TK1 g_cl g_ty g_tbl g_ms g_m4 g_t4 := ⟨by decide +kernel, g_l0, g_lk0, q_ckt_ok (by decide +kernel)⟩
set_option maxRecDepth 100000 in
theorem g_k5 : q_TK1 g_cl g_ty g_tbl g_ms g_m5 g_t5 := ⟨by decide +kernel, g_l0, g_lk0, q_ckt_ok (by decide +kernel)⟩
set_option maxRecDepth 100000 in
theorem g_k6 : q_TK1 g_cl g_ty g_tbl g_ms g_m6 g_t6 := ⟨by decide +kernel, g_l0, g_lk0, q_ckt_ok (by decide +kernel)⟩
set_option maxRecDepth 100000 in
theorem g_k7 : q_TK1 g_cl g_ty g_tbl g_ms g_m7 g_t7 := ⟨by decide +kernel, g_l0, g_lk0, q_ckt_ok (by decide +kernel)⟩
set_option maxRecDepth 100000 in
theorem g_k8 : q_TK1 g_cl g_ty g_tbl g_ms g_m8 g_t8 := ⟨by decide +kernel, g_l0, g_lk0, q_ckt_ok (by decide +kernel)⟩
set_option maxRecDepth 100000 in
theorem g_k10 : q_TK1 g_cl g_ty g_tbl g_ms g_m10 g_t10 := ⟨by decide +kernel, g_l0, g_lk0, q_ckt_ok (by decide +kernel)⟩
set_option maxRecDepth 100000 in
theorem g_k11 : q_TK1 g_cl g_ty g_tbl g_ms g_m11 g_t11 := ⟨by decide +kernel, g_l0, g_lk0, q_ckt_ok (by decide +kernel)⟩
set_option maxRecDepth 100000 in
theorem g_k12 : q_TK1 g_cl g_ty g_tbl g_ms g_m12 g_t12 := ⟨by decide +kernel, g_l0, g_lk0, q_ckt_ok (by decide +kernel)⟩
set_option maxRecDepth 100000 in
theorem g_k13 : q_TK1 g_cl g_ty g_tbl g_ms g_m13 g_t13 := ⟨by decide +kernel, g_l0, g_lk0, q_ckt_ok (by decide +kernel)⟩
set_option maxRecDepth 100000 in
theorem g_k14 : q_TK1 g_cl g_ty g_tbl g_ms g_m14 g_t14 := ⟨by decide +kernel, g_l0, g_lk0, q_ckt_ok (by decide +kernel)⟩
set_option maxRecDepth 100000 in
theorem g_k15 : q_TK1 g_cl g_ty g_tbl g_ms g_m15 g_t15 := ⟨by decide +kernel, g_l0, g_lk0, q_ckt_ok (by decide +kernel)⟩
set_option maxRecDepth 100000 in
theorem g_k16 : q_TK1 g_cl g_ty g_tbl g_ms g_m16 g_t16 := ⟨by decide +kernel, g_l0, g_lk0, q_ckt_ok (by decide +kernel)⟩
set_option maxRecDepth 100000 in
theorem g_k17 : q_TK1 g_cl g_ty g_tbl g_ms g_m17 g_t17 := ⟨by decide +kernel, g_l0, g_lk0, q_ckt_ok (by decide +kernel)⟩
set_option maxRecDepth 100000 in
theorem g_k18 : q_TK1 g_cl g_ty g_tbl g_ms g_m18 g_t18 := ⟨by decide +kernel, g_l0, g_lk0, q_ckt_ok (by decide +kernel)⟩
set_option maxRecDepth 100000 in
theorem g_k19 : q_TK1 g_cl g_ty g_tbl g_ms g_m19 g_t19 := ⟨by decide +kernel, g_l0, g_lk0, q_ckt_ok (by decide +kernel)⟩
set_option maxRecDepth 100000 in
theorem g_k20 : q_TK1 g_cl g_ty g_tbl g_ms g_m20 g_t20 := ⟨by decide +kernel, g_l0, g_lk0, q_ckt_ok (by decide +kernel)⟩
set_option maxRecDepth 100000 in
theorem g_k21 : q_TK1 g_cl g_ty g_tbl g_ms g_m21 g_t21 := ⟨by decide +kernel, g_l0, g_lk0, q_ckt_ok (by decide +kernel)⟩
set_option maxRecDepth 100000 in
theorem g_k22 : q_TK1 g_cl g_ty g_tbl g_ms g_m22 g_t22 := ⟨by decide +kernel, g_l0, g_lk0, q_ckt_ok (by decide +kernel)⟩
set_option maxRecDepth 100000 in
theorem g_k23 : q_TK1 g_cl g_ty g_tbl g_ms g_m23 g_t23 := ⟨by decide +kernel, g_l0, g_lk0, q_ckt_ok (by decide +kernel)⟩
set_option maxRecDepth 100000 in
theorem g_k24 : q_TK1 g_cl g_ty g_tbl g_ms g_m24 g_t24 := ⟨by decide +kernel, g_l0, g_lk0, q_ckt_ok (by decide +kernel)⟩
set_option maxRecDepth 100000 in
theorem g_k25 : q_TK1 g_cl g_ty g_tbl g_ms g_m25 g_t25 := ⟨by decide +kernel, g_l0, g_lk0, q_ckt_ok (by decide +kernel)⟩
set_option maxRecDepth 100000 in
theorem g_k26 : q_TK1 g_cl g_ty g_tbl g_ms g_m26 g_t26 := ⟨by decide +kernel, g_l0, g_lk0, q_ckt_ok (by decide +kernel)⟩
set_option maxRecDepth 100000 in
theorem g_k27 : q_TK1 g_cl g_ty g_tbl g_ms g_m27 g_t27 := ⟨by decide +kernel, g_l0, g_lk0, q_ckt_ok (by decide +kernel)⟩
set_option maxRecDepth 100000 in
theorem g_k28 : q_TK1 g_cl g_ty g_tbl g_ms g_m28 g_t28 := ⟨by decide +kernel, g_l0, g_lk0, q_ckt_ok (by decide +kernel)⟩
set_option maxRecDepth 100000 in
theorem g_k29 : q_TK1 g_cl g_ty g_tbl g_ms g_m29 g_t29 := ⟨by decide +kernel, g_l0, g_lk0, q_ckt_ok (by decide +kernel)⟩
set_option maxRecDepth 100000 in
theorem g_k30 : q_TK1 g_cl g_ty g_tbl g_ms g_m30 g_t30 := ⟨by decide +kernel, g_l0, g_lk0, q_ckt_ok (by decide +kernel)⟩
set_option maxRecDepth 100000 in
theorem g_k31 : q_TK1 g_cl g_ty g_tbl g_ms g_m31 g_t31 := ⟨by decide +kernel, g_l0, g_lk0, q_ckt_ok (by decide +kernel)⟩
set_option maxRecDepth 100000 in
theorem g_k32 : q_TK1 g_cl g_ty g_tbl g_ms g_m32 g_t32 := ⟨by decide +kernel, g_l0, g_lk0, q_ckt_ok (by decide +kernel)⟩
set_option maxRecDepth 100000 in
theorem g_k33 : q_TK1 g_cl g_ty g_tbl g_ms g_m33 g_t33 := ⟨by decide +kernel, g_l0, g_lk0, q_ckt_ok (by decide +kernel)⟩
set_option maxRecDepth 100000 in
theorem g_k34 : q_TK1 g_cl g_ty g_tbl g_ms g_m34 g_t34 := ⟨by decide +kernel, g_l0, g_lk0, q_ckt_ok (by decide +kernel)⟩
set_option maxRecDepth 100000 in
theorem g_k35 : q_TK1 g_cl g_ty g_tbl g_ms g_m35 g_t35 := ⟨by decide +kernel, g_l0, g_lk0, q_ckt_ok (by decide +kernel)⟩
set_option maxRecDepth 100000 in
theorem g_k36 : q_TK1 g_cl g_ty g_tbl g_ms g_m36 g_t36 := ⟨by decide +kernel, g_l0, g_lk0, q_ckt_ok (by decide +kernel)⟩
set_option maxRecDepth 100000 in
theorem g_k37 : q_TK1 g_cl g_ty g_tbl g_ms g_m37 g_t37 := ⟨by decide +kernel, g_l0, g_lk0, q_ckt_ok (by decide +kernel)⟩
set_option maxRecDepth 100000 in
theorem g_k38 : q_TK1 g_cl g_ty g_tbl g_ms g_m38 g_t38 := ⟨by decide +kernel, g_l0, g_lk0, q_ckt_ok (by decide +kernel)⟩
set_option maxRecDepth 100000 in
theorem g_k39 : q_TK1 g_cl g_ty g_tbl g_ms g_m39 g_t39 := ⟨by decide +kernel, g_l0, g_lk0, q_ckt_ok (by decide +kernel)⟩
set_option maxRecDepth 100000 in
theorem g_k40 : q_TK1 g_cl g_ty g_tbl g_ms g_m40 g_t40 := ⟨by decide +kernel, g_l0, g_lk0, q_ckt_ok (by decide +kernel)⟩
set_option maxRecDepth 100000 in
theorem g_k41 : q_TK1 g_cl g_ty g_tbl g_ms g_m41 g_t41 := ⟨by decide +kernel, g_l0, g_lk0, q_ckt_ok (by decide +kernel)⟩
set_option maxRecDepth 100000 in
theorem g_k42 : q_TK1 g_cl g_ty g_tbl g_ms g_m42 g_t42 := ⟨by decide +kernel, g_l0, g_lk0, q_ckt_ok (by decide +kernel)⟩
set_option maxRecDepth 100000 in
theorem g_k43 : q_TK1 g_cl g_ty g_tbl g_ms g_m43 g_t43 := ⟨by decide +kernel, g_l0, g_lk0, q_ckt_ok (by decide +kernel)⟩
set_option maxRecDepth 100000 in
theorem g_k44 : q_TK1 g_cl g_ty g_tbl g_ms g_m44 g_t44 := ⟨by decide +kernel, g_l0, g_lk0, q_ckt_ok (by decide +kernel)⟩
set_option maxRecDepth 100000 in
theorem g_k45 : q_TK1 g_cl g_ty g_tbl g_ms g_m45 g_t45 := ⟨by decide +kernel, g_l0, g_lk0, q_ckt_ok (by decide +kernel)⟩
set_option maxRecDepth 100000 in
theorem g_k46 : q_TK1 g_cl g_ty g_tbl g_ms g_m46 g_t46 := ⟨by decide +kernel, g_l0, g_lk0, q_ckt_ok (by decide +kernel)⟩
set_option maxRecDepth 100000 in
theorem g_k47 : q_TK1 g_cl g_ty g_tbl g_ms g_m47 g_t47 := ⟨by decide +kernel, g_l0, g_lk0, q_ckt_ok (by decide +kernel)⟩
set_option maxRecDepth 100000 in
theorem g_k48 : q_TK1 g_cl g_ty g_tbl g_ms g_m48 g_t48 := ⟨by decide +kernel, g_l0, g_lk0, q_ckt_ok (by decide +kernel)⟩
set_option maxRecDepth 100000 in
theorem g_k49 : q_TK1 g_cl g_ty g_tbl g_ms g_m49 g_t49 := ⟨by decide +kernel, g_l0, g_lk0, q_ckt_ok (by decide +kernel)⟩
set_option maxRecDepth 100000 in
theorem g_k50 : q_TK1 g_cl g_ty g_tbl g_ms g_m50 g_t50 := ⟨by decide +kernel, g_l0, g_lk0, q_ckt_ok (by decide +kernel)⟩
set_option maxRecDepth 100000 in
theorem g_k51 : q_TK1 g_cl g_ty g_tbl g_ms g_m51 g_t51 := ⟨by decide +kernel, g_l0, g_lk0, q_ckt_ok (by decide +kernel)⟩
set_option maxRecDepth 100000 in
theorem g_k52 : q_TK1 g_cl g_ty g_tbl g_ms g_m52 g_t52 := ⟨by decide +kernel, g_l0, g_lk0, q_ckt_ok (by decide +kernel)⟩
set_option maxRecDepth 100000 in
theorem g_k53 : q_TK1 g_cl g_ty g_tbl g_ms g_m53 g_t53 := ⟨by decide +kernel, g_l0, g_lk0, q_ckt_ok (by decide +kernel)⟩
set_option maxRecDepth 100000 in
theorem g_k54 : q_TK1 g_cl g_ty g_tbl g_ms g_m54 g_t54 := ⟨by decide +kernel, g_l0, g_lk0, q_ckt_ok (by decide +kernel)⟩
set_option maxRecDepth 100000 in
theorem g_k55 : q_TK1 g_cl g_ty g_tbl g_ms g_m55 g_t55 := ⟨by decide +kernel, g_l0, g_lk0, q_ckt_ok (by decide +kernel)⟩
set_option maxRecDepth 100000 in
theorem g_k56 : q_TK1 g_cl g_ty g_tbl g_ms g_m56 g_t56 := ⟨by decide +kernel, g_l0, g_lk0, q_ckt_ok (by decide +kernel)⟩
set_option maxRecDepth 100000 in
theorem g_k57 : q_TK1 g_cl g_ty g_tbl g_ms g_m57 g_t57 := ⟨by decide +kernel, g_l0, g_lk0, q_ckt_ok (by decide +kernel)⟩
set_option maxRecDepth 100000 in
theorem g_k58 : q_TK1 g_cl g_ty g_tbl g_ms g_m58 g_t58 := ⟨by decide +kernel, g_l0, g_lk0, q_ckt_ok (by decide +kernel)⟩
set_option maxRecDepth 100000 in
theorem g_k59 : q_TK1 g_cl g_ty g_tbl g_ms g_m59 g_t59 := ⟨by decide +kernel, g_l0, g_lk0, q_ckt_ok (by decide +kernel)⟩
set_option maxRecDepth 100000 in
theorem g_k60 : q_TK1 g_cl g_ty g_tbl g_ms g_m60 g_t60 := ⟨by decide +kernel, g_l0, g_lk0, q_ckt_ok (by decide +kernel)⟩
set_option maxRecDepth 100000 in
theorem g_k61 : q_TK1 g_cl g_ty g_tbl g_ms g_m61 g_t61 := ⟨by decide +kernel, g_l0, g_lk0, q_ckt_ok (by decide +kernel)⟩
set_option maxRecDepth 100000 in
theorem g_k62 : q_TK1 g_cl g_ty g_tbl g_ms g_m62 g_t62 := ⟨by decide +kernel, g_l0, g_lk0, q_ckt_ok (by decide +kernel)⟩
set_option maxRecDepth 100000 in
theorem g_k63 : q_TK1 g_cl g_ty g_tbl g_ms g_m63 g_t63 := ⟨by decide +kernel, g_l0, g_lk0, q_ckt_ok (by decide +kernel)⟩
set_option maxRecDepth 100000 in
theorem g_k64 : q_TK1 g_cl g_ty g_tbl g_ms g_m64 g_t64 := ⟨by decide +kernel, g_l0, g_lk0, q_ckt_ok (by decide +kernel)⟩
