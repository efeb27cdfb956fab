theorem g_w0 : q_MW g_tbl g_m0 0 := ⟨(g_tb1 _ (List.mem_of_getElem? (i := 25) (by decide +kernel)) rfl), (g_tb1 _ (List.mem_of_getElem? (i := 1) (by decide +kernel)) rfl), by decide +kernel, by decide⟩
theorem g_i0 : Cond.instanceMethod g_m0.1 ∈ g_tbl := (g_tb1 _ (List.mem_of_getElem? (i := 24) (by decide +kernel)) rfl)
theorem g_w1 : q_MW g_tbl g_m1 1 := ⟨(g_tb4 _ (List.mem_of_getElem? (i := 175) (by decide +kernel)) rfl), (g_tb1 _ (List.mem_of_getElem? (i := 1) (by decide +kernel)) rfl), by decide +kernel, by decide⟩
theorem g_i1 : Cond.instanceMethod g_m1.1 ∈ g_tbl := (g_tb4 _ (List.mem_of_getElem? (i := 173) (by decide +kernel)) rfl)
theorem g_v1 : Cond.selects g_m1.1.cls g_m1.1 g_m1.1 ∈ g_tbl := (g_tb4 _ (List.mem_of_getElem? (i := 174) (by decide +kernel)) rfl)
theorem g_w2 : q_MW g_tbl g_m2 1 := ⟨(g_tb4 _ (List.mem_of_getElem? (i := 179) (by decide +kernel)) rfl), (g_tb1 _ (List.mem_of_getElem? (i := 1) (by decide +kernel)) rfl), by decide +kernel, by decide⟩
theorem g_i2 : Cond.instanceMethod g_m2.1 ∈ g_tbl := (g_tb4 _ (List.mem_of_getElem? (i := 178) (by decide +kernel)) rfl)
theorem g_v2 : Cond.selects g_m2.1.cls g_m2.1 g_m2.1 ∈ g_tbl := (g_tb0 _ (List.mem_of_getElem? (i := 27) (by decide +kernel)) rfl)
theorem g_w3 : q_MW g_tbl g_m3 2 := ⟨(g_tb5 _ (List.mem_of_getElem? (i := 5) (by decide +kernel)) rfl), (g_tb1 _ (List.mem_of_getElem? (i := 1) (by decide +kernel)) rfl), by decide +kernel, by decide⟩
theorem g_i3 : Cond.instanceMethod g_m3.1 ∈ g_tbl := (g_tb5 _ (List.mem_of_getElem? (i := 4) (by decide +kernel)) rfl)
theorem g_v3 : Cond.selects g_m3.1.cls g_m3.1 g_m3.1 ∈ g_tbl := (g_tb0 _ (List.mem_of_getElem? (i := 34) (by decide +kernel)) rfl)
theorem g_w4 : q_MW g_tbl g_m4 1 := ⟨(g_tb5 _ (List.mem_of_getElem? (i := 213) (by decide +kernel)) rfl), (g_tb1 _ (List.mem_of_getElem? (i := 1) (by decide +kernel)) rfl), by decide +kernel, by decide⟩
theorem g_i4 : Cond.instanceMethod g_m4.1 ∈ g_tbl := (g_tb5 _ (List.mem_of_getElem? (i := 211) (by decide +kernel)) rfl)
theorem g_v4 : Cond.selects g_m4.1.cls g_m4.1 g_m4.1 ∈ g_tbl := (g_tb5 _ (List.mem_of_getElem? (i := 212) (by decide +kernel)) rfl)
theorem g_w5 : q_MW g_tbl g_m5 2 := ⟨(g_tb6 _ (List.mem_of_getElem? (i := 84) (by decide +kernel)) rfl), (g_tb1 _ (List.mem_of_getElem? (i := 1) (by decide +kernel)) rfl), by decide +kernel, by decide⟩
theorem g_i5 : Cond.instanceMethod g_m5.1 ∈ g_tbl := (g_tb6 _ (List.mem_of_getElem? (i := 82) (by decide +kernel)) rfl)
theorem g_v5 : Cond.selects g_m5.1.cls g_m5.1 g_m5.1 ∈ g_tbl := (g_tb6 _ (List.mem_of_getElem? (i := 83) (by decide +kernel)) rfl)
theorem g_w6 : q_MW g_tbl g_m6 1 := ⟨(g_tb5 _ (List.mem_of_getElem? (i := 21) (by decide +kernel)) rfl), (g_tb1 _ (List.mem_of_getElem? (i := 1) (by decide +kernel)) rfl), by decide +kernel, by decide⟩
theorem g_i6 : Cond.instanceMethod g_m6.1 ∈ g_tbl := (g_tb5 _ (List.mem_of_getElem? (i := 19) (by decide +kernel)) rfl)
theorem g_v6 : Cond.selects g_m6.1.cls g_m6.1 g_m6.1 ∈ g_tbl := (g_tb5 _ (List.mem_of_getElem? (i := 20) (by decide +kernel)) rfl)
theorem g_w7 : q_MW g_tbl g_m7 1 := ⟨(g_tb5 _ (List.mem_of_getElem? (i := 50) (by decide +kernel)) rfl), (g_tb1 _ (List.mem_of_getElem? (i := 1) (by decide +kernel)) rfl), by decide +kernel, by decide⟩
theorem g_i7 : Cond.instanceMethod g_m7.1 ∈ g_tbl := (g_tb5 _ (List.mem_of_getElem? (i := 48) (by decide +kernel)) rfl)
theorem g_v7 : Cond.selects g_m7.1.cls g_m7.1 g_m7.1 ∈ g_tbl := (g_tb5 _ (List.mem_of_getElem? (i := 49) (by decide +kernel)) rfl)
theorem g_w8 : q_MW g_tbl g_m8 1 := ⟨(g_tb4 _ (List.mem_of_getElem? (i := 183) (by decide +kernel)) rfl), (g_tb1 _ (List.mem_of_getElem? (i := 1) (by decide +kernel)) rfl), by decide +kernel, by decide⟩
theorem g_i8 : Cond.instanceMethod g_m8.1 ∈ g_tbl := (g_tb4 _ (List.mem_of_getElem? (i := 182) (by decide +kernel)) rfl)
theorem g_v8 : Cond.selects g_m8.1.cls g_m8.1 g_m8.1 ∈ g_tbl := (g_tb0 _ (List.mem_of_getElem? (i := 28) (by decide +kernel)) rfl)
theorem g_w9 : q_MW g_tbl g_m9 2 := ⟨(g_tb6 _ (List.mem_of_getElem? (i := 20) (by decide +kernel)) rfl), (g_tb1 _ (List.mem_of_getElem? (i := 1) (by decide +kernel)) rfl), by decide +kernel, by decide⟩
theorem g_i9 : Cond.instanceMethod g_m9.1 ∈ g_tbl := (g_tb6 _ (List.mem_of_getElem? (i := 18) (by decide +kernel)) rfl)
theorem g_v9 : Cond.selects g_m9.1.cls g_m9.1 g_m9.1 ∈ g_tbl := (g_tb6 _ (List.mem_of_getElem? (i := 19) (by decide +kernel)) rfl)
theorem g_w10 : q_MW g_tbl g_m10 2 := ⟨(g_tb4 _ (List.mem_of_getElem? (i := 222) (by decide +kernel)) rfl), (g_tb1 _ (List.mem_of_getElem? (i := 1) (by decide +kernel)) rfl), by decide +kernel, by decide⟩
theorem g_i10 : Cond.instanceMethod g_m10.1 ∈ g_tbl := (g_tb4 _ (List.mem_of_getElem? (i := 220) (by decide +kernel)) rfl)
theorem g_v10 : Cond.selects g_m10.1.cls g_m10.1 g_m10.1 ∈ g_tbl := (g_tb4 _ (List.mem_of_getElem? (i := 221) (by decide +kernel)) rfl)
theorem g_w11 : q_MW g_tbl g_m11 2 := ⟨(g_tb6 _ (List.mem_of_getElem? (i := 31) (by decide +kernel)) rfl), (g_tb1 _ (List.mem_of_getElem? (i := 1) (by decide +kernel)) rfl), by decide +kernel, by decide⟩
theorem g_s11 : Cond.static g_m11.1 ∈ g_tbl := (g_tb6 _ (List.mem_of_getElem? (i := 30) (by decide +kernel)) rfl)
theorem g_w12 : q_MW g_tbl g_m12 0 := ⟨(g_tb5 _ (List.mem_of_getElem? (i := 92) (by decide +kernel)) rfl), (g_tb1 _ (List.mem_of_getElem? (i := 1) (by decide +kernel)) rfl), by decide +kernel, by decide⟩
theorem g_i12 : Cond.instanceMethod g_m12.1 ∈ g_tbl := (g_tb5 _ (List.mem_of_getElem? (i := 90) (by decide +kernel)) rfl)
theorem g_v12 : Cond.selects g_m12.1.cls g_m12.1 g_m12.1 ∈ g_tbl := (g_tb5 _ (List.mem_of_getElem? (i := 91) (by decide +kernel)) rfl)
theorem g_w13 : q_MW g_tbl g_m13 2 := ⟨(g_tb5 _ (List.mem_of_getElem? (i := 205) (by decide +kernel)) rfl), (g_tb1 _ (List.mem_of_getElem? (i := 1) (by decide +kernel)) rfl), by decide +kernel, by decide⟩
theorem g_i13 : Cond.instanceMethod g_m13.1 ∈ g_tbl := (g_tb5 _ (List.mem_of_getElem? (i := 204) (by decide +kernel)) rfl)
theorem g_v13 : Cond.selects g_m13.1.cls g_m13.1 g_m13.1 ∈ g_tbl := (g_tb0 _ (List.mem_of_getElem? (i := 42) (by decide +kernel)) rfl)
theorem g_w14 : q_MW g_tbl g_m14 0 := ⟨(g_tb4 _ (List.mem_of_getElem? (i := 226) (by decide +kernel)) rfl), (g_tb1 _ (List.mem_of_getElem? (i := 1) (by decide +kernel)) rfl), by decide +kernel, by decide⟩
theorem g_i14 : Cond.instanceMethod g_m14.1 ∈ g_tbl := (g_tb4 _ (List.mem_of_getElem? (i := 225) (by decide +kernel)) rfl)
theorem g_v14 : Cond.selects g_m14.1.cls g_m14.1 g_m14.1 ∈ g_tbl := (g_tb0 _ (List.mem_of_getElem? (i := 32) (by decide +kernel)) rfl)
theorem g_w15 : q_MW g_tbl g_m15 0 := ⟨(g_tb4 _ (List.mem_of_getElem? (i := 214) (by decide +kernel)) rfl), (g_tb1 _ (List.mem_of_getElem? (i := 1) (by decide +kernel)) rfl), by decide +kernel, by decide⟩
theorem g_i15 : Cond.instanceMethod g_m15.1 ∈ g_tbl := (g_tb4 _ (List.mem_of_getElem? (i := 213) (by decide +kernel)) rfl)
theorem g_v15 : Cond.selects g_m15.1.cls g_m15.1 g_m15.1 ∈ g_tbl := (g_tb0 _ (List.mem_of_getElem? (i := 31) (by decide +kernel)) rfl)
theorem g_w16 : q_MW g_tbl g_m16 0 := ⟨(g_tb5 _ (List.mem_of_getElem? (i := 175) (by decide +kernel)) rfl), (g_tb1 _ (List.mem_of_getElem? (i := 1) (by decide +kernel)) rfl), by decide +kernel, by decide⟩
theorem g_i16 : Cond.instanceMethod g_m16.1 ∈ g_tbl := (g_tb5 _ (List.mem_of_getElem? (i := 173) (by decide +kernel)) rfl)
theorem g_v16 : Cond.selects g_m16.1.cls g_m16.1 g_m16.1 ∈ g_tbl := (g_tb5 _ (List.mem_of_getElem? (i := 174) (by decide +kernel)) rfl)
theorem g_w17 : q_MW g_tbl g_m17 2 := ⟨(g_tb6 _ (List.mem_of_getElem? (i := 12) (by decide +kernel)) rfl), (g_tb1 _ (List.mem_of_getElem? (i := 1) (by decide +kernel)) rfl), by decide +kernel, by decide⟩
theorem g_i17 : Cond.instanceMethod g_m17.1 ∈ g_tbl := (g_tb6 _ (List.mem_of_getElem? (i := 10) (by decide +kernel)) rfl)
theorem g_v17 : Cond.selects g_m17.1.cls g_m17.1 g_m17.1 ∈ g_tbl := (g_tb6 _ (List.mem_of_getElem? (i := 11) (by decide +kernel)) rfl)
theorem g_w18 : q_MW g_tbl g_m18 0 := ⟨(g_tb5 _ (List.mem_of_getElem? (i := 84) (by decide +kernel)) rfl), (g_tb1 _ (List.mem_of_getElem? (i := 1) (by decide +kernel)) rfl), by decide +kernel, by decide⟩
theorem g_i18 : Cond.instanceMethod g_m18.1 ∈ g_tbl := (g_tb5 _ (List.mem_of_getElem? (i := 82) (by decide +kernel)) rfl)
theorem g_v18 : Cond.selects g_m18.1.cls g_m18.1 g_m18.1 ∈ g_tbl := (g_tb5 _ (List.mem_of_getElem? (i := 83) (by decide +kernel)) rfl)
theorem g_w19 : q_MW g_tbl g_m19 1 := ⟨(g_tb3 _ (List.mem_of_getElem? (i := 47) (by decide +kernel)) rfl), (g_tb1 _ (List.mem_of_getElem? (i := 1) (by decide +kernel)) rfl), by decide +kernel, by decide⟩
theorem g_i19 : Cond.instanceMethod g_m19.1 ∈ g_tbl := (g_tb3 _ (List.mem_of_getElem? (i := 45) (by decide +kernel)) rfl)
theorem g_v19 : Cond.selects g_m19.1.cls g_m19.1 g_m19.1 ∈ g_tbl := (g_tb3 _ (List.mem_of_getElem? (i := 46) (by decide +kernel)) rfl)
theorem g_w20 : q_MW g_tbl g_m20 1 := ⟨(g_tb4 _ (List.mem_of_getElem? (i := 99) (by decide +kernel)) rfl), (g_tb1 _ (List.mem_of_getElem? (i := 1) (by decide +kernel)) rfl), by decide +kernel, by decide⟩
theorem g_i20 : Cond.instanceMethod g_m20.1 ∈ g_tbl := (g_tb4 _ (List.mem_of_getElem? (i := 97) (by decide +kernel)) rfl)
theorem g_v20 : Cond.selects g_m20.1.cls g_m20.1 g_m20.1 ∈ g_tbl := (g_tb4 _ (List.mem_of_getElem? (i := 98) (by decide +kernel)) rfl)
theorem g_w21 : q_MW g_tbl g_m21 5 := ⟨(g_tb3 _ (List.mem_of_getElem? (i := 39) (by decide +kernel)) rfl), (g_tb1 _ (List.mem_of_getElem? (i := 1) (by decide +kernel)) rfl), by decide +kernel, by decide⟩
theorem g_i21 : Cond.instanceMethod g_m21.1 ∈ g_tbl := (g_tb3 _ (List.mem_of_getElem? (i := 37) (by decide +kernel)) rfl)
theorem g_v21 : Cond.selects g_m21.1.cls g_m21.1 g_m21.1 ∈ g_tbl := (g_tb3 _ (List.mem_of_getElem? (i := 38) (by decide +kernel)) rfl)
theorem g_w22 : q_MW g_tbl g_m22 1 := ⟨(g_tb4 _ (List.mem_of_getElem? (i := 196) (by decide +kernel)) rfl), (g_tb1 _ (List.mem_of_getElem? (i := 1) (by decide +kernel)) rfl), by decide +kernel, by decide⟩
theorem g_i22 : Cond.instanceMethod g_m22.1 ∈ g_tbl := (g_tb4 _ (List.mem_of_getElem? (i := 195) (by decide +kernel)) rfl)
theorem g_v22 : Cond.selects g_m22.1.cls g_m22.1 g_m22.1 ∈ g_tbl := (g_tb0 _ (List.mem_of_getElem? (i := 29) (by decide +kernel)) rfl)
theorem g_w23 : q_MW g_tbl g_m23 1 := ⟨(g_tb6 _ (List.mem_of_getElem? (i := 64) (by decide +kernel)) rfl), (g_tb1 _ (List.mem_of_getElem? (i := 1) (by decide +kernel)) rfl), by decide +kernel, by decide⟩
theorem g_i23 : Cond.instanceMethod g_m23.1 ∈ g_tbl := (g_tb6 _ (List.mem_of_getElem? (i := 62) (by decide +kernel)) rfl)
theorem g_v23 : Cond.selects g_m23.1.cls g_m23.1 g_m23.1 ∈ g_tbl := (g_tb6 _ (List.mem_of_getElem? (i := 63) (by decide +kernel)) rfl)
theorem g_w24 : q_MW g_tbl g_m24 0 := ⟨(g_tb4 _ (List.mem_of_getElem? (i := 171) (by decide +kernel)) rfl), (g_tb1 _ (List.mem_of_getElem? (i := 1) (by decide +kernel)) rfl), by decide +kernel, by decide⟩
theorem g_i24 : Cond.instanceMethod g_m24.1 ∈ g_tbl := (g_tb4 _ (List.mem_of_getElem? (i := 169) (by decide +kernel)) rfl)
theorem g_v24 : Cond.selects g_m24.1.cls g_m24.1 g_m24.1 ∈ g_tbl := (g_tb4 _ (List.mem_of_getElem? (i := 170) (by decide +kernel)) rfl)
theorem g_w25 : q_MW g_tbl g_m25 1 := ⟨(g_tb5 _ (List.mem_of_getElem? (i := 13) (by decide +kernel)) rfl), (g_tb1 _ (List.mem_of_getElem? (i := 1) (by decide +kernel)) rfl), by decide +kernel, by decide⟩
theorem g_i25 : Cond.instanceMethod g_m25.1 ∈ g_tbl := (g_tb5 _ (List.mem_of_getElem? (i := 11) (by decide +kernel)) rfl)
theorem g_v25 : Cond.selects g_m25.1.cls g_m25.1 g_m25.1 ∈ g_tbl := (g_tb5 _ (List.mem_of_getElem? (i := 12) (by decide +kernel)) rfl)
theorem g_w26 : q_MW g_tbl g_m26 1 := ⟨(g_tb6 _ (List.mem_of_getElem? (i := 16) (by decide +kernel)) rfl), (g_tb1 _ (List.mem_of_getElem? (i := 1) (by decide +kernel)) rfl), by decide +kernel, by decide⟩
theorem g_i26 : Cond.instanceMethod g_m26.1 ∈ g_tbl := (g_tb6 _ (List.mem_of_getElem? (i := 14) (by decide +kernel)) rfl)
theorem g_v26 : Cond.selects g_m26.1.cls g_m26.1 g_m26.1 ∈ g_tbl := (g_tb6 _ (List.mem_of_getElem? (i := 15) (by decide +kernel)) rfl)
theorem g_w27 : q_MW g_tbl g_m27 1 := ⟨(g_tb5 _ (List.mem_of_getElem? (i := 132) (by decide +kernel)) rfl), (g_tb1 _ (List.mem_of_getElem? (i := 1) (by decide +kernel)) rfl), by decide +kernel, by decide⟩
theorem g_i27 : Cond.instanceMethod g_m27.1 ∈ g_tbl := (g_tb5 _ (List.mem_of_getElem? (i := 130) (by decide +kernel)) rfl)
theorem g_v27 : Cond.selects g_m27.1.cls g_m27.1 g_m27.1 ∈ g_tbl := (g_tb5 _ (List.mem_of_getElem? (i := 131) (by decide +kernel)) rfl)
theorem g_w28 : q_MW g_tbl g_m28 2 := ⟨(g_tb4 _ (List.mem_of_getElem? (i := 45) (by decide +kernel)) rfl), (g_tb1 _ (List.mem_of_getElem? (i := 1) (by decide +kernel)) rfl), by decide +kernel, by decide⟩
theorem g_s28 : Cond.static g_m28.1 ∈ g_tbl := (g_tb4 _ (List.mem_of_getElem? (i := 44) (by decide +kernel)) rfl)
theorem g_w29 : q_MW g_tbl g_m29 1 := ⟨(g_tb5 _ (List.mem_of_getElem? (i := 45) (by decide +kernel)) rfl), (g_tb1 _ (List.mem_of_getElem? (i := 1) (by decide +kernel)) rfl), by decide +kernel, by decide⟩
theorem g_i29 : Cond.instanceMethod g_m29.1 ∈ g_tbl := (g_tb5 _ (List.mem_of_getElem? (i := 43) (by decide +kernel)) rfl)
theorem g_v29 : Cond.selects g_m29.1.cls g_m29.1 g_m29.1 ∈ g_tbl := (g_tb5 _ (List.mem_of_getElem? (i := 44) (by decide +kernel)) rfl)
theorem g_w30 : q_MW g_tbl g_m30 1 := ⟨(g_tb4 _ (List.mem_of_getElem? (i := 149) (by decide +kernel)) rfl), (g_tb1 _ (List.mem_of_getElem? (i := 1) (by decide +kernel)) rfl), by decide +kernel, by decide⟩
theorem g_i30 : Cond.instanceMethod g_m30.1 ∈ g_tbl := (g_tb4 _ (List.mem_of_getElem? (i := 148) (by decide +kernel)) rfl)
theorem g_v30 : Cond.selects g_m30.1.cls g_m30.1 g_m30.1 ∈ g_tbl := (g_tb0 _ (List.mem_of_getElem? (i := 24) (by decide +kernel)) rfl)
theorem g_w31 : q_MW g_tbl g_m31 1 := ⟨(g_tb5 _ (List.mem_of_getElem? (i := 9) (by decide +kernel)) rfl), (g_tb1 _ (List.mem_of_getElem? (i := 1) (by decide +kernel)) rfl), by decide +kernel, by decide⟩
theorem g_i31 : Cond.instanceMethod g_m31.1 ∈ g_tbl := (g_tb5 _ (List.mem_of_getElem? (i := 7) (by decide +kernel)) rfl)
theorem g_v31 : Cond.selects g_m31.1.cls g_m31.1 g_m31.1 ∈ g_tbl := (g_tb5 _ (List.mem_of_getElem? (i := 8) (by decide +kernel)) rfl)
theorem g_w32 : q_MW g_tbl g_m32 2 := ⟨(g_tb5 _ (List.mem_of_getElem? (i := 182) (by decide +kernel)) rfl), (g_tb1 _ (List.mem_of_getElem? (i := 1) (by decide +kernel)) rfl), by decide +kernel, by decide⟩
theorem g_s32 : Cond.static g_m32.1 ∈ g_tbl := (g_tb5 _ (List.mem_of_getElem? (i := 181) (by decide +kernel)) rfl)
theorem g_w33 : q_MW g_tbl g_m33 1 := ⟨(g_tb4 _ (List.mem_of_getElem? (i := 113) (by decide +kernel)) rfl), (g_tb1 _ (List.mem_of_getElem? (i := 1) (by decide +kernel)) rfl), by decide +kernel, by decide⟩
theorem g_i33 : Cond.instanceMethod g_m33.1 ∈ g_tbl := (g_tb4 _ (List.mem_of_getElem? (i := 112) (by decide +kernel)) rfl)
theorem g_v33 : Cond.selects g_m33.1.cls g_m33.1 g_m33.1 ∈ g_tbl := (g_tb0 _ (List.mem_of_getElem? (i := 22) (by decide +kernel)) rfl)
theorem g_w34 : q_MW g_tbl g_m34 1 := ⟨(g_tb4 _ (List.mem_of_getElem? (i := 125) (by decide +kernel)) rfl), (g_tb1 _ (List.mem_of_getElem? (i := 1) (by decide +kernel)) rfl), by decide +kernel, by decide⟩
theorem g_i34 : Cond.instanceMethod g_m34.1 ∈ g_tbl := (g_tb4 _ (List.mem_of_getElem? (i := 124) (by decide +kernel)) rfl)
theorem g_v34 : Cond.selects g_m34.1.cls g_m34.1 g_m34.1 ∈ g_tbl := (g_tb0 _ (List.mem_of_getElem? (i := 23) (by decide +kernel)) rfl)
theorem g_w35 : q_MW g_tbl g_m35 1 := ⟨(g_tb4 _ (List.mem_of_getElem? (i := 107) (by decide +kernel)) rfl), (g_tb1 _ (List.mem_of_getElem? (i := 1) (by decide +kernel)) rfl), by decide +kernel, by decide⟩
theorem g_i35 : Cond.instanceMethod g_m35.1 ∈ g_tbl := (g_tb4 _ (List.mem_of_getElem? (i := 106) (by decide +kernel)) rfl)
theorem g_v35 : Cond.selects g_m35.1.cls g_m35.1 g_m35.1 ∈ g_tbl := (g_tb0 _ (List.mem_of_getElem? (i := 21) (by decide +kernel)) rfl)
theorem g_w36 : q_MW g_tbl g_m36 1 := ⟨(g_tb5 _ (List.mem_of_getElem? (i := 17) (by decide +kernel)) rfl), (g_tb1 _ (List.mem_of_getElem? (i := 1) (by decide +kernel)) rfl), by decide +kernel, by decide⟩
theorem g_i36 : Cond.instanceMethod g_m36.1 ∈ g_tbl := (g_tb5 _ (List.mem_of_getElem? (i := 15) (by decide +kernel)) rfl)
theorem g_v36 : Cond.selects g_m36.1.cls g_m36.1 g_m36.1 ∈ g_tbl := (g_tb5 _ (List.mem_of_getElem? (i := 16) (by decide +kernel)) rfl)
theorem g_w37 : q_MW g_tbl g_m37 2 := ⟨(g_tb5 _ (List.mem_of_getElem? (i := 116) (by decide +kernel)) rfl), (g_tb1 _ (List.mem_of_getElem? (i := 1) (by decide +kernel)) rfl), by decide +kernel, by decide⟩
theorem g_i37 : Cond.instanceMethod g_m37.1 ∈ g_tbl := (g_tb5 _ (List.mem_of_getElem? (i := 114) (by decide +kernel)) rfl)
theorem g_v37 : Cond.selects g_m37.1.cls g_m37.1 g_m37.1 ∈ g_tbl := (g_tb5 _ (List.mem_of_getElem? (i := 115) (by decide +kernel)) rfl)
theorem g_w38 : q_MW g_tbl g_m38 1 := ⟨(g_tb6 _ (List.mem_of_getElem? (i := 59) (by decide +kernel)) rfl), (g_tb1 _ (List.mem_of_getElem? (i := 1) (by decide +kernel)) rfl), by decide +kernel, by decide⟩
theorem g_i38 : Cond.instanceMethod g_m38.1 ∈ g_tbl := (g_tb6 _ (List.mem_of_getElem? (i := 57) (by decide +kernel)) rfl)
theorem g_v38 : Cond.selects g_m38.1.cls g_m38.1 g_m38.1 ∈ g_tbl := (g_tb6 _ (List.mem_of_getElem? (i := 58) (by decide +kernel)) rfl)
theorem g_w39 : q_MW g_tbl g_m39 1 := ⟨(g_tb5 _ (List.mem_of_getElem? (i := 108) (by decide +kernel)) rfl), (g_tb1 _ (List.mem_of_getElem? (i := 1) (by decide +kernel)) rfl), by decide +kernel, by decide⟩
theorem g_i39 : Cond.instanceMethod g_m39.1 ∈ g_tbl := (g_tb5 _ (List.mem_of_getElem? (i := 106) (by decide +kernel)) rfl)
theorem g_v39 : Cond.selects g_m39.1.cls g_m39.1 g_m39.1 ∈ g_tbl := (g_tb5 _ (List.mem_of_getElem? (i := 107) (by decide +kernel)) rfl)
theorem g_w40 : q_MW g_tbl g_m40 0 := ⟨(g_tb5 _ (List.mem_of_getElem? (i := 140) (by decide +kernel)) rfl), (g_tb1 _ (List.mem_of_getElem? (i := 1) (by decide +kernel)) rfl), by decide +kernel, by decide⟩
theorem g_i40 : Cond.instanceMethod g_m40.1 ∈ g_tbl := (g_tb5 _ (List.mem_of_getElem? (i := 139) (by decide +kernel)) rfl)
theorem g_v40 : Cond.selects g_m40.1.cls g_m40.1 g_m40.1 ∈ g_tbl := (g_tb0 _ (List.mem_of_getElem? (i := 36) (by decide +kernel)) rfl)
theorem g_w41 : q_MW g_tbl g_m41 1 := ⟨(g_tb4 _ (List.mem_of_getElem? (i := 145) (by decide +kernel)) rfl), (g_tb1 _ (List.mem_of_getElem? (i := 1) (by decide +kernel)) rfl), by decide +kernel, by decide⟩
theorem g_i41 : Cond.instanceMethod g_m41.1 ∈ g_tbl := (g_tb4 _ (List.mem_of_getElem? (i := 143) (by decide +kernel)) rfl)
theorem g_v41 : Cond.selects g_m41.1.cls g_m41.1 g_m41.1 ∈ g_tbl := (g_tb4 _ (List.mem_of_getElem? (i := 144) (by decide +kernel)) rfl)
theorem g_w42 : q_MW g_tbl g_m42 1 := ⟨(g_tb4 _ (List.mem_of_getElem? (i := 153) (by decide +kernel)) rfl), (g_tb1 _ (List.mem_of_getElem? (i := 1) (by decide +kernel)) rfl), by decide +kernel, by decide⟩
theorem g_i42 : Cond.instanceMethod g_m42.1 ∈ g_tbl := (g_tb4 _ (List.mem_of_getElem? (i := 152) (by decide +kernel)) rfl)
theorem g_v42 : Cond.selects g_m42.1.cls g_m42.1 g_m42.1 ∈ g_tbl := (g_tb0 _ (List.mem_of_getElem? (i := 25) (by decide +kernel)) rfl)
theorem g_w43 : q_MW g_tbl g_m43 1 := ⟨(g_tb5 _ (List.mem_of_getElem? (i := 128) (by decide +kernel)) rfl), (g_tb1 _ (List.mem_of_getElem? (i := 1) (by decide +kernel)) rfl), by decide +kernel, by decide⟩
theorem g_i43 : Cond.instanceMethod g_m43.1 ∈ g_tbl := (g_tb5 _ (List.mem_of_getElem? (i := 126) (by decide +kernel)) rfl)
theorem g_v43 : Cond.selects g_m43.1.cls g_m43.1 g_m43.1 ∈ g_tbl := (g_tb5 _ (List.mem_of_getElem? (i := 127) (by decide +kernel)) rfl)
theorem g_w44 : q_MW g_tbl g_m44 1 := ⟨(g_tb6 _ (List.mem_of_getElem? (i := 39) (by decide +kernel)) rfl), (g_tb1 _ (List.mem_of_getElem? (i := 1) (by decide +kernel)) rfl), by decide +kernel, by decide⟩
theorem g_i44 : Cond.instanceMethod g_m44.1 ∈ g_tbl := (g_tb6 _ (List.mem_of_getElem? (i := 37) (by decide +kernel)) rfl)
theorem g_v44 : Cond.selects g_m44.1.cls g_m44.1 g_m44.1 ∈ g_tbl := (g_tb6 _ (List.mem_of_getElem? (i := 38) (by decide +kernel)) rfl)
theorem g_w45 : q_MW g_tbl g_m45 0 := ⟨(g_tb5 _ (List.mem_of_getElem? (i := 104) (by decide +kernel)) rfl), (g_tb1 _ (List.mem_of_getElem? (i := 1) (by decide +kernel)) rfl), by decide +kernel, by decide⟩
theorem g_i45 : Cond.instanceMethod g_m45.1 ∈ g_tbl := (g_tb5 _ (List.mem_of_getElem? (i := 102) (by decide +kernel)) rfl)
theorem g_v45 : Cond.selects g_m45.1.cls g_m45.1 g_m45.1 ∈ g_tbl := (g_tb5 _ (List.mem_of_getElem? (i := 103) (by decide +kernel)) rfl)
theorem g_w46 : q_MW g_tbl g_m46 0 := ⟨(g_tb5 _ (List.mem_of_getElem? (i := 96) (by decide +kernel)) rfl), (g_tb1 _ (List.mem_of_getElem? (i := 1) (by decide +kernel)) rfl), by decide +kernel, by decide⟩
theorem g_i46 : Cond.instanceMethod g_m46.1 ∈ g_tbl := (g_tb5 _ (List.mem_of_getElem? (i := 94) (by decide +kernel)) rfl)
theorem g_v46 : Cond.selects g_m46.1.cls g_m46.1 g_m46.1 ∈ g_tbl := (g_tb5 _ (List.mem_of_getElem? (i := 95) (by decide +kernel)) rfl)
theorem g_w47 : q_MW g_tbl g_m47 1 := ⟨(g_tb5 _ (List.mem_of_getElem? (i := 100) (by decide +kernel)) rfl), (g_tb1 _ (List.mem_of_getElem? (i := 1) (by decide +kernel)) rfl), by decide +kernel, by decide⟩
theorem g_i47 : Cond.instanceMethod g_m47.1 ∈ g_tbl := (g_tb5 _ (List.mem_of_getElem? (i := 99) (by decide +kernel)) rfl)
theorem g_v47 : Cond.selects g_m47.1.cls g_m47.1 g_m47.1 ∈ g_tbl := (g_tb0 _ (List.mem_of_getElem? (i := 35) (by decide +kernel)) rfl)
theorem g_w48 : q_MW g_tbl g_m48 0 := ⟨(g_tb4 _ (List.mem_of_getElem? (i := 188) (by decide +kernel)) rfl), (g_tb1 _ (List.mem_of_getElem? (i := 1) (by decide +kernel)) rfl), by decide +kernel, by decide⟩
theorem g_i48 : Cond.instanceMethod g_m48.1 ∈ g_tbl := (g_tb4 _ (List.mem_of_getElem? (i := 186) (by decide +kernel)) rfl)
theorem g_v48 : Cond.selects g_m48.1.cls g_m48.1 g_m48.1 ∈ g_tbl := (g_tb4 _ (List.mem_of_getElem? (i := 187) (by decide +kernel)) rfl)
theorem g_w49 : q_MW g_tbl g_m49 0 := ⟨(g_tb5 _ (List.mem_of_getElem? (i := 80) (by decide +kernel)) rfl), (g_tb1 _ (List.mem_of_getElem? (i := 1) (by decide +kernel)) rfl), by decide +kernel, by decide⟩
theorem g_i49 : Cond.instanceMethod g_m49.1 ∈ g_tbl := (g_tb5 _ (List.mem_of_getElem? (i := 78) (by decide +kernel)) rfl)
theorem g_v49 : Cond.selects g_m49.1.cls g_m49.1 g_m49.1 ∈ g_tbl := (g_tb5 _ (List.mem_of_getElem? (i := 79) (by decide +kernel)) rfl)
theorem g_w50 : q_MW g_tbl g_m50 1 := ⟨(g_tb4 _ (List.mem_of_getElem? (i := 91) (by decide +kernel)) rfl), (g_tb1 _ (List.mem_of_getElem? (i := 1) (by decide +kernel)) rfl), by decide +kernel, by decide⟩
theorem g_s50 : Cond.static g_m50.1 ∈ g_tbl := (g_tb4 _ (List.mem_of_getElem? (i := 90) (by decide +kernel)) rfl)
theorem g_w51 : q_MW g_tbl g_m51 2 := ⟨(g_tb6 _ (List.mem_of_getElem? (i := 35) (by decide +kernel)) rfl), (g_tb1 _ (List.mem_of_getElem? (i := 1) (by decide +kernel)) rfl), by decide +kernel, by decide⟩
theorem g_i51 : Cond.instanceMethod g_m51.1 ∈ g_tbl := (g_tb6 _ (List.mem_of_getElem? (i := 33) (by decide +kernel)) rfl)
theorem g_v51 : Cond.selects g_m51.1.cls g_m51.1 g_m51.1 ∈ g_tbl := (g_tb6 _ (List.mem_of_getElem? (i := 34) (by decide +kernel)) rfl)
theorem g_w52 : q_MW g_tbl g_m52 0 := ⟨(g_tb4 _ (List.mem_of_getElem? (i := 157) (by decide +kernel)) rfl), (g_tb1 _ (List.mem_of_getElem? (i := 1) (by decide +kernel)) rfl), by decide +kernel, by decide⟩
theorem g_i52 : Cond.instanceMethod g_m52.1 ∈ g_tbl := (g_tb4 _ (List.mem_of_getElem? (i := 156) (by decide +kernel)) rfl)
theorem g_v52 : Cond.selects g_m52.1.cls g_m52.1 g_m52.1 ∈ g_tbl := (g_tb0 _ (List.mem_of_getElem? (i := 26) (by decide +kernel)) rfl)
theorem g_w53 : q_MW g_tbl g_m53 0 := ⟨(g_tb5 _ (List.mem_of_getElem? (i := 136) (by decide +kernel)) rfl), (g_tb1 _ (List.mem_of_getElem? (i := 1) (by decide +kernel)) rfl), by decide +kernel, by decide⟩
theorem g_i53 : Cond.instanceMethod g_m53.1 ∈ g_tbl := (g_tb5 _ (List.mem_of_getElem? (i := 134) (by decide +kernel)) rfl)
theorem g_v53 : Cond.selects g_m53.1.cls g_m53.1 g_m53.1 ∈ g_tbl := (g_tb5 _ (List.mem_of_getElem? (i := 135) (by decide +kernel)) rfl)
theorem g_w54 : q_MW g_tbl g_m54 2 := ⟨(g_tb4 _ (List.mem_of_getElem? (i := 121) (by decide +kernel)) rfl), (g_tb1 _ (List.mem_of_getElem? (i := 1) (by decide +kernel)) rfl), by decide +kernel, by decide⟩
theorem g_i54 : Cond.instanceMethod g_m54.1 ∈ g_tbl := (g_tb4 _ (List.mem_of_getElem? (i := 119) (by decide +kernel)) rfl)
theorem g_v54 : Cond.selects g_m54.1.cls g_m54.1 g_m54.1 ∈ g_tbl := (g_tb4 _ (List.mem_of_getElem? (i := 120) (by decide +kernel)) rfl)
theorem g_w55 : q_MW g_tbl g_m55 3 := ⟨(g_tb6 _ (List.mem_of_getElem? (i := 25) (by decide +kernel)) rfl), (g_tb1 _ (List.mem_of_getElem? (i := 1) (by decide +kernel)) rfl), by decide +kernel, by decide⟩
theorem g_s55 : Cond.static g_m55.1 ∈ g_tbl := (g_tb6 _ (List.mem_of_getElem? (i := 24) (by decide +kernel)) rfl)
theorem g_w56 : q_MW g_tbl g_m56 2 := ⟨(g_tb4 _ (List.mem_of_getElem? (i := 94) (by decide +kernel)) rfl), (g_tb1 _ (List.mem_of_getElem? (i := 1) (by decide +kernel)) rfl), by decide +kernel, by decide⟩
theorem g_s56 : Cond.static g_m56.1 ∈ g_tbl := (g_tb4 _ (List.mem_of_getElem? (i := 93) (by decide +kernel)) rfl)
theorem g_w57 : q_MW g_tbl g_m57 0 := ⟨(g_tb3 _ (List.mem_of_getElem? (i := 51) (by decide +kernel)) rfl), (g_tb1 _ (List.mem_of_getElem? (i := 1) (by decide +kernel)) rfl), by decide +kernel, by decide⟩
theorem g_i57 : Cond.instanceMethod g_m57.1 ∈ g_tbl := (g_tb3 _ (List.mem_of_getElem? (i := 49) (by decide +kernel)) rfl)
theorem g_v57 : Cond.selects g_m57.1.cls g_m57.1 g_m57.1 ∈ g_tbl := (g_tb3 _ (List.mem_of_getElem? (i := 50) (by decide +kernel)) rfl)
theorem g_w58 : q_MW g_tbl g_m58 1 := ⟨(g_tb4 _ (List.mem_of_getElem? (i := 137) (by decide +kernel)) rfl), (g_tb1 _ (List.mem_of_getElem? (i := 1) (by decide +kernel)) rfl), by decide +kernel, by decide⟩
theorem g_i58 : Cond.instanceMethod g_m58.1 ∈ g_tbl := (g_tb4 _ (List.mem_of_getElem? (i := 135) (by decide +kernel)) rfl)
theorem g_v58 : Cond.selects g_m58.1.cls g_m58.1 g_m58.1 ∈ g_tbl := (g_tb4 _ (List.mem_of_getElem? (i := 136) (by decide +kernel)) rfl)
theorem g_w59 : q_MW g_tbl g_m59 2 := ⟨(g_tb4 _ (List.mem_of_getElem? (i := 141) (by decide +kernel)) rfl), (g_tb1 _ (List.mem_of_getElem? (i := 1) (by decide +kernel)) rfl), by decide +kernel, by decide⟩
theorem g_i59 : Cond.instanceMethod g_m59.1 ∈ g_tbl := (g_tb4 _ (List.mem_of_getElem? (i := 139) (by decide +kernel)) rfl)
theorem g_v59 : Cond.selects g_m59.1.cls g_m59.1 g_m59.1 ∈ g_tbl := (g_tb4 _ (List.mem_of_getElem? (i := 140) (by decide +kernel)) rfl)
theorem g_w60 : q_MW g_tbl g_m60 0 := ⟨(g_tb5 _ (List.mem_of_getElem? (i := 37) (by decide +kernel)) rfl), (g_tb1 _ (List.mem_of_getElem? (i := 1) (by decide +kernel)) rfl), by decide +kernel, by decide⟩
theorem g_i60 : Cond.instanceMethod g_m60.1 ∈ g_tbl := (g_tb5 _ (List.mem_of_getElem? (i := 35) (by decide +kernel)) rfl)
theorem g_v60 : Cond.selects g_m60.1.cls g_m60.1 g_m60.1 ∈ g_tbl := (g_tb5 _ (List.mem_of_getElem? (i := 36) (by decide +kernel)) rfl)
theorem g_w61 : q_MW g_tbl g_m61 0 := ⟨(g_tb5 _ (List.mem_of_getElem? (i := 124) (by decide +kernel)) rfl), (g_tb1 _ (List.mem_of_getElem? (i := 1) (by decide +kernel)) rfl), by decide +kernel, by decide⟩
theorem g_i61 : Cond.instanceMethod g_m61.1 ∈ g_tbl := (g_tb5 _ (List.mem_of_getElem? (i := 122) (by decide +kernel)) rfl)
theorem g_v61 : Cond.selects g_m61.1.cls g_m61.1 g_m61.1 ∈ g_tbl := (g_tb5 _ (List.mem_of_getElem? (i := 123) (by decide +kernel)) rfl)
theorem g_w62 : q_MW g_tbl g_m62 1 := ⟨(g_tb5 _ (List.mem_of_getElem? (i := 193) (by decide +kernel)) rfl), (g_tb1 _ (List.mem_of_getElem? (i := 1) (by decide +kernel)) rfl), by decide +kernel, by decide⟩
theorem g_i62 : Cond.instanceMethod g_m62.1 ∈ g_tbl := (g_tb5 _ (List.mem_of_getElem? (i := 192) (by decide +kernel)) rfl)
theorem g_v62 : Cond.selects g_m62.1.cls g_m62.1 g_m62.1 ∈ g_tbl := (g_tb0 _ (List.mem_of_getElem? (i := 41) (by decide +kernel)) rfl)
theorem g_w63 : q_MW g_tbl g_m63 1 := ⟨(g_tb5 _ (List.mem_of_getElem? (i := 64) (by decide +kernel)) rfl), (g_tb1 _ (List.mem_of_getElem? (i := 1) (by decide +kernel)) rfl), by decide +kernel, by decide⟩
theorem g_i63 : Cond.instanceMethod g_m63.1 ∈ g_tbl := (g_tb5 _ (List.mem_of_getElem? (i := 62) (by decide +kernel)) rfl)
theorem g_v63 : Cond.selects g_m63.1.cls g_m63.1 g_m63.1 ∈ g_tbl := (g_tb5 _ (List.mem_of_getElem? (i := 63) (by decide +kernel)) rfl)
theorem g_w64 : q_MW g_tbl g_m64 0 := ⟨(g_tb5 _ (List.mem_of_getElem? (i := 112) (by decide +kernel)) rfl), (g_tb1 _ (List.mem_of_getElem? (i := 1) (by decide +kernel)) rfl), by decide +kernel, by decide⟩
theorem g_i64 : Cond.instanceMethod g_m64.1 ∈ g_tbl := (g_tb5 _ (List.mem_of_getElem? (i := 110) (by decide +kernel)) rfl)
theorem g_v64 : Cond.selects g_m64.1.cls g_m64.1 g_m64.1 ∈ g_tbl := (g_tb5 _ (List.mem_of_getElem? (i := 111) (by decide +kernel)) rfl)
theorem g_w65 : q_MW g_tbl g_m65 3 := ⟨(g_tb6 _ (List.mem_of_getElem? (i := 43) (by decide +kernel)) rfl), (g_tb1 _ (List.mem_of_getElem? (i := 1) (by decide +kernel)) rfl), by decide +kernel, by decide⟩
theorem g_i65 : Cond.instanceMethod g_m65.1 ∈ g_tbl := (g_tb6 _ (List.mem_of_getElem? (i := 41) (by decide +kernel)) rfl)
theorem g_v65 : Cond.selects g_m65.1.cls g_m65.1 g_m65.1 ∈ g_tbl := (g_tb6 _ (List.mem_of_getElem? (i := 42) (by decide +kernel)) rfl)
theorem g_w66 : q_MW g_tbl g_m66 2 := ⟨(g_tb5 _ (List.mem_of_getElem? (i := 185) (by decide +kernel)) rfl), (g_tb1 _ (List.mem_of_getElem? (i := 1) (by decide +kernel)) rfl), by decide +kernel, by decide⟩
theorem g_s66 : Cond.static g_m66.1 ∈ g_tbl := (g_tb5 _ (List.mem_of_getElem? (i := 184) (by decide +kernel)) rfl)
theorem g_w67 : q_MW g_tbl g_m67 2 := ⟨(g_tb4 _ (List.mem_of_getElem? (i := 103) (by decide +kernel)) rfl), (g_tb1 _ (List.mem_of_getElem? (i := 1) (by decide +kernel)) rfl), by decide +kernel, by decide⟩
theorem g_i67 : Cond.instanceMethod g_m67.1 ∈ g_tbl := (g_tb4 _ (List.mem_of_getElem? (i := 101) (by decide +kernel)) rfl)
theorem g_v67 : Cond.selects g_m67.1.cls g_m67.1 g_m67.1 ∈ g_tbl := (g_tb4 _ (List.mem_of_getElem? (i := 102) (by decide +kernel)) rfl)
theorem g_w68 : q_MW g_tbl g_m68 1 := ⟨(g_tb5 _ (List.mem_of_getElem? (i := 1) (by decide +kernel)) rfl), (g_tb1 _ (List.mem_of_getElem? (i := 1) (by decide +kernel)) rfl), by decide +kernel, by decide⟩
theorem g_i68 : Cond.instanceMethod g_m68.1 ∈ g_tbl := (g_tb4 _ (List.mem_of_getElem? (i := 239) (by decide +kernel)) rfl)
theorem g_v68 : Cond.selects g_m68.1.cls g_m68.1 g_m68.1 ∈ g_tbl := (g_tb5 _ (List.mem_of_getElem? (i := 0) (by decide +kernel)) rfl)
theorem g_w69 : q_MW g_tbl g_m69 1 := ⟨(g_tb5 _ (List.mem_of_getElem? (i := 179) (by decide +kernel)) rfl), (g_tb1 _ (List.mem_of_getElem? (i := 1) (by decide +kernel)) rfl), by decide +kernel, by decide⟩
theorem g_i69 : Cond.instanceMethod g_m69.1 ∈ g_tbl := (g_tb5 _ (List.mem_of_getElem? (i := 177) (by decide +kernel)) rfl)
theorem g_v69 : Cond.selects g_m69.1.cls g_m69.1 g_m69.1 ∈ g_tbl := (g_tb5 _ (List.mem_of_getElem? (i := 178) (by decide +kernel)) rfl)
theorem g_w70 : q_MW g_tbl g_m70 0 := ⟨(g_tb4 _ (List.mem_of_getElem? (i := 167) (by decide +kernel)) rfl), (g_tb1 _ (List.mem_of_getElem? (i := 1) (by decide +kernel)) rfl), by decide +kernel, by decide⟩
theorem g_i70 : Cond.instanceMethod g_m70.1 ∈ g_tbl := (g_tb4 _ (List.mem_of_getElem? (i := 165) (by decide +kernel)) rfl)
theorem g_v70 : Cond.selects g_m70.1.cls g_m70.1 g_m70.1 ∈ g_tbl := (g_tb4 _ (List.mem_of_getElem? (i := 166) (by decide +kernel)) rfl)
theorem g_w71 : q_MW g_tbl g_m71 1 := ⟨(g_tb5 _ (List.mem_of_getElem? (i := 189) (by decide +kernel)) rfl), (g_tb1 _ (List.mem_of_getElem? (i := 1) (by decide +kernel)) rfl), by decide +kernel, by decide⟩
theorem g_i71 : Cond.instanceMethod g_m71.1 ∈ g_tbl := (g_tb5 _ (List.mem_of_getElem? (i := 187) (by decide +kernel)) rfl)
theorem g_v71 : Cond.selects g_m71.1.cls g_m71.1 g_m71.1 ∈ g_tbl := (g_tb5 _ (List.mem_of_getElem? (i := 188) (by decide +kernel)) rfl)
theorem g_w72 : q_MW g_tbl g_m72 1 := ⟨(g_tb5 _ (List.mem_of_getElem? (i := 72) (by decide +kernel)) rfl), (g_tb1 _ (List.mem_of_getElem? (i := 1) (by decide +kernel)) rfl), by decide +kernel, by decide⟩
theorem g_i72 : Cond.instanceMethod g_m72.1 ∈ g_tbl := (g_tb5 _ (List.mem_of_getElem? (i := 70) (by decide +kernel)) rfl)
theorem g_v72 : Cond.selects g_m72.1.cls g_m72.1 g_m72.1 ∈ g_tbl := (g_tb5 _ (List.mem_of_getElem? (i := 71) (by decide +kernel)) rfl)
theorem g_w73 : q_MW g_tbl g_m73 2 := ⟨(g_tb6 _ (List.mem_of_getElem? (i := 80) (by decide +kernel)) rfl), (g_tb1 _ (List.mem_of_getElem? (i := 1) (by decide +kernel)) rfl), by decide +kernel, by decide⟩
theorem g_i73 : Cond.instanceMethod g_m73.1 ∈ g_tbl := (g_tb6 _ (List.mem_of_getElem? (i := 78) (by decide +kernel)) rfl)
theorem g_v73 : Cond.selects g_m73.1.cls g_m73.1 g_m73.1 ∈ g_tbl := (g_tb6 _ (List.mem_of_getElem? (i := 79) (by decide +kernel)) rfl)
theorem g_w74 : q_MW g_tbl g_m74 1 := ⟨(g_tb5 _ (List.mem_of_getElem? (i := 201) (by decide +kernel)) rfl), (g_tb1 _ (List.mem_of_getElem? (i := 1) (by decide +kernel)) rfl), by decide +kernel, by decide⟩
theorem g_i74 : Cond.instanceMethod g_m74.1 ∈ g_tbl := (g_tb5 _ (List.mem_of_getElem? (i := 199) (by decide +kernel)) rfl)
theorem g_v74 : Cond.selects g_m74.1.cls g_m74.1 g_m74.1 ∈ g_tbl := (g_tb5 _ (List.mem_of_getElem? (i := 200) (by decide +kernel)) rfl)
theorem g_w75 : q_MW g_tbl g_m75 0 := ⟨(g_tb5 _ (List.mem_of_getElem? (i := 239) (by decide +kernel)) rfl), (g_tb1 _ (List.mem_of_getElem? (i := 1) (by decide +kernel)) rfl), by decide +kernel, by decide⟩
theorem g_i75 : Cond.instanceMethod g_m75.1 ∈ g_tbl := (g_tb5 _ (List.mem_of_getElem? (i := 237) (by decide +kernel)) rfl)
theorem g_v75 : Cond.selects g_m75.1.cls g_m75.1 g_m75.1 ∈ g_tbl := (g_tb5 _ (List.mem_of_getElem? (i := 238) (by decide +kernel)) rfl)
theorem g_w76 : q_MW g_tbl g_m76 0 := ⟨(g_tb4 _ (List.mem_of_getElem? (i := 230) (by decide +kernel)) rfl), (g_tb1 _ (List.mem_of_getElem? (i := 1) (by decide +kernel)) rfl), by decide +kernel, by decide⟩
theorem g_i76 : Cond.instanceMethod g_m76.1 ∈ g_tbl := (g_tb4 _ (List.mem_of_getElem? (i := 229) (by decide +kernel)) rfl)
theorem g_v76 : Cond.selects g_m76.1.cls g_m76.1 g_m76.1 ∈ g_tbl := (g_tb0 _ (List.mem_of_getElem? (i := 33) (by decide +kernel)) rfl)
theorem g_w77 : q_MW g_tbl g_m77 0 := ⟨(g_tb5 _ (List.mem_of_getElem? (i := 25) (by decide +kernel)) rfl), (g_tb1 _ (List.mem_of_getElem? (i := 1) (by decide +kernel)) rfl), by decide +kernel, by decide⟩
theorem g_i77 : Cond.instanceMethod g_m77.1 ∈ g_tbl := (g_tb5 _ (List.mem_of_getElem? (i := 23) (by decide +kernel)) rfl)
theorem g_v77 : Cond.selects g_m77.1.cls g_m77.1 g_m77.1 ∈ g_tbl := (g_tb5 _ (List.mem_of_getElem? (i := 24) (by decide +kernel)) rfl)
theorem g_w78 : q_MW g_tbl g_m78 1 := ⟨(g_tb6 _ (List.mem_of_getElem? (i := 51) (by decide +kernel)) rfl), (g_tb1 _ (List.mem_of_getElem? (i := 1) (by decide +kernel)) rfl), by decide +kernel, by decide⟩
theorem g_i78 : Cond.instanceMethod g_m78.1 ∈ g_tbl := (g_tb6 _ (List.mem_of_getElem? (i := 49) (by decide +kernel)) rfl)
theorem g_v78 : Cond.selects g_m78.1.cls g_m78.1 g_m78.1 ∈ g_tbl := (g_tb6 _ (List.mem_of_getElem? (i := 50) (by decide +kernel)) rfl)
theorem g_w79 : q_MW g_tbl g_m79 0 := ⟨(g_tb4 _ (List.mem_of_getElem? (i := 163) (by decide +kernel)) rfl), (g_tb1 _ (List.mem_of_getElem? (i := 1) (by decide +kernel)) rfl), by decide +kernel, by decide⟩
theorem g_i79 : Cond.instanceMethod g_m79.1 ∈ g_tbl := (g_tb4 _ (List.mem_of_getElem? (i := 161) (by decide +kernel)) rfl)
theorem g_v79 : Cond.selects g_m79.1.cls g_m79.1 g_m79.1 ∈ g_tbl := (g_tb4 _ (List.mem_of_getElem? (i := 162) (by decide +kernel)) rfl)
theorem g_w80 : q_MW g_tbl g_m80 3 := ⟨(g_tb5 _ (List.mem_of_getElem? (i := 56) (by decide +kernel)) rfl), (g_tb1 _ (List.mem_of_getElem? (i := 1) (by decide +kernel)) rfl), by decide +kernel, by decide⟩
theorem g_i80 : Cond.instanceMethod g_m80.1 ∈ g_tbl := (g_tb5 _ (List.mem_of_getElem? (i := 54) (by decide +kernel)) rfl)
theorem g_v80 : Cond.selects g_m80.1.cls g_m80.1 g_m80.1 ∈ g_tbl := (g_tb5 _ (List.mem_of_getElem? (i := 55) (by decide +kernel)) rfl)
theorem g_w81 : q_MW g_tbl g_m81 1 := ⟨(g_tb5 _ (List.mem_of_getElem? (i := 222) (by decide +kernel)) rfl), (g_tb1 _ (List.mem_of_getElem? (i := 1) (by decide +kernel)) rfl), by decide +kernel, by decide⟩
theorem g_i81 : Cond.instanceMethod g_m81.1 ∈ g_tbl := (g_tb5 _ (List.mem_of_getElem? (i := 220) (by decide +kernel)) rfl)
theorem g_v81 : Cond.selects g_m81.1.cls g_m81.1 g_m81.1 ∈ g_tbl := (g_tb5 _ (List.mem_of_getElem? (i := 221) (by decide +kernel)) rfl)
theorem g_w82 : q_MW g_tbl g_m82 0 := ⟨(g_tb4 _ (List.mem_of_getElem? (i := 206) (by decide +kernel)) rfl), (g_tb1 _ (List.mem_of_getElem? (i := 1) (by decide +kernel)) rfl), by decide +kernel, by decide⟩
theorem g_i82 : Cond.instanceMethod g_m82.1 ∈ g_tbl := (g_tb4 _ (List.mem_of_getElem? (i := 205) (by decide +kernel)) rfl)
theorem g_v82 : Cond.selects g_m82.1.cls g_m82.1 g_m82.1 ∈ g_tbl := (g_tb0 _ (List.mem_of_getElem? (i := 30) (by decide +kernel)) rfl)
theorem g_w83 : q_MW g_tbl g_m83 0 := ⟨(g_tb1 _ (List.mem_of_getElem? (i := 54) (by decide +kernel)) rfl), (g_tb1 _ (List.mem_of_getElem? (i := 4) (by decide +kernel)) rfl), by decide +kernel, by decide⟩
theorem g_i83 : Cond.instanceMethod g_m83.1 ∈ g_tbl := (g_tb1 _ (List.mem_of_getElem? (i := 53) (by decide +kernel)) rfl)
theorem g_w84 : q_MW g_tbl g_m84 1 := ⟨(g_tb4 _ (List.mem_of_getElem? (i := 10) (by decide +kernel)) rfl), (g_tb1 _ (List.mem_of_getElem? (i := 4) (by decide +kernel)) rfl), by decide +kernel, by decide⟩
theorem g_i84 : Cond.instanceMethod g_m84.1 ∈ g_tbl := (g_tb4 _ (List.mem_of_getElem? (i := 8) (by decide +kernel)) rfl)
theorem g_v84 : Cond.selects g_m84.1.cls g_m84.1 g_m84.1 ∈ g_tbl := (g_tb4 _ (List.mem_of_getElem? (i := 9) (by decide +kernel)) rfl)
theorem g_w85 : q_MW g_tbl g_m85 3 := ⟨(g_tb4 _ (List.mem_of_getElem? (i := 87) (by decide +kernel)) rfl), (g_tb1 _ (List.mem_of_getElem? (i := 4) (by decide +kernel)) rfl), by decide +kernel, by decide⟩
theorem g_s85 : Cond.static g_m85.1 ∈ g_tbl := (g_tb4 _ (List.mem_of_getElem? (i := 86) (by decide +kernel)) rfl)
theorem g_w86 : q_MW g_tbl g_m86 6 := ⟨(g_tb4 _ (List.mem_of_getElem? (i := 83) (by decide +kernel)) rfl), (g_tb1 _ (List.mem_of_getElem? (i := 4) (by decide +kernel)) rfl), by decide +kernel, by decide⟩
theorem g_i86 : Cond.instanceMethod g_m86.1 ∈ g_tbl := (g_tb4 _ (List.mem_of_getElem? (i := 81) (by decide +kernel)) rfl)
theorem g_v86 : Cond.selects g_m86.1.cls g_m86.1 g_m86.1 ∈ g_tbl := (g_tb4 _ (List.mem_of_getElem? (i := 82) (by decide +kernel)) rfl)
theorem g_w87 : q_MW g_tbl g_m87 1 := ⟨(g_tb2 _ (List.mem_of_getElem? (i := 141) (by decide +kernel)) rfl), (g_tb1 _ (List.mem_of_getElem? (i := 10) (by decide +kernel)) rfl), by decide +kernel, by decide⟩
theorem g_i87 : Cond.instanceMethod g_m87.1 ∈ g_tbl := (g_tb2 _ (List.mem_of_getElem? (i := 140) (by decide +kernel)) rfl)
theorem g_w88 : q_MW g_tbl g_m88 1 := ⟨(g_tb5 _ (List.mem_of_getElem? (i := 144) (by decide +kernel)) rfl), (g_tb1 _ (List.mem_of_getElem? (i := 10) (by decide +kernel)) rfl), by decide +kernel, by decide⟩
theorem g_i88 : Cond.instanceMethod g_m88.1 ∈ g_tbl := (g_tb5 _ (List.mem_of_getElem? (i := 142) (by decide +kernel)) rfl)
theorem g_v88 : Cond.selects g_m88.1.cls g_m88.1 g_m88.1 ∈ g_tbl := (g_tb5 _ (List.mem_of_getElem? (i := 143) (by decide +kernel)) rfl)
theorem g_w89 : q_MW g_tbl g_m89 3 := ⟨(g_tb5 _ (List.mem_of_getElem? (i := 150) (by decide +kernel)) rfl), (g_tb1 _ (List.mem_of_getElem? (i := 10) (by decide +kernel)) rfl), by decide +kernel, by decide⟩
theorem g_i89 : Cond.instanceMethod g_m89.1 ∈ g_tbl := (g_tb5 _ (List.mem_of_getElem? (i := 149) (by decide +kernel)) rfl)
theorem g_v89 : Cond.selects g_m89.1.cls g_m89.1 g_m89.1 ∈ g_tbl := (g_tb0 _ (List.mem_of_getElem? (i := 37) (by decide +kernel)) rfl)
theorem g_w90 : q_MW g_tbl g_m90 1 := ⟨(g_tb5 _ (List.mem_of_getElem? (i := 162) (by decide +kernel)) rfl), (g_tb1 _ (List.mem_of_getElem? (i := 10) (by decide +kernel)) rfl), by decide +kernel, by decide⟩
theorem g_i90 : Cond.instanceMethod g_m90.1 ∈ g_tbl := (g_tb5 _ (List.mem_of_getElem? (i := 161) (by decide +kernel)) rfl)
theorem g_v90 : Cond.selects g_m90.1.cls g_m90.1 g_m90.1 ∈ g_tbl := (g_tb0 _ (List.mem_of_getElem? (i := 39) (by decide +kernel)) rfl)
theorem g_w91 : q_MW g_tbl g_m91 2 := ⟨(g_tb5 _ (List.mem_of_getElem? (i := 167) (by decide +kernel)) rfl), (g_tb1 _ (List.mem_of_getElem? (i := 10) (by decide +kernel)) rfl), by decide +kernel, by decide⟩
theorem g_i91 : Cond.instanceMethod g_m91.1 ∈ g_tbl := (g_tb5 _ (List.mem_of_getElem? (i := 166) (by decide +kernel)) rfl)
theorem g_v91 : Cond.selects g_m91.1.cls g_m91.1 g_m91.1 ∈ g_tbl := (g_tb0 _ (List.mem_of_getElem? (i := 40) (by decide +kernel)) rfl)
theorem g_w92 : q_MW g_tbl g_m92 1 := ⟨(g_tb5 _ (List.mem_of_getElem? (i := 154) (by decide +kernel)) rfl), (g_tb1 _ (List.mem_of_getElem? (i := 10) (by decide +kernel)) rfl), by decide +kernel, by decide⟩
theorem g_i92 : Cond.instanceMethod g_m92.1 ∈ g_tbl := (g_tb5 _ (List.mem_of_getElem? (i := 153) (by decide +kernel)) rfl)
theorem g_v92 : Cond.selects g_m92.1.cls g_m92.1 g_m92.1 ∈ g_tbl := (g_tb0 _ (List.mem_of_getElem? (i := 38) (by decide +kernel)) rfl)
theorem g_w93 : q_MW g_tbl g_m93 0 := ⟨(g_tb2 _ (List.mem_of_getElem? (i := 24) (by decide +kernel)) rfl), (g_tb1 _ (List.mem_of_getElem? (i := 7) (by decide +kernel)) rfl), by decide +kernel, by decide⟩
theorem g_i93 : Cond.instanceMethod g_m93.1 ∈ g_tbl := (g_tb2 _ (List.mem_of_getElem? (i := 23) (by decide +kernel)) rfl)
theorem g_w94 : q_MW g_tbl g_m94 1 := ⟨(g_tb4 _ (List.mem_of_getElem? (i := 218) (by decide +kernel)) rfl), (g_tb1 _ (List.mem_of_getElem? (i := 7) (by decide +kernel)) rfl), by decide +kernel, by decide⟩
theorem g_i94 : Cond.instanceMethod g_m94.1 ∈ g_tbl := (g_tb4 _ (List.mem_of_getElem? (i := 216) (by decide +kernel)) rfl)
theorem g_v94 : Cond.selects g_m94.1.cls g_m94.1 g_m94.1 ∈ g_tbl := (g_tb4 _ (List.mem_of_getElem? (i := 217) (by decide +kernel)) rfl)
theorem g_w95 : q_MW g_tbl g_m95 1 := ⟨(g_tb2 _ (List.mem_of_getElem? (i := 44) (by decide +kernel)) rfl), (g_tb1 _ (List.mem_of_getElem? (i := 7) (by decide +kernel)) rfl), by decide +kernel, by decide⟩
theorem g_i95 : Cond.instanceMethod g_m95.1 ∈ g_tbl := (g_tb2 _ (List.mem_of_getElem? (i := 42) (by decide +kernel)) rfl)
theorem g_v95 : Cond.selects g_m95.1.cls g_m95.1 g_m95.1 ∈ g_tbl := (g_tb2 _ (List.mem_of_getElem? (i := 43) (by decide +kernel)) rfl)
theorem g_w96 : q_MW g_tbl g_m96 0 := ⟨(g_tb2 _ (List.mem_of_getElem? (i := 48) (by decide +kernel)) rfl), (g_tb1 _ (List.mem_of_getElem? (i := 7) (by decide +kernel)) rfl), by decide +kernel, by decide⟩
theorem g_i96 : Cond.instanceMethod g_m96.1 ∈ g_tbl := (g_tb2 _ (List.mem_of_getElem? (i := 47) (by decide +kernel)) rfl)
theorem g_v96 : Cond.selects g_m96.1.cls g_m96.1 g_m96.1 ∈ g_tbl := (g_tb0 _ (List.mem_of_getElem? (i := 0) (by decide +kernel)) rfl)
theorem g_w97 : q_MW g_tbl g_m97 1 := ⟨(g_tb5 _ (List.mem_of_getElem? (i := 41) (by decide +kernel)) rfl), (g_tb1 _ (List.mem_of_getElem? (i := 7) (by decide +kernel)) rfl), by decide +kernel, by decide⟩
theorem g_i97 : Cond.instanceMethod g_m97.1 ∈ g_tbl := (g_tb5 _ (List.mem_of_getElem? (i := 39) (by decide +kernel)) rfl)
theorem g_v97 : Cond.selects g_m97.1.cls g_m97.1 g_m97.1 ∈ g_tbl := (g_tb5 _ (List.mem_of_getElem? (i := 40) (by decide +kernel)) rfl)
theorem g_w98 : q_MW g_tbl g_m98 1 := ⟨(g_tb5 _ (List.mem_of_getElem? (i := 29) (by decide +kernel)) rfl), (g_tb1 _ (List.mem_of_getElem? (i := 7) (by decide +kernel)) rfl), by decide +kernel, by decide⟩
theorem g_i98 : Cond.instanceMethod g_m98.1 ∈ g_tbl := (g_tb5 _ (List.mem_of_getElem? (i := 27) (by decide +kernel)) rfl)
theorem g_v98 : Cond.selects g_m98.1.cls g_m98.1 g_m98.1 ∈ g_tbl := (g_tb5 _ (List.mem_of_getElem? (i := 28) (by decide +kernel)) rfl)
theorem g_w99 : q_MW g_tbl g_m99 0 := ⟨(g_tb2 _ (List.mem_of_getElem? (i := 174) (by decide +kernel)) rfl), (g_tb1 _ (List.mem_of_getElem? (i := 11) (by decide +kernel)) rfl), by decide +kernel, by decide⟩
theorem g_i99 : Cond.instanceMethod g_m99.1 ∈ g_tbl := (g_tb2 _ (List.mem_of_getElem? (i := 173) (by decide +kernel)) rfl)
theorem g_w100 : q_MW g_tbl g_m100 4 := ⟨(g_tb5 _ (List.mem_of_getElem? (i := 226) (by decide +kernel)) rfl), (g_tb1 _ (List.mem_of_getElem? (i := 11) (by decide +kernel)) rfl), by decide +kernel, by decide⟩
theorem g_i100 : Cond.instanceMethod g_m100.1 ∈ g_tbl := (g_tb5 _ (List.mem_of_getElem? (i := 224) (by decide +kernel)) rfl)
theorem g_v100 : Cond.selects g_m100.1.cls g_m100.1 g_m100.1 ∈ g_tbl := (g_tb5 _ (List.mem_of_getElem? (i := 225) (by decide +kernel)) rfl)
theorem g_w101 : q_MW g_tbl g_m101 2 := ⟨(g_tb6 _ (List.mem_of_getElem? (i := 8) (by decide +kernel)) rfl), (g_tb1 _ (List.mem_of_getElem? (i := 11) (by decide +kernel)) rfl), by decide +kernel, by decide⟩
theorem g_i101 : Cond.instanceMethod g_m101.1 ∈ g_tbl := (g_tb6 _ (List.mem_of_getElem? (i := 7) (by decide +kernel)) rfl)
theorem g_v101 : Cond.selects g_m101.1.cls g_m101.1 g_m101.1 ∈ g_tbl := (g_tb0 _ (List.mem_of_getElem? (i := 43) (by decide +kernel)) rfl)
theorem g_w102 : q_MW g_tbl g_m102 1 := ⟨(g_tb6 _ (List.mem_of_getElem? (i := 3) (by decide +kernel)) rfl), (g_tb1 _ (List.mem_of_getElem? (i := 11) (by decide +kernel)) rfl), by decide +kernel, by decide⟩
theorem g_i102 : Cond.instanceMethod g_m102.1 ∈ g_tbl := (g_tb6 _ (List.mem_of_getElem? (i := 1) (by decide +kernel)) rfl)
theorem g_v102 : Cond.selects g_m102.1.cls g_m102.1 g_m102.1 ∈ g_tbl := (g_tb6 _ (List.mem_of_getElem? (i := 2) (by decide +kernel)) rfl)
theorem g_w103 : q_MW g_tbl g_m103 2 := ⟨(g_tb5 _ (List.mem_of_getElem? (i := 234) (by decide +kernel)) rfl), (g_tb1 _ (List.mem_of_getElem? (i := 11) (by decide +kernel)) rfl), by decide +kernel, by decide⟩
theorem g_i103 : Cond.instanceMethod g_m103.1 ∈ g_tbl := (g_tb5 _ (List.mem_of_getElem? (i := 232) (by decide +kernel)) rfl)
theorem g_v103 : Cond.selects g_m103.1.cls g_m103.1 g_m103.1 ∈ g_tbl := (g_tb5 _ (List.mem_of_getElem? (i := 233) (by decide +kernel)) rfl)
theorem g_w104 : q_MW g_tbl g_m104 2 := ⟨(g_tb1 _ (List.mem_of_getElem? (i := 166) (by decide +kernel)) rfl), (g_tb1 _ (List.mem_of_getElem? (i := 5) (by decide +kernel)) rfl), by decide +kernel, by decide⟩
theorem g_i104 : Cond.instanceMethod g_m104.1 ∈ g_tbl := (g_tb1 _ (List.mem_of_getElem? (i := 165) (by decide +kernel)) rfl)
theorem g_w105 : q_MW g_tbl g_m105 0 := ⟨(g_tb3 _ (List.mem_of_getElem? (i := 60) (by decide +kernel)) rfl), (g_tb1 _ (List.mem_of_getElem? (i := 5) (by decide +kernel)) rfl), by decide +kernel, by decide⟩
theorem g_i105 : Cond.instanceMethod g_m105.1 ∈ g_tbl := (g_tb3 _ (List.mem_of_getElem? (i := 59) (by decide +kernel)) rfl)
theorem g_v105 : Cond.selects g_m105.1.cls g_m105.1 g_m105.1 ∈ g_tbl := (g_tb0 _ (List.mem_of_getElem? (i := 1) (by decide +kernel)) rfl)
theorem g_w106 : q_MW g_tbl g_m106 1 := ⟨(g_tb3 _ (List.mem_of_getElem? (i := 218) (by decide +kernel)) rfl), (g_tb1 _ (List.mem_of_getElem? (i := 5) (by decide +kernel)) rfl), by decide +kernel, by decide⟩
theorem g_i106 : Cond.instanceMethod g_m106.1 ∈ g_tbl := (g_tb3 _ (List.mem_of_getElem? (i := 217) (by decide +kernel)) rfl)
theorem g_v106 : Cond.selects g_m106.1.cls g_m106.1 g_m106.1 ∈ g_tbl := (g_tb0 _ (List.mem_of_getElem? (i := 9) (by decide +kernel)) rfl)
theorem g_w107 : q_MW g_tbl g_m107 3 := ⟨(g_tb3 _ (List.mem_of_getElem? (i := 214) (by decide +kernel)) rfl), (g_tb1 _ (List.mem_of_getElem? (i := 5) (by decide +kernel)) rfl), by decide +kernel, by decide⟩
theorem g_s107 : Cond.static g_m107.1 ∈ g_tbl := (g_tb3 _ (List.mem_of_getElem? (i := 213) (by decide +kernel)) rfl)
theorem g_w108 : q_MW g_tbl g_m108 1 := ⟨(g_tb3 _ (List.mem_of_getElem? (i := 67) (by decide +kernel)) rfl), (g_tb1 _ (List.mem_of_getElem? (i := 5) (by decide +kernel)) rfl), by decide +kernel, by decide⟩
theorem g_s108 : Cond.static g_m108.1 ∈ g_tbl := (g_tb3 _ (List.mem_of_getElem? (i := 66) (by decide +kernel)) rfl)
theorem g_w109 : q_MW g_tbl g_m109 1 := ⟨(g_tb3 _ (List.mem_of_getElem? (i := 135) (by decide +kernel)) rfl), (g_tb1 _ (List.mem_of_getElem? (i := 5) (by decide +kernel)) rfl), by decide +kernel, by decide⟩
theorem g_s109 : Cond.static g_m109.1 ∈ g_tbl := (g_tb3 _ (List.mem_of_getElem? (i := 134) (by decide +kernel)) rfl)
theorem g_w110 : q_MW g_tbl g_m110 1 := ⟨(g_tb3 _ (List.mem_of_getElem? (i := 70) (by decide +kernel)) rfl), (g_tb1 _ (List.mem_of_getElem? (i := 5) (by decide +kernel)) rfl), by decide +kernel, by decide⟩
theorem g_s110 : Cond.static g_m110.1 ∈ g_tbl := (g_tb3 _ (List.mem_of_getElem? (i := 69) (by decide +kernel)) rfl)
theorem g_w111 : q_MW g_tbl g_m111 1 := ⟨(g_tb4 _ (List.mem_of_getElem? (i := 25) (by decide +kernel)) rfl), (g_tb1 _ (List.mem_of_getElem? (i := 5) (by decide +kernel)) rfl), by decide +kernel, by decide⟩
theorem g_s111 : Cond.static g_m111.1 ∈ g_tbl := (g_tb4 _ (List.mem_of_getElem? (i := 24) (by decide +kernel)) rfl)
theorem g_w112 : q_MW g_tbl g_m112 0 := ⟨(g_tb3 _ (List.mem_of_getElem? (i := 83) (by decide +kernel)) rfl), (g_tb1 _ (List.mem_of_getElem? (i := 5) (by decide +kernel)) rfl), by decide +kernel, by decide⟩
theorem g_i112 : Cond.instanceMethod g_m112.1 ∈ g_tbl := (g_tb3 _ (List.mem_of_getElem? (i := 82) (by decide +kernel)) rfl)
theorem g_v112 : Cond.selects g_m112.1.cls g_m112.1 g_m112.1 ∈ g_tbl := (g_tb0 _ (List.mem_of_getElem? (i := 4) (by decide +kernel)) rfl)
theorem g_w113 : q_MW g_tbl g_m113 1 := ⟨(g_tb4 _ (List.mem_of_getElem? (i := 2) (by decide +kernel)) rfl), (g_tb1 _ (List.mem_of_getElem? (i := 5) (by decide +kernel)) rfl), by decide +kernel, by decide⟩
theorem g_i113 : Cond.instanceMethod g_m113.1 ∈ g_tbl := (g_tb4 _ (List.mem_of_getElem? (i := 1) (by decide +kernel)) rfl)
theorem g_v113 : Cond.selects g_m113.1.cls g_m113.1 g_m113.1 ∈ g_tbl := (g_tb0 _ (List.mem_of_getElem? (i := 15) (by decide +kernel)) rfl)
theorem g_w114 : q_MW g_tbl g_m114 1 := ⟨(g_tb3 _ (List.mem_of_getElem? (i := 238) (by decide +kernel)) rfl), (g_tb1 _ (List.mem_of_getElem? (i := 5) (by decide +kernel)) rfl), by decide +kernel, by decide⟩
theorem g_i114 : Cond.instanceMethod g_m114.1 ∈ g_tbl := (g_tb3 _ (List.mem_of_getElem? (i := 237) (by decide +kernel)) rfl)
theorem g_v114 : Cond.selects g_m114.1.cls g_m114.1 g_m114.1 ∈ g_tbl := (g_tb0 _ (List.mem_of_getElem? (i := 14) (by decide +kernel)) rfl)
theorem g_w115 : q_MW g_tbl g_m115 1 := ⟨(g_tb3 _ (List.mem_of_getElem? (i := 55) (by decide +kernel)) rfl), (g_tb1 _ (List.mem_of_getElem? (i := 5) (by decide +kernel)) rfl), by decide +kernel, by decide⟩
theorem g_i115 : Cond.instanceMethod g_m115.1 ∈ g_tbl := (g_tb3 _ (List.mem_of_getElem? (i := 53) (by decide +kernel)) rfl)
theorem g_v115 : Cond.selects g_m115.1.cls g_m115.1 g_m115.1 ∈ g_tbl := (g_tb3 _ (List.mem_of_getElem? (i := 54) (by decide +kernel)) rfl)
theorem g_w116 : q_MW g_tbl g_m116 0 := ⟨(g_tb3 _ (List.mem_of_getElem? (i := 203) (by decide +kernel)) rfl), (g_tb1 _ (List.mem_of_getElem? (i := 5) (by decide +kernel)) rfl), by decide +kernel, by decide⟩
theorem g_i116 : Cond.instanceMethod g_m116.1 ∈ g_tbl := (g_tb3 _ (List.mem_of_getElem? (i := 202) (by decide +kernel)) rfl)
theorem g_v116 : Cond.selects g_m116.1.cls g_m116.1 g_m116.1 ∈ g_tbl := (g_tb0 _ (List.mem_of_getElem? (i := 6) (by decide +kernel)) rfl)
theorem g_w117 : q_MW g_tbl g_m117 2 := ⟨(g_tb3 _ (List.mem_of_getElem? (i := 211) (by decide +kernel)) rfl), (g_tb1 _ (List.mem_of_getElem? (i := 5) (by decide +kernel)) rfl), by decide +kernel, by decide⟩
theorem g_i117 : Cond.instanceMethod g_m117.1 ∈ g_tbl := (g_tb3 _ (List.mem_of_getElem? (i := 210) (by decide +kernel)) rfl)
theorem g_v117 : Cond.selects g_m117.1.cls g_m117.1 g_m117.1 ∈ g_tbl := (g_tb0 _ (List.mem_of_getElem? (i := 8) (by decide +kernel)) rfl)
theorem g_w118 : q_MW g_tbl g_m118 2 := ⟨(g_tb3 _ (List.mem_of_getElem? (i := 222) (by decide +kernel)) rfl), (g_tb1 _ (List.mem_of_getElem? (i := 5) (by decide +kernel)) rfl), by decide +kernel, by decide⟩
theorem g_i118 : Cond.instanceMethod g_m118.1 ∈ g_tbl := (g_tb3 _ (List.mem_of_getElem? (i := 221) (by decide +kernel)) rfl)
theorem g_v118 : Cond.selects g_m118.1.cls g_m118.1 g_m118.1 ∈ g_tbl := (g_tb0 _ (List.mem_of_getElem? (i := 10) (by decide +kernel)) rfl)
theorem g_w119 : q_MW g_tbl g_m119 1 := ⟨(g_tb3 _ (List.mem_of_getElem? (i := 234) (by decide +kernel)) rfl), (g_tb1 _ (List.mem_of_getElem? (i := 5) (by decide +kernel)) rfl), by decide +kernel, by decide⟩
theorem g_i119 : Cond.instanceMethod g_m119.1 ∈ g_tbl := (g_tb3 _ (List.mem_of_getElem? (i := 233) (by decide +kernel)) rfl)
theorem g_v119 : Cond.selects g_m119.1.cls g_m119.1 g_m119.1 ∈ g_tbl := (g_tb0 _ (List.mem_of_getElem? (i := 13) (by decide +kernel)) rfl)
theorem g_w120 : q_MW g_tbl g_m120 1 := ⟨(g_tb4 _ (List.mem_of_getElem? (i := 6) (by decide +kernel)) rfl), (g_tb1 _ (List.mem_of_getElem? (i := 5) (by decide +kernel)) rfl), by decide +kernel, by decide⟩
theorem g_i120 : Cond.instanceMethod g_m120.1 ∈ g_tbl := (g_tb4 _ (List.mem_of_getElem? (i := 5) (by decide +kernel)) rfl)
theorem g_v120 : Cond.selects g_m120.1.cls g_m120.1 g_m120.1 ∈ g_tbl := (g_tb0 _ (List.mem_of_getElem? (i := 16) (by decide +kernel)) rfl)
theorem g_w121 : q_MW g_tbl g_m121 0 := ⟨(g_tb3 _ (List.mem_of_getElem? (i := 226) (by decide +kernel)) rfl), (g_tb1 _ (List.mem_of_getElem? (i := 5) (by decide +kernel)) rfl), by decide +kernel, by decide⟩
theorem g_i121 : Cond.instanceMethod g_m121.1 ∈ g_tbl := (g_tb3 _ (List.mem_of_getElem? (i := 225) (by decide +kernel)) rfl)
theorem g_v121 : Cond.selects g_m121.1.cls g_m121.1 g_m121.1 ∈ g_tbl := (g_tb0 _ (List.mem_of_getElem? (i := 11) (by decide +kernel)) rfl)
theorem g_w122 : q_MW g_tbl g_m122 0 := ⟨(g_tb3 _ (List.mem_of_getElem? (i := 207) (by decide +kernel)) rfl), (g_tb1 _ (List.mem_of_getElem? (i := 5) (by decide +kernel)) rfl), by decide +kernel, by decide⟩
theorem g_i122 : Cond.instanceMethod g_m122.1 ∈ g_tbl := (g_tb3 _ (List.mem_of_getElem? (i := 206) (by decide +kernel)) rfl)
theorem g_v122 : Cond.selects g_m122.1.cls g_m122.1 g_m122.1 ∈ g_tbl := (g_tb0 _ (List.mem_of_getElem? (i := 7) (by decide +kernel)) rfl)
theorem g_w123 : q_MW g_tbl g_m123 0 := ⟨(g_tb3 _ (List.mem_of_getElem? (i := 230) (by decide +kernel)) rfl), (g_tb1 _ (List.mem_of_getElem? (i := 5) (by decide +kernel)) rfl), by decide +kernel, by decide⟩
theorem g_i123 : Cond.instanceMethod g_m123.1 ∈ g_tbl := (g_tb3 _ (List.mem_of_getElem? (i := 229) (by decide +kernel)) rfl)
theorem g_v123 : Cond.selects g_m123.1.cls g_m123.1 g_m123.1 ∈ g_tbl := (g_tb0 _ (List.mem_of_getElem? (i := 12) (by decide +kernel)) rfl)
theorem g_w124 : q_MW g_tbl g_m124 1 := ⟨(g_tb4 _ (List.mem_of_getElem? (i := 14) (by decide +kernel)) rfl), (g_tb1 _ (List.mem_of_getElem? (i := 5) (by decide +kernel)) rfl), by decide +kernel, by decide⟩
theorem g_i124 : Cond.instanceMethod g_m124.1 ∈ g_tbl := (g_tb4 _ (List.mem_of_getElem? (i := 13) (by decide +kernel)) rfl)
theorem g_v124 : Cond.selects g_m124.1.cls g_m124.1 g_m124.1 ∈ g_tbl := (g_tb0 _ (List.mem_of_getElem? (i := 17) (by decide +kernel)) rfl)
theorem g_w125 : q_MW g_tbl g_m125 1 := ⟨(g_tb4 _ (List.mem_of_getElem? (i := 18) (by decide +kernel)) rfl), (g_tb1 _ (List.mem_of_getElem? (i := 5) (by decide +kernel)) rfl), by decide +kernel, by decide⟩
theorem g_i125 : Cond.instanceMethod g_m125.1 ∈ g_tbl := (g_tb4 _ (List.mem_of_getElem? (i := 17) (by decide +kernel)) rfl)
theorem g_v125 : Cond.selects g_m125.1.cls g_m125.1 g_m125.1 ∈ g_tbl := (g_tb0 _ (List.mem_of_getElem? (i := 18) (by decide +kernel)) rfl)
theorem g_w126 : q_MW g_tbl g_m126 1 := ⟨(g_tb4 _ (List.mem_of_getElem? (i := 22) (by decide +kernel)) rfl), (g_tb1 _ (List.mem_of_getElem? (i := 5) (by decide +kernel)) rfl), by decide +kernel, by decide⟩
theorem g_i126 : Cond.instanceMethod g_m126.1 ∈ g_tbl := (g_tb4 _ (List.mem_of_getElem? (i := 21) (by decide +kernel)) rfl)
theorem g_v126 : Cond.selects g_m126.1.cls g_m126.1 g_m126.1 ∈ g_tbl := (g_tb0 _ (List.mem_of_getElem? (i := 19) (by decide +kernel)) rfl)
theorem g_w127 : q_MW g_tbl g_m127 1 := ⟨(g_tb3 _ (List.mem_of_getElem? (i := 79) (by decide +kernel)) rfl), (g_tb1 _ (List.mem_of_getElem? (i := 5) (by decide +kernel)) rfl), by decide +kernel, by decide⟩
theorem g_i127 : Cond.instanceMethod g_m127.1 ∈ g_tbl := (g_tb3 _ (List.mem_of_getElem? (i := 78) (by decide +kernel)) rfl)
theorem g_v127 : Cond.selects g_m127.1.cls g_m127.1 g_m127.1 ∈ g_tbl := (g_tb0 _ (List.mem_of_getElem? (i := 3) (by decide +kernel)) rfl)
theorem g_w128 : q_MW g_tbl g_m128 0 := ⟨(g_tb3 _ (List.mem_of_getElem? (i := 139) (by decide +kernel)) rfl), (g_tb1 _ (List.mem_of_getElem? (i := 5) (by decide +kernel)) rfl), by decide +kernel, by decide⟩
theorem g_i128 : Cond.instanceMethod g_m128.1 ∈ g_tbl := (g_tb3 _ (List.mem_of_getElem? (i := 138) (by decide +kernel)) rfl)
theorem g_v128 : Cond.selects g_m128.1.cls g_m128.1 g_m128.1 ∈ g_tbl := (g_tb0 _ (List.mem_of_getElem? (i := 5) (by decide +kernel)) rfl)
theorem g_w129 : q_MW g_tbl g_m129 0 := ⟨(g_tb3 _ (List.mem_of_getElem? (i := 74) (by decide +kernel)) rfl), (g_tb1 _ (List.mem_of_getElem? (i := 5) (by decide +kernel)) rfl), by decide +kernel, by decide⟩
theorem g_i129 : Cond.instanceMethod g_m129.1 ∈ g_tbl := (g_tb3 _ (List.mem_of_getElem? (i := 73) (by decide +kernel)) rfl)
theorem g_v129 : Cond.selects g_m129.1.cls g_m129.1 g_m129.1 ∈ g_tbl := (g_tb0 _ (List.mem_of_getElem? (i := 2) (by decide +kernel)) rfl)
theorem g_w130 : q_MW g_tbl g_m130 0 := ⟨(g_tb2 _ (List.mem_of_getElem? (i := 194) (by decide +kernel)) rfl), (g_tb1 _ (List.mem_of_getElem? (i := 12) (by decide +kernel)) rfl), by decide +kernel, by decide⟩
theorem g_i130 : Cond.instanceMethod g_m130.1 ∈ g_tbl := (g_tb2 _ (List.mem_of_getElem? (i := 193) (by decide +kernel)) rfl)
theorem g_w131 : q_MW g_tbl g_m131 1 := ⟨(g_tb6 _ (List.mem_of_getElem? (i := 68) (by decide +kernel)) rfl), (g_tb1 _ (List.mem_of_getElem? (i := 12) (by decide +kernel)) rfl), by decide +kernel, by decide⟩
theorem g_i131 : Cond.instanceMethod g_m131.1 ∈ g_tbl := (g_tb6 _ (List.mem_of_getElem? (i := 66) (by decide +kernel)) rfl)
theorem g_v131 : Cond.selects g_m131.1.cls g_m131.1 g_m131.1 ∈ g_tbl := (g_tb6 _ (List.mem_of_getElem? (i := 67) (by decide +kernel)) rfl)
theorem g_w132 : q_MW g_tbl g_m132 2 := ⟨(g_tb6 _ (List.mem_of_getElem? (i := 72) (by decide +kernel)) rfl), (g_tb1 _ (List.mem_of_getElem? (i := 12) (by decide +kernel)) rfl), by decide +kernel, by decide⟩
theorem g_i132 : Cond.instanceMethod g_m132.1 ∈ g_tbl := (g_tb6 _ (List.mem_of_getElem? (i := 71) (by decide +kernel)) rfl)
theorem g_v132 : Cond.selects g_m132.1.cls g_m132.1 g_m132.1 ∈ g_tbl := (g_tb0 _ (List.mem_of_getElem? (i := 44) (by decide +kernel)) rfl)
theorem g_w133 : q_MW g_tbl g_m133 2 := ⟨(g_tb6 _ (List.mem_of_getElem? (i := 88) (by decide +kernel)) rfl), (g_tb1 _ (List.mem_of_getElem? (i := 12) (by decide +kernel)) rfl), by decide +kernel, by decide⟩
theorem g_i133 : Cond.instanceMethod g_m133.1 ∈ g_tbl := (g_tb6 _ (List.mem_of_getElem? (i := 86) (by decide +kernel)) rfl)
theorem g_v133 : Cond.selects g_m133.1.cls g_m133.1 g_m133.1 ∈ g_tbl := (g_tb6 _ (List.mem_of_getElem? (i := 87) (by decide +kernel)) rfl)
theorem g_w134 : q_MW g_tbl g_m134 3 := ⟨(g_tb6 _ (List.mem_of_getElem? (i := 47) (by decide +kernel)) rfl), (g_tb1 _ (List.mem_of_getElem? (i := 12) (by decide +kernel)) rfl), by decide +kernel, by decide⟩
theorem g_i134 : Cond.instanceMethod g_m134.1 ∈ g_tbl := (g_tb6 _ (List.mem_of_getElem? (i := 45) (by decide +kernel)) rfl)
theorem g_v134 : Cond.selects g_m134.1.cls g_m134.1 g_m134.1 ∈ g_tbl := (g_tb6 _ (List.mem_of_getElem? (i := 46) (by decide +kernel)) rfl)
theorem g_w135 : q_MW g_tbl g_m135 2 := ⟨(g_tb6 _ (List.mem_of_getElem? (i := 76) (by decide +kernel)) rfl), (g_tb1 _ (List.mem_of_getElem? (i := 12) (by decide +kernel)) rfl), by decide +kernel, by decide⟩
theorem g_i135 : Cond.instanceMethod g_m135.1 ∈ g_tbl := (g_tb6 _ (List.mem_of_getElem? (i := 75) (by decide +kernel)) rfl)
theorem g_v135 : Cond.selects g_m135.1.cls g_m135.1 g_m135.1 ∈ g_tbl := (g_tb0 _ (List.mem_of_getElem? (i := 45) (by decide +kernel)) rfl)
theorem g_w136 : q_MW g_tbl g_m136 3 := ⟨(g_tb4 _ (List.mem_of_getElem? (i := 29) (by decide +kernel)) rfl), (g_tb1 _ (List.mem_of_getElem? (i := 12) (by decide +kernel)) rfl), by decide +kernel, by decide⟩
theorem g_i136 : Cond.instanceMethod g_m136.1 ∈ g_tbl := (g_tb4 _ (List.mem_of_getElem? (i := 27) (by decide +kernel)) rfl)
theorem g_v136 : Cond.selects g_m136.1.cls g_m136.1 g_m136.1 ∈ g_tbl := (g_tb4 _ (List.mem_of_getElem? (i := 28) (by decide +kernel)) rfl)
theorem g_w137 : q_MW g_tbl g_m137 1 := ⟨(g_tb6 _ (List.mem_of_getElem? (i := 55) (by decide +kernel)) rfl), (g_tb1 _ (List.mem_of_getElem? (i := 12) (by decide +kernel)) rfl), by decide +kernel, by decide⟩
theorem g_i137 : Cond.instanceMethod g_m137.1 ∈ g_tbl := (g_tb6 _ (List.mem_of_getElem? (i := 53) (by decide +kernel)) rfl)
theorem g_v137 : Cond.selects g_m137.1.cls g_m137.1 g_m137.1 ∈ g_tbl := (g_tb6 _ (List.mem_of_getElem? (i := 54) (by decide +kernel)) rfl)
theorem g_w138 : q_MW g_tbl g_m138 0 := ⟨(g_tb1 _ (List.mem_of_getElem? (i := 205) (by decide +kernel)) rfl), (g_tb1 _ (List.mem_of_getElem? (i := 6) (by decide +kernel)) rfl), by decide +kernel, by decide⟩
theorem g_i138 : Cond.instanceMethod g_m138.1 ∈ g_tbl := (g_tb1 _ (List.mem_of_getElem? (i := 204) (by decide +kernel)) rfl)
theorem g_w139 : q_MW g_tbl g_m139 1 := ⟨(g_tb2 _ (List.mem_of_getElem? (i := 19) (by decide +kernel)) rfl), (g_tb1 _ (List.mem_of_getElem? (i := 6) (by decide +kernel)) rfl), by decide +kernel, by decide⟩
theorem g_i139 : Cond.instanceMethod g_m139.1 ∈ g_tbl := (g_tb2 _ (List.mem_of_getElem? (i := 17) (by decide +kernel)) rfl)
theorem g_v139 : Cond.selects g_m139.1.cls g_m139.1 g_m139.1 ∈ g_tbl := (g_tb2 _ (List.mem_of_getElem? (i := 18) (by decide +kernel)) rfl)
theorem g_w140 : q_MW g_tbl g_m140 2 := ⟨(g_tb4 _ (List.mem_of_getElem? (i := 49) (by decide +kernel)) rfl), (g_tb1 _ (List.mem_of_getElem? (i := 6) (by decide +kernel)) rfl), by decide +kernel, by decide⟩
theorem g_i140 : Cond.instanceMethod g_m140.1 ∈ g_tbl := (g_tb4 _ (List.mem_of_getElem? (i := 47) (by decide +kernel)) rfl)
theorem g_v140 : Cond.selects g_m140.1.cls g_m140.1 g_m140.1 ∈ g_tbl := (g_tb4 _ (List.mem_of_getElem? (i := 48) (by decide +kernel)) rfl)
theorem g_w141 : q_MW g_tbl g_m141 2 := ⟨(g_tb4 _ (List.mem_of_getElem? (i := 210) (by decide +kernel)) rfl), (g_tb1 _ (List.mem_of_getElem? (i := 6) (by decide +kernel)) rfl), by decide +kernel, by decide⟩
theorem g_i141 : Cond.instanceMethod g_m141.1 ∈ g_tbl := (g_tb4 _ (List.mem_of_getElem? (i := 208) (by decide +kernel)) rfl)
theorem g_v141 : Cond.selects g_m141.1.cls g_m141.1 g_m141.1 ∈ g_tbl := (g_tb4 _ (List.mem_of_getElem? (i := 209) (by decide +kernel)) rfl)
theorem g_w142 : q_MW g_tbl g_m142 1 := ⟨(g_tb4 _ (List.mem_of_getElem? (i := 42) (by decide +kernel)) rfl), (g_tb1 _ (List.mem_of_getElem? (i := 6) (by decide +kernel)) rfl), by decide +kernel, by decide⟩
theorem g_i142 : Cond.instanceMethod g_m142.1 ∈ g_tbl := (g_tb4 _ (List.mem_of_getElem? (i := 40) (by decide +kernel)) rfl)
theorem g_v142 : Cond.selects g_m142.1.cls g_m142.1 g_m142.1 ∈ g_tbl := (g_tb4 _ (List.mem_of_getElem? (i := 41) (by decide +kernel)) rfl)
theorem g_w143 : q_MW g_tbl g_m143 1 := ⟨(g_tb4 _ (List.mem_of_getElem? (i := 133) (by decide +kernel)) rfl), (g_tb1 _ (List.mem_of_getElem? (i := 6) (by decide +kernel)) rfl), by decide +kernel, by decide⟩
theorem g_i143 : Cond.instanceMethod g_m143.1 ∈ g_tbl := (g_tb4 _ (List.mem_of_getElem? (i := 131) (by decide +kernel)) rfl)
theorem g_v143 : Cond.selects g_m143.1.cls g_m143.1 g_m143.1 ∈ g_tbl := (g_tb4 _ (List.mem_of_getElem? (i := 132) (by decide +kernel)) rfl)
theorem g_w144 : q_MW g_tbl g_m144 0 := ⟨(g_tb4 _ (List.mem_of_getElem? (i := 192) (by decide +kernel)) rfl), (g_tb1 _ (List.mem_of_getElem? (i := 6) (by decide +kernel)) rfl), by decide +kernel, by decide⟩
theorem g_i144 : Cond.instanceMethod g_m144.1 ∈ g_tbl := (g_tb4 _ (List.mem_of_getElem? (i := 190) (by decide +kernel)) rfl)
theorem g_v144 : Cond.selects g_m144.1.cls g_m144.1 g_m144.1 ∈ g_tbl := (g_tb4 _ (List.mem_of_getElem? (i := 191) (by decide +kernel)) rfl)
theorem g_w145 : q_MW g_tbl g_m145 1 := ⟨(g_tb4 _ (List.mem_of_getElem? (i := 200) (by decide +kernel)) rfl), (g_tb1 _ (List.mem_of_getElem? (i := 6) (by decide +kernel)) rfl), by decide +kernel, by decide⟩
theorem g_i145 : Cond.instanceMethod g_m145.1 ∈ g_tbl := (g_tb4 _ (List.mem_of_getElem? (i := 198) (by decide +kernel)) rfl)
theorem g_v145 : Cond.selects g_m145.1.cls g_m145.1 g_m145.1 ∈ g_tbl := (g_tb4 _ (List.mem_of_getElem? (i := 199) (by decide +kernel)) rfl)
theorem g_w146 : q_MW g_tbl g_m146 2 := ⟨(g_tb5 _ (List.mem_of_getElem? (i := 33) (by decide +kernel)) rfl), (g_tb1 _ (List.mem_of_getElem? (i := 6) (by decide +kernel)) rfl), by decide +kernel, by decide⟩
theorem g_i146 : Cond.instanceMethod g_m146.1 ∈ g_tbl := (g_tb5 _ (List.mem_of_getElem? (i := 31) (by decide +kernel)) rfl)
theorem g_v146 : Cond.selects g_m146.1.cls g_m146.1 g_m146.1 ∈ g_tbl := (g_tb5 _ (List.mem_of_getElem? (i := 32) (by decide +kernel)) rfl)
theorem g_w147 : q_MW g_tbl g_m147 1 := ⟨(g_tb4 _ (List.mem_of_getElem? (i := 129) (by decide +kernel)) rfl), (g_tb1 _ (List.mem_of_getElem? (i := 6) (by decide +kernel)) rfl), by decide +kernel, by decide⟩
theorem g_i147 : Cond.instanceMethod g_m147.1 ∈ g_tbl := (g_tb4 _ (List.mem_of_getElem? (i := 127) (by decide +kernel)) rfl)
theorem g_v147 : Cond.selects g_m147.1.cls g_m147.1 g_m147.1 ∈ g_tbl := (g_tb4 _ (List.mem_of_getElem? (i := 128) (by decide +kernel)) rfl)
theorem g_w148 : q_MW g_tbl g_m148 2 := ⟨(g_tb4 _ (List.mem_of_getElem? (i := 38) (by decide +kernel)) rfl), (g_tb1 _ (List.mem_of_getElem? (i := 6) (by decide +kernel)) rfl), by decide +kernel, by decide⟩
theorem g_i148 : Cond.instanceMethod g_m148.1 ∈ g_tbl := (g_tb4 _ (List.mem_of_getElem? (i := 36) (by decide +kernel)) rfl)
theorem g_v148 : Cond.selects g_m148.1.cls g_m148.1 g_m148.1 ∈ g_tbl := (g_tb4 _ (List.mem_of_getElem? (i := 37) (by decide +kernel)) rfl)
theorem g_w149 : q_MW g_tbl g_m149 2 := ⟨(g_tb2 _ (List.mem_of_getElem? (i := 52) (by decide +kernel)) rfl), (g_tb1 _ (List.mem_of_getElem? (i := 6) (by decide +kernel)) rfl), by decide +kernel, by decide⟩
theorem g_i149 : Cond.instanceMethod g_m149.1 ∈ g_tbl := (g_tb2 _ (List.mem_of_getElem? (i := 50) (by decide +kernel)) rfl)
theorem g_v149 : Cond.selects g_m149.1.cls g_m149.1 g_m149.1 ∈ g_tbl := (g_tb2 _ (List.mem_of_getElem? (i := 51) (by decide +kernel)) rfl)
theorem g_w150 : q_MW g_tbl g_m150 0 := ⟨(g_tb1 _ (List.mem_of_getElem? (i := 33) (by decide +kernel)) rfl), (g_tb1 _ (List.mem_of_getElem? (i := 2) (by decide +kernel)) rfl), by decide +kernel, by decide⟩
theorem g_i150 : Cond.instanceMethod g_m150.1 ∈ g_tbl := (g_tb1 _ (List.mem_of_getElem? (i := 32) (by decide +kernel)) rfl)
theorem g_w151 : q_MW g_tbl g_m151 1 := ⟨(g_tb3 _ (List.mem_of_getElem? (i := 64) (by decide +kernel)) rfl), (g_tb1 _ (List.mem_of_getElem? (i := 2) (by decide +kernel)) rfl), by decide +kernel, by decide⟩
theorem g_i151 : Cond.instanceMethod g_m151.1 ∈ g_tbl := (g_tb3 _ (List.mem_of_getElem? (i := 62) (by decide +kernel)) rfl)
theorem g_v151 : Cond.selects g_m151.1.cls g_m151.1 g_m151.1 ∈ g_tbl := (g_tb3 _ (List.mem_of_getElem? (i := 63) (by decide +kernel)) rfl)
theorem g_w152 : q_MW g_tbl g_m152 1 := ⟨(g_tb3 _ (List.mem_of_getElem? (i := 43) (by decide +kernel)) rfl), (g_tb1 _ (List.mem_of_getElem? (i := 2) (by decide +kernel)) rfl), by decide +kernel, by decide⟩
theorem g_i152 : Cond.instanceMethod g_m152.1 ∈ g_tbl := (g_tb3 _ (List.mem_of_getElem? (i := 41) (by decide +kernel)) rfl)
theorem g_v152 : Cond.selects g_m152.1.cls g_m152.1 g_m152.1 ∈ g_tbl := (g_tb3 _ (List.mem_of_getElem? (i := 42) (by decide +kernel)) rfl)
theorem g_w153 : q_MW g_tbl g_m153 0 := ⟨(g_tb1 _ (List.mem_of_getElem? (i := 48) (by decide +kernel)) rfl), (g_tb1 _ (List.mem_of_getElem? (i := 3) (by decide +kernel)) rfl), by decide +kernel, by decide⟩
theorem g_i153 : Cond.instanceMethod g_m153.1 ∈ g_tbl := (g_tb1 _ (List.mem_of_getElem? (i := 47) (by decide +kernel)) rfl)
theorem g_w154 : q_MW g_tbl g_m154 0 := ⟨(g_tb1 _ (List.mem_of_getElem? (i := 81) (by decide +kernel)) rfl), (g_tb1 _ (List.mem_of_getElem? (i := 3) (by decide +kernel)) rfl), by decide +kernel, by decide⟩
theorem g_i154 : Cond.instanceMethod g_m154.1 ∈ g_tbl := (g_tb1 _ (List.mem_of_getElem? (i := 79) (by decide +kernel)) rfl)
theorem g_v154 : Cond.selects g_m154.1.cls g_m154.1 g_m154.1 ∈ g_tbl := (g_tb1 _ (List.mem_of_getElem? (i := 80) (by decide +kernel)) rfl)
theorem g_w155 : q_MW g_tbl g_m155 1 := ⟨(g_tb4 _ (List.mem_of_getElem? (i := 117) (by decide +kernel)) rfl), (g_tb1 _ (List.mem_of_getElem? (i := 3) (by decide +kernel)) rfl), by decide +kernel, by decide⟩
theorem g_i155 : Cond.instanceMethod g_m155.1 ∈ g_tbl := (g_tb4 _ (List.mem_of_getElem? (i := 115) (by decide +kernel)) rfl)
theorem g_v155 : Cond.selects g_m155.1.cls g_m155.1 g_m155.1 ∈ g_tbl := (g_tb4 _ (List.mem_of_getElem? (i := 116) (by decide +kernel)) rfl)
theorem g_w156 : q_MW g_tbl g_m156 1 := ⟨(g_tb2 _ (List.mem_of_getElem? (i := 60) (by decide +kernel)) rfl), (g_tb1 _ (List.mem_of_getElem? (i := 9) (by decide +kernel)) rfl), by decide +kernel, by decide⟩
theorem g_i156 : Cond.instanceMethod g_m156.1 ∈ g_tbl := (g_tb2 _ (List.mem_of_getElem? (i := 59) (by decide +kernel)) rfl)
theorem g_w157 : q_MW g_tbl g_m157 0 := ⟨(g_tb5 _ (List.mem_of_getElem? (i := 88) (by decide +kernel)) rfl), (g_tb1 _ (List.mem_of_getElem? (i := 9) (by decide +kernel)) rfl), by decide +kernel, by decide⟩
theorem g_i157 : Cond.instanceMethod g_m157.1 ∈ g_tbl := (g_tb5 _ (List.mem_of_getElem? (i := 86) (by decide +kernel)) rfl)
theorem g_v157 : Cond.selects g_m157.1.cls g_m157.1 g_m157.1 ∈ g_tbl := (g_tb5 _ (List.mem_of_getElem? (i := 87) (by decide +kernel)) rfl)
theorem g_w158 : q_MW g_tbl g_m158 2 := ⟨(g_tb5 _ (List.mem_of_getElem? (i := 209) (by decide +kernel)) rfl), (g_tb1 _ (List.mem_of_getElem? (i := 9) (by decide +kernel)) rfl), by decide +kernel, by decide⟩
theorem g_i158 : Cond.instanceMethod g_m158.1 ∈ g_tbl := (g_tb5 _ (List.mem_of_getElem? (i := 207) (by decide +kernel)) rfl)
theorem g_v158 : Cond.selects g_m158.1.cls g_m158.1 g_m158.1 ∈ g_tbl := (g_tb5 _ (List.mem_of_getElem? (i := 208) (by decide +kernel)) rfl)
theorem g_w159 : q_MW g_tbl g_m159 1 := ⟨(g_tb5 _ (List.mem_of_getElem? (i := 120) (by decide +kernel)) rfl), (g_tb1 _ (List.mem_of_getElem? (i := 9) (by decide +kernel)) rfl), by decide +kernel, by decide⟩
theorem g_i159 : Cond.instanceMethod g_m159.1 ∈ g_tbl := (g_tb5 _ (List.mem_of_getElem? (i := 118) (by decide +kernel)) rfl)
theorem g_v159 : Cond.selects g_m159.1.cls g_m159.1 g_m159.1 ∈ g_tbl := (g_tb5 _ (List.mem_of_getElem? (i := 119) (by decide +kernel)) rfl)
theorem g_w160 : q_MW g_tbl g_m160 2 := ⟨(g_tb5 _ (List.mem_of_getElem? (i := 60) (by decide +kernel)) rfl), (g_tb1 _ (List.mem_of_getElem? (i := 9) (by decide +kernel)) rfl), by decide +kernel, by decide⟩
theorem g_i160 : Cond.instanceMethod g_m160.1 ∈ g_tbl := (g_tb5 _ (List.mem_of_getElem? (i := 58) (by decide +kernel)) rfl)
theorem g_v160 : Cond.selects g_m160.1.cls g_m160.1 g_m160.1 ∈ g_tbl := (g_tb5 _ (List.mem_of_getElem? (i := 59) (by decide +kernel)) rfl)
theorem g_w161 : q_MW g_tbl g_m161 1 := ⟨(g_tb5 _ (List.mem_of_getElem? (i := 197) (by decide +kernel)) rfl), (g_tb1 _ (List.mem_of_getElem? (i := 9) (by decide +kernel)) rfl), by decide +kernel, by decide⟩
theorem g_i161 : Cond.instanceMethod g_m161.1 ∈ g_tbl := (g_tb5 _ (List.mem_of_getElem? (i := 195) (by decide +kernel)) rfl)
theorem g_v161 : Cond.selects g_m161.1.cls g_m161.1 g_m161.1 ∈ g_tbl := (g_tb5 _ (List.mem_of_getElem? (i := 196) (by decide +kernel)) rfl)
theorem g_w162 : q_MW g_tbl g_m162 3 := ⟨(g_tb4 _ (List.mem_of_getElem? (i := 78) (by decide +kernel)) rfl), (g_tb1 _ (List.mem_of_getElem? (i := 9) (by decide +kernel)) rfl), by decide +kernel, by decide⟩
theorem g_i162 : Cond.instanceMethod g_m162.1 ∈ g_tbl := (g_tb4 _ (List.mem_of_getElem? (i := 76) (by decide +kernel)) rfl)
theorem g_v162 : Cond.selects g_m162.1.cls g_m162.1 g_m162.1 ∈ g_tbl := (g_tb4 _ (List.mem_of_getElem? (i := 77) (by decide +kernel)) rfl)
theorem g_w163 : q_MW g_tbl g_m163 0 := ⟨(g_tb4 _ (List.mem_of_getElem? (i := 70) (by decide +kernel)) rfl), (g_tb1 _ (List.mem_of_getElem? (i := 9) (by decide +kernel)) rfl), by decide +kernel, by decide⟩
theorem g_i163 : Cond.instanceMethod g_m163.1 ∈ g_tbl := (g_tb4 _ (List.mem_of_getElem? (i := 68) (by decide +kernel)) rfl)
theorem g_v163 : Cond.selects g_m163.1.cls g_m163.1 g_m163.1 ∈ g_tbl := (g_tb4 _ (List.mem_of_getElem? (i := 69) (by decide +kernel)) rfl)
theorem g_w164 : q_MW g_tbl g_m164 2 := ⟨(g_tb4 _ (List.mem_of_getElem? (i := 33) (by decide +kernel)) rfl), (g_tb1 _ (List.mem_of_getElem? (i := 9) (by decide +kernel)) rfl), by decide +kernel, by decide⟩
theorem g_i164 : Cond.instanceMethod g_m164.1 ∈ g_tbl := (g_tb4 _ (List.mem_of_getElem? (i := 31) (by decide +kernel)) rfl)
theorem g_v164 : Cond.selects g_m164.1.cls g_m164.1 g_m164.1 ∈ g_tbl := (g_tb4 _ (List.mem_of_getElem? (i := 32) (by decide +kernel)) rfl)
theorem g_w165 : q_MW g_tbl g_m165 1 := ⟨(g_tb4 _ (List.mem_of_getElem? (i := 57) (by decide +kernel)) rfl), (g_tb1 _ (List.mem_of_getElem? (i := 9) (by decide +kernel)) rfl), by decide +kernel, by decide⟩
theorem g_i165 : Cond.instanceMethod g_m165.1 ∈ g_tbl := (g_tb4 _ (List.mem_of_getElem? (i := 55) (by decide +kernel)) rfl)
theorem g_v165 : Cond.selects g_m165.1.cls g_m165.1 g_m165.1 ∈ g_tbl := (g_tb4 _ (List.mem_of_getElem? (i := 56) (by decide +kernel)) rfl)
theorem g_w166 : q_MW g_tbl g_m166 1 := ⟨(g_tb4 _ (List.mem_of_getElem? (i := 53) (by decide +kernel)) rfl), (g_tb1 _ (List.mem_of_getElem? (i := 9) (by decide +kernel)) rfl), by decide +kernel, by decide⟩
theorem g_i166 : Cond.instanceMethod g_m166.1 ∈ g_tbl := (g_tb4 _ (List.mem_of_getElem? (i := 51) (by decide +kernel)) rfl)
theorem g_v166 : Cond.selects g_m166.1.cls g_m166.1 g_m166.1 ∈ g_tbl := (g_tb4 _ (List.mem_of_getElem? (i := 52) (by decide +kernel)) rfl)
theorem g_w167 : q_MW g_tbl g_m167 1 := ⟨(g_tb4 _ (List.mem_of_getElem? (i := 65) (by decide +kernel)) rfl), (g_tb1 _ (List.mem_of_getElem? (i := 9) (by decide +kernel)) rfl), by decide +kernel, by decide⟩
theorem g_i167 : Cond.instanceMethod g_m167.1 ∈ g_tbl := (g_tb4 _ (List.mem_of_getElem? (i := 63) (by decide +kernel)) rfl)
theorem g_v167 : Cond.selects g_m167.1.cls g_m167.1 g_m167.1 ∈ g_tbl := (g_tb4 _ (List.mem_of_getElem? (i := 64) (by decide +kernel)) rfl)
theorem g_w168 : q_MW g_tbl g_m168 1 := ⟨(g_tb5 _ (List.mem_of_getElem? (i := 68) (by decide +kernel)) rfl), (g_tb1 _ (List.mem_of_getElem? (i := 9) (by decide +kernel)) rfl), by decide +kernel, by decide⟩
theorem g_i168 : Cond.instanceMethod g_m168.1 ∈ g_tbl := (g_tb5 _ (List.mem_of_getElem? (i := 66) (by decide +kernel)) rfl)
theorem g_v168 : Cond.selects g_m168.1.cls g_m168.1 g_m168.1 ∈ g_tbl := (g_tb5 _ (List.mem_of_getElem? (i := 67) (by decide +kernel)) rfl)
theorem g_w169 : q_MW g_tbl g_m169 1 := ⟨(g_tb5 _ (List.mem_of_getElem? (i := 217) (by decide +kernel)) rfl), (g_tb1 _ (List.mem_of_getElem? (i := 9) (by decide +kernel)) rfl), by decide +kernel, by decide⟩
theorem g_i169 : Cond.instanceMethod g_m169.1 ∈ g_tbl := (g_tb5 _ (List.mem_of_getElem? (i := 215) (by decide +kernel)) rfl)
theorem g_v169 : Cond.selects g_m169.1.cls g_m169.1 g_m169.1 ∈ g_tbl := (g_tb5 _ (List.mem_of_getElem? (i := 216) (by decide +kernel)) rfl)
theorem g_w170 : q_MW g_tbl g_m170 2 := ⟨(g_tb4 _ (List.mem_of_getElem? (i := 61) (by decide +kernel)) rfl), (g_tb1 _ (List.mem_of_getElem? (i := 9) (by decide +kernel)) rfl), by decide +kernel, by decide⟩
theorem g_i170 : Cond.instanceMethod g_m170.1 ∈ g_tbl := (g_tb4 _ (List.mem_of_getElem? (i := 60) (by decide +kernel)) rfl)
theorem g_v170 : Cond.selects g_m170.1.cls g_m170.1 g_m170.1 ∈ g_tbl := (g_tb0 _ (List.mem_of_getElem? (i := 20) (by decide +kernel)) rfl)
theorem g_w171 : q_MW g_tbl g_m171 1 := ⟨(g_tb5 _ (List.mem_of_getElem? (i := 76) (by decide +kernel)) rfl), (g_tb1 _ (List.mem_of_getElem? (i := 9) (by decide +kernel)) rfl), by decide +kernel, by decide⟩
theorem g_i171 : Cond.instanceMethod g_m171.1 ∈ g_tbl := (g_tb5 _ (List.mem_of_getElem? (i := 74) (by decide +kernel)) rfl)
theorem g_v171 : Cond.selects g_m171.1.cls g_m171.1 g_m171.1 ∈ g_tbl := (g_tb5 _ (List.mem_of_getElem? (i := 75) (by decide +kernel)) rfl)
theorem g_w172 : q_MW g_tbl g_m172 3 := ⟨(g_tb4 _ (List.mem_of_getElem? (i := 74) (by decide +kernel)) rfl), (g_tb1 _ (List.mem_of_getElem? (i := 9) (by decide +kernel)) rfl), by decide +kernel, by decide⟩
theorem g_i172 : Cond.instanceMethod g_m172.1 ∈ g_tbl := (g_tb4 _ (List.mem_of_getElem? (i := 72) (by decide +kernel)) rfl)
theorem g_v172 : Cond.selects g_m172.1.cls g_m172.1 g_m172.1 ∈ g_tbl := (g_tb4 _ (List.mem_of_getElem? (i := 73) (by decide +kernel)) rfl)
theorem g_w173 : q_MW g_tbl g_m173 0 := ⟨(g_tb6 _ (List.mem_of_getElem? (i := 95) (by decide +kernel)) rfl), (g_tb1 _ (List.mem_of_getElem? (i := 13) (by decide +kernel)) rfl), by decide +kernel, by decide⟩
theorem g_i173 : Cond.instanceMethod g_m173.1 ∈ g_tbl := (g_tb6 _ (List.mem_of_getElem? (i := 94) (by decide +kernel)) rfl)
theorem g_w174 : q_MW g_tbl g_m174 1 := ⟨(g_tb9 _ (List.mem_of_getElem? (i := 235) (by decide +kernel)) rfl), (g_tb1 _ (List.mem_of_getElem? (i := 13) (by decide +kernel)) rfl), by decide +kernel, by decide⟩
theorem g_i174 : Cond.instanceMethod g_m174.1 ∈ g_tbl := (g_tb9 _ (List.mem_of_getElem? (i := 233) (by decide +kernel)) rfl)
theorem g_v174 : Cond.selects g_m174.1.cls g_m174.1 g_m174.1 ∈ g_tbl := (g_tb9 _ (List.mem_of_getElem? (i := 234) (by decide +kernel)) rfl)
theorem g_w175 : q_MW g_tbl g_m175 0 := ⟨(g_tb8 _ (List.mem_of_getElem? (i := 146) (by decide +kernel)) rfl), (g_tb1 _ (List.mem_of_getElem? (i := 13) (by decide +kernel)) rfl), by decide +kernel, by decide⟩
theorem g_i175 : Cond.instanceMethod g_m175.1 ∈ g_tbl := (g_tb8 _ (List.mem_of_getElem? (i := 145) (by decide +kernel)) rfl)
theorem g_v175 : Cond.selects g_m175.1.cls g_m175.1 g_m175.1 ∈ g_tbl := (g_tb0 _ (List.mem_of_getElem? (i := 91) (by decide +kernel)) rfl)
theorem g_w176 : q_MW g_tbl g_m176 2 := ⟨(g_tb8 _ (List.mem_of_getElem? (i := 29) (by decide +kernel)) rfl), (g_tb1 _ (List.mem_of_getElem? (i := 13) (by decide +kernel)) rfl), by decide +kernel, by decide⟩
theorem g_i176 : Cond.instanceMethod g_m176.1 ∈ g_tbl := (g_tb8 _ (List.mem_of_getElem? (i := 28) (by decide +kernel)) rfl)
theorem g_v176 : Cond.selects g_m176.1.cls g_m176.1 g_m176.1 ∈ g_tbl := (g_tb0 _ (List.mem_of_getElem? (i := 74) (by decide +kernel)) rfl)
theorem g_w177 : q_MW g_tbl g_m177 0 := ⟨(g_tb6 _ (List.mem_of_getElem? (i := 104) (by decide +kernel)) rfl), (g_tb1 _ (List.mem_of_getElem? (i := 13) (by decide +kernel)) rfl), by decide +kernel, by decide⟩
theorem g_i177 : Cond.instanceMethod g_m177.1 ∈ g_tbl := (g_tb6 _ (List.mem_of_getElem? (i := 103) (by decide +kernel)) rfl)
theorem g_v177 : Cond.selects g_m177.1.cls g_m177.1 g_m177.1 ∈ g_tbl := (g_tb0 _ (List.mem_of_getElem? (i := 47) (by decide +kernel)) rfl)
theorem g_w178 : q_MW g_tbl g_m178 1 := ⟨(g_tb9 _ (List.mem_of_getElem? (i := 152) (by decide +kernel)) rfl), (g_tb1 _ (List.mem_of_getElem? (i := 13) (by decide +kernel)) rfl), by decide +kernel, by decide⟩
theorem g_i178 : Cond.instanceMethod g_m178.1 ∈ g_tbl := (g_tb9 _ (List.mem_of_getElem? (i := 150) (by decide +kernel)) rfl)
theorem g_v178 : Cond.selects g_m178.1.cls g_m178.1 g_m178.1 ∈ g_tbl := (g_tb9 _ (List.mem_of_getElem? (i := 151) (by decide +kernel)) rfl)
theorem g_w179 : q_MW g_tbl g_m179 2 := ⟨(g_tb9 _ (List.mem_of_getElem? (i := 216) (by decide +kernel)) rfl), (g_tb1 _ (List.mem_of_getElem? (i := 13) (by decide +kernel)) rfl), by decide +kernel, by decide⟩
theorem g_i179 : Cond.instanceMethod g_m179.1 ∈ g_tbl := (g_tb9 _ (List.mem_of_getElem? (i := 214) (by decide +kernel)) rfl)
theorem g_v179 : Cond.selects g_m179.1.cls g_m179.1 g_m179.1 ∈ g_tbl := (g_tb9 _ (List.mem_of_getElem? (i := 215) (by decide +kernel)) rfl)
theorem g_w180 : q_MW g_tbl g_m180 0 := ⟨(g_tb8 _ (List.mem_of_getElem? (i := 25) (by decide +kernel)) rfl), (g_tb1 _ (List.mem_of_getElem? (i := 13) (by decide +kernel)) rfl), by decide +kernel, by decide⟩
theorem g_i180 : Cond.instanceMethod g_m180.1 ∈ g_tbl := (g_tb8 _ (List.mem_of_getElem? (i := 24) (by decide +kernel)) rfl)
theorem g_v180 : Cond.selects g_m180.1.cls g_m180.1 g_m180.1 ∈ g_tbl := (g_tb0 _ (List.mem_of_getElem? (i := 73) (by decide +kernel)) rfl)
theorem g_w181 : q_MW g_tbl g_m181 1 := ⟨(g_tb8 _ (List.mem_of_getElem? (i := 221) (by decide +kernel)) rfl), (g_tb1 _ (List.mem_of_getElem? (i := 13) (by decide +kernel)) rfl), by decide +kernel, by decide⟩
theorem g_i181 : Cond.instanceMethod g_m181.1 ∈ g_tbl := (g_tb8 _ (List.mem_of_getElem? (i := 219) (by decide +kernel)) rfl)
theorem g_v181 : Cond.selects g_m181.1.cls g_m181.1 g_m181.1 ∈ g_tbl := (g_tb8 _ (List.mem_of_getElem? (i := 220) (by decide +kernel)) rfl)
theorem g_w182 : q_MW g_tbl g_m182 1 := ⟨(g_tb9 _ (List.mem_of_getElem? (i := 231) (by decide +kernel)) rfl), (g_tb1 _ (List.mem_of_getElem? (i := 13) (by decide +kernel)) rfl), by decide +kernel, by decide⟩
theorem g_i182 : Cond.instanceMethod g_m182.1 ∈ g_tbl := (g_tb9 _ (List.mem_of_getElem? (i := 229) (by decide +kernel)) rfl)
theorem g_v182 : Cond.selects g_m182.1.cls g_m182.1 g_m182.1 ∈ g_tbl := (g_tb9 _ (List.mem_of_getElem? (i := 230) (by decide +kernel)) rfl)
theorem g_w183 : q_MW g_tbl g_m183 1 := ⟨(g_tb9 _ (List.mem_of_getElem? (i := 38) (by decide +kernel)) rfl), (g_tb1 _ (List.mem_of_getElem? (i := 13) (by decide +kernel)) rfl), by decide +kernel, by decide⟩
theorem g_i183 : Cond.instanceMethod g_m183.1 ∈ g_tbl := (g_tb9 _ (List.mem_of_getElem? (i := 37) (by decide +kernel)) rfl)
theorem g_v183 : Cond.selects g_m183.1.cls g_m183.1 g_m183.1 ∈ g_tbl := (g_tb0 _ (List.mem_of_getElem? (i := 106) (by decide +kernel)) rfl)
theorem g_w184 : q_MW g_tbl g_m184 2 := ⟨(g_tb9 _ (List.mem_of_getElem? (i := 118) (by decide +kernel)) rfl), (g_tb1 _ (List.mem_of_getElem? (i := 13) (by decide +kernel)) rfl), by decide +kernel, by decide⟩
theorem g_i184 : Cond.instanceMethod g_m184.1 ∈ g_tbl := (g_tb9 _ (List.mem_of_getElem? (i := 116) (by decide +kernel)) rfl)
theorem g_v184 : Cond.selects g_m184.1.cls g_m184.1 g_m184.1 ∈ g_tbl := (g_tb9 _ (List.mem_of_getElem? (i := 117) (by decide +kernel)) rfl)
theorem g_w185 : q_MW g_tbl g_m185 2 := ⟨(g_tb8 _ (List.mem_of_getElem? (i := 170) (by decide +kernel)) rfl), (g_tb1 _ (List.mem_of_getElem? (i := 13) (by decide +kernel)) rfl), by decide +kernel, by decide⟩
theorem g_i185 : Cond.instanceMethod g_m185.1 ∈ g_tbl := (g_tb8 _ (List.mem_of_getElem? (i := 168) (by decide +kernel)) rfl)
theorem g_v185 : Cond.selects g_m185.1.cls g_m185.1 g_m185.1 ∈ g_tbl := (g_tb8 _ (List.mem_of_getElem? (i := 169) (by decide +kernel)) rfl)
theorem g_w186 : q_MW g_tbl g_m186 2 := ⟨(g_tb8 _ (List.mem_of_getElem? (i := 174) (by decide +kernel)) rfl), (g_tb1 _ (List.mem_of_getElem? (i := 13) (by decide +kernel)) rfl), by decide +kernel, by decide⟩
theorem g_i186 : Cond.instanceMethod g_m186.1 ∈ g_tbl := (g_tb8 _ (List.mem_of_getElem? (i := 173) (by decide +kernel)) rfl)
theorem g_v186 : Cond.selects g_m186.1.cls g_m186.1 g_m186.1 ∈ g_tbl := (g_tb0 _ (List.mem_of_getElem? (i := 97) (by decide +kernel)) rfl)
theorem g_w187 : q_MW g_tbl g_m187 1 := ⟨(g_tb8 _ (List.mem_of_getElem? (i := 41) (by decide +kernel)) rfl), (g_tb1 _ (List.mem_of_getElem? (i := 13) (by decide +kernel)) rfl), by decide +kernel, by decide⟩
theorem g_i187 : Cond.instanceMethod g_m187.1 ∈ g_tbl := (g_tb8 _ (List.mem_of_getElem? (i := 40) (by decide +kernel)) rfl)
theorem g_v187 : Cond.selects g_m187.1.cls g_m187.1 g_m187.1 ∈ g_tbl := (g_tb0 _ (List.mem_of_getElem? (i := 77) (by decide +kernel)) rfl)
theorem g_w188 : q_MW g_tbl g_m188 0 := ⟨(g_tb8 _ (List.mem_of_getElem? (i := 178) (by decide +kernel)) rfl), (g_tb1 _ (List.mem_of_getElem? (i := 13) (by decide +kernel)) rfl), by decide +kernel, by decide⟩
theorem g_i188 : Cond.instanceMethod g_m188.1 ∈ g_tbl := (g_tb8 _ (List.mem_of_getElem? (i := 176) (by decide +kernel)) rfl)
theorem g_v188 : Cond.selects g_m188.1.cls g_m188.1 g_m188.1 ∈ g_tbl := (g_tb8 _ (List.mem_of_getElem? (i := 177) (by decide +kernel)) rfl)
theorem g_w189 : q_MW g_tbl g_m189 0 := ⟨(g_tb8 _ (List.mem_of_getElem? (i := 182) (by decide +kernel)) rfl), (g_tb1 _ (List.mem_of_getElem? (i := 13) (by decide +kernel)) rfl), by decide +kernel, by decide⟩
theorem g_i189 : Cond.instanceMethod g_m189.1 ∈ g_tbl := (g_tb8 _ (List.mem_of_getElem? (i := 181) (by decide +kernel)) rfl)
theorem g_v189 : Cond.selects g_m189.1.cls g_m189.1 g_m189.1 ∈ g_tbl := (g_tb0 _ (List.mem_of_getElem? (i := 98) (by decide +kernel)) rfl)
theorem g_w190 : q_MW g_tbl g_m190 1 := ⟨(g_tb9 _ (List.mem_of_getElem? (i := 125) (by decide +kernel)) rfl), (g_tb1 _ (List.mem_of_getElem? (i := 13) (by decide +kernel)) rfl), by decide +kernel, by decide⟩
theorem g_i190 : Cond.instanceMethod g_m190.1 ∈ g_tbl := (g_tb9 _ (List.mem_of_getElem? (i := 124) (by decide +kernel)) rfl)
theorem g_v190 : Cond.selects g_m190.1.cls g_m190.1 g_m190.1 ∈ g_tbl := (g_tb0 _ (List.mem_of_getElem? (i := 117) (by decide +kernel)) rfl)
theorem g_w191 : q_MW g_tbl g_m191 0 := ⟨(g_tb8 _ (List.mem_of_getElem? (i := 21) (by decide +kernel)) rfl), (g_tb1 _ (List.mem_of_getElem? (i := 13) (by decide +kernel)) rfl), by decide +kernel, by decide⟩
theorem g_i191 : Cond.instanceMethod g_m191.1 ∈ g_tbl := (g_tb8 _ (List.mem_of_getElem? (i := 20) (by decide +kernel)) rfl)
theorem g_v191 : Cond.selects g_m191.1.cls g_m191.1 g_m191.1 ∈ g_tbl := (g_tb0 _ (List.mem_of_getElem? (i := 72) (by decide +kernel)) rfl)
theorem g_w192 : q_MW g_tbl g_m192 0 := ⟨(g_tb9 _ (List.mem_of_getElem? (i := 50) (by decide +kernel)) rfl), (g_tb1 _ (List.mem_of_getElem? (i := 13) (by decide +kernel)) rfl), by decide +kernel, by decide⟩
theorem g_i192 : Cond.instanceMethod g_m192.1 ∈ g_tbl := (g_tb9 _ (List.mem_of_getElem? (i := 48) (by decide +kernel)) rfl)
theorem g_v192 : Cond.selects g_m192.1.cls g_m192.1 g_m192.1 ∈ g_tbl := (g_tb9 _ (List.mem_of_getElem? (i := 49) (by decide +kernel)) rfl)
theorem g_w193 : q_MW g_tbl g_m193 2 := ⟨(g_tb9 _ (List.mem_of_getElem? (i := 102) (by decide +kernel)) rfl), (g_tb1 _ (List.mem_of_getElem? (i := 13) (by decide +kernel)) rfl), by decide +kernel, by decide⟩
theorem g_i193 : Cond.instanceMethod g_m193.1 ∈ g_tbl := (g_tb9 _ (List.mem_of_getElem? (i := 100) (by decide +kernel)) rfl)
theorem g_v193 : Cond.selects g_m193.1.cls g_m193.1 g_m193.1 ∈ g_tbl := (g_tb9 _ (List.mem_of_getElem? (i := 101) (by decide +kernel)) rfl)
theorem g_w194 : q_MW g_tbl g_m194 2 := ⟨(g_tb9 _ (List.mem_of_getElem? (i := 128) (by decide +kernel)) rfl), (g_tb1 _ (List.mem_of_getElem? (i := 13) (by decide +kernel)) rfl), by decide +kernel, by decide⟩
theorem g_s194 : Cond.static g_m194.1 ∈ g_tbl := (g_tb9 _ (List.mem_of_getElem? (i := 127) (by decide +kernel)) rfl)
theorem g_w195 : q_MW g_tbl g_m195 1 := ⟨(g_tb9 _ (List.mem_of_getElem? (i := 66) (by decide +kernel)) rfl), (g_tb1 _ (List.mem_of_getElem? (i := 13) (by decide +kernel)) rfl), by decide +kernel, by decide⟩
theorem g_i195 : Cond.instanceMethod g_m195.1 ∈ g_tbl := (g_tb9 _ (List.mem_of_getElem? (i := 65) (by decide +kernel)) rfl)
theorem g_v195 : Cond.selects g_m195.1.cls g_m195.1 g_m195.1 ∈ g_tbl := (g_tb0 _ (List.mem_of_getElem? (i := 111) (by decide +kernel)) rfl)
theorem g_w196 : q_MW g_tbl g_m196 3 := ⟨(g_tb8 _ (List.mem_of_getElem? (i := 124) (by decide +kernel)) rfl), (g_tb1 _ (List.mem_of_getElem? (i := 13) (by decide +kernel)) rfl), by decide +kernel, by decide⟩
theorem g_s196 : Cond.static g_m196.1 ∈ g_tbl := (g_tb8 _ (List.mem_of_getElem? (i := 123) (by decide +kernel)) rfl)
theorem g_w197 : q_MW g_tbl g_m197 0 := ⟨(g_tb9 _ (List.mem_of_getElem? (i := 21) (by decide +kernel)) rfl), (g_tb1 _ (List.mem_of_getElem? (i := 13) (by decide +kernel)) rfl), by decide +kernel, by decide⟩
theorem g_i197 : Cond.instanceMethod g_m197.1 ∈ g_tbl := (g_tb9 _ (List.mem_of_getElem? (i := 19) (by decide +kernel)) rfl)
theorem g_v197 : Cond.selects g_m197.1.cls g_m197.1 g_m197.1 ∈ g_tbl := (g_tb9 _ (List.mem_of_getElem? (i := 20) (by decide +kernel)) rfl)
theorem g_w198 : q_MW g_tbl g_m198 1 := ⟨(g_tb7 _ (List.mem_of_getElem? (i := 136) (by decide +kernel)) rfl), (g_tb1 _ (List.mem_of_getElem? (i := 13) (by decide +kernel)) rfl), by decide +kernel, by decide⟩
theorem g_i198 : Cond.instanceMethod g_m198.1 ∈ g_tbl := (g_tb7 _ (List.mem_of_getElem? (i := 134) (by decide +kernel)) rfl)
theorem g_v198 : Cond.selects g_m198.1.cls g_m198.1 g_m198.1 ∈ g_tbl := (g_tb7 _ (List.mem_of_getElem? (i := 135) (by decide +kernel)) rfl)
theorem g_w199 : q_MW g_tbl g_m199 1 := ⟨(g_tb8 _ (List.mem_of_getElem? (i := 229) (by decide +kernel)) rfl), (g_tb1 _ (List.mem_of_getElem? (i := 13) (by decide +kernel)) rfl), by decide +kernel, by decide⟩
theorem g_i199 : Cond.instanceMethod g_m199.1 ∈ g_tbl := (g_tb8 _ (List.mem_of_getElem? (i := 228) (by decide +kernel)) rfl)
theorem g_v199 : Cond.selects g_m199.1.cls g_m199.1 g_m199.1 ∈ g_tbl := (g_tb0 _ (List.mem_of_getElem? (i := 103) (by decide +kernel)) rfl)
theorem g_w200 : q_MW g_tbl g_m200 2 := ⟨(g_tb9 _ (List.mem_of_getElem? (i := 46) (by decide +kernel)) rfl), (g_tb1 _ (List.mem_of_getElem? (i := 13) (by decide +kernel)) rfl), by decide +kernel, by decide⟩
theorem g_i200 : Cond.instanceMethod g_m200.1 ∈ g_tbl := (g_tb9 _ (List.mem_of_getElem? (i := 45) (by decide +kernel)) rfl)
theorem g_v200 : Cond.selects g_m200.1.cls g_m200.1 g_m200.1 ∈ g_tbl := (g_tb0 _ (List.mem_of_getElem? (i := 108) (by decide +kernel)) rfl)
theorem g_w201 : q_MW g_tbl g_m201 1 := ⟨(g_tb8 _ (List.mem_of_getElem? (i := 49) (by decide +kernel)) rfl), (g_tb1 _ (List.mem_of_getElem? (i := 13) (by decide +kernel)) rfl), by decide +kernel, by decide⟩
theorem g_i201 : Cond.instanceMethod g_m201.1 ∈ g_tbl := (g_tb8 _ (List.mem_of_getElem? (i := 47) (by decide +kernel)) rfl)
theorem g_v201 : Cond.selects g_m201.1.cls g_m201.1 g_m201.1 ∈ g_tbl := (g_tb8 _ (List.mem_of_getElem? (i := 48) (by decide +kernel)) rfl)
theorem g_w202 : q_MW g_tbl g_m202 5 := ⟨(g_tb7 _ (List.mem_of_getElem? (i := 128) (by decide +kernel)) rfl), (g_tb1 _ (List.mem_of_getElem? (i := 13) (by decide +kernel)) rfl), by decide +kernel, by decide⟩
theorem g_i202 : Cond.instanceMethod g_m202.1 ∈ g_tbl := (g_tb7 _ (List.mem_of_getElem? (i := 126) (by decide +kernel)) rfl)
theorem g_v202 : Cond.selects g_m202.1.cls g_m202.1 g_m202.1 ∈ g_tbl := (g_tb7 _ (List.mem_of_getElem? (i := 127) (by decide +kernel)) rfl)
theorem g_w203 : q_MW g_tbl g_m203 0 := ⟨(g_tb8 _ (List.mem_of_getElem? (i := 64) (by decide +kernel)) rfl), (g_tb1 _ (List.mem_of_getElem? (i := 13) (by decide +kernel)) rfl), by decide +kernel, by decide⟩
theorem g_i203 : Cond.instanceMethod g_m203.1 ∈ g_tbl := (g_tb8 _ (List.mem_of_getElem? (i := 63) (by decide +kernel)) rfl)
theorem g_v203 : Cond.selects g_m203.1.cls g_m203.1 g_m203.1 ∈ g_tbl := (g_tb0 _ (List.mem_of_getElem? (i := 80) (by decide +kernel)) rfl)
theorem g_w204 : q_MW g_tbl g_m204 2 := ⟨(g_tb7 _ (List.mem_of_getElem? (i := 210) (by decide +kernel)) rfl), (g_tb1 _ (List.mem_of_getElem? (i := 13) (by decide +kernel)) rfl), by decide +kernel, by decide⟩
theorem g_i204 : Cond.instanceMethod g_m204.1 ∈ g_tbl := (g_tb7 _ (List.mem_of_getElem? (i := 209) (by decide +kernel)) rfl)
theorem g_v204 : Cond.selects g_m204.1.cls g_m204.1 g_m204.1 ∈ g_tbl := (g_tb0 _ (List.mem_of_getElem? (i := 60) (by decide +kernel)) rfl)
theorem g_w205 : q_MW g_tbl g_m205 1 := ⟨(g_tb9 _ (List.mem_of_getElem? (i := 200) (by decide +kernel)) rfl), (g_tb1 _ (List.mem_of_getElem? (i := 13) (by decide +kernel)) rfl), by decide +kernel, by decide⟩
theorem g_i205 : Cond.instanceMethod g_m205.1 ∈ g_tbl := (g_tb9 _ (List.mem_of_getElem? (i := 198) (by decide +kernel)) rfl)
theorem g_v205 : Cond.selects g_m205.1.cls g_m205.1 g_m205.1 ∈ g_tbl := (g_tb9 _ (List.mem_of_getElem? (i := 199) (by decide +kernel)) rfl)
theorem g_w206 : q_MW g_tbl g_m206 2 := ⟨(g_tb9 _ (List.mem_of_getElem? (i := 208) (by decide +kernel)) rfl), (g_tb1 _ (List.mem_of_getElem? (i := 13) (by decide +kernel)) rfl), by decide +kernel, by decide⟩
theorem g_i206 : Cond.instanceMethod g_m206.1 ∈ g_tbl := (g_tb9 _ (List.mem_of_getElem? (i := 207) (by decide +kernel)) rfl)
theorem g_v206 : Cond.selects g_m206.1.cls g_m206.1 g_m206.1 ∈ g_tbl := (g_tb0 _ (List.mem_of_getElem? (i := 120) (by decide +kernel)) rfl)
theorem g_w207 : q_MW g_tbl g_m207 0 := ⟨(g_tb9 _ (List.mem_of_getElem? (i := 160) (by decide +kernel)) rfl), (g_tb1 _ (List.mem_of_getElem? (i := 13) (by decide +kernel)) rfl), by decide +kernel, by decide⟩
theorem g_i207 : Cond.instanceMethod g_m207.1 ∈ g_tbl := (g_tb9 _ (List.mem_of_getElem? (i := 158) (by decide +kernel)) rfl)
theorem g_v207 : Cond.selects g_m207.1.cls g_m207.1 g_m207.1 ∈ g_tbl := (g_tb9 _ (List.mem_of_getElem? (i := 159) (by decide +kernel)) rfl)
theorem g_w208 : q_MW g_tbl g_m208 0 := ⟨(g_tb7 _ (List.mem_of_getElem? (i := 238) (by decide +kernel)) rfl), (g_tb1 _ (List.mem_of_getElem? (i := 13) (by decide +kernel)) rfl), by decide +kernel, by decide⟩
theorem g_i208 : Cond.instanceMethod g_m208.1 ∈ g_tbl := (g_tb7 _ (List.mem_of_getElem? (i := 237) (by decide +kernel)) rfl)
theorem g_v208 : Cond.selects g_m208.1.cls g_m208.1 g_m208.1 ∈ g_tbl := (g_tb0 _ (List.mem_of_getElem? (i := 67) (by decide +kernel)) rfl)
theorem g_w209 : q_MW g_tbl g_m209 1 := ⟨(g_tb7 _ (List.mem_of_getElem? (i := 132) (by decide +kernel)) rfl), (g_tb1 _ (List.mem_of_getElem? (i := 13) (by decide +kernel)) rfl), by decide +kernel, by decide⟩
theorem g_i209 : Cond.instanceMethod g_m209.1 ∈ g_tbl := (g_tb7 _ (List.mem_of_getElem? (i := 131) (by decide +kernel)) rfl)
theorem g_v209 : Cond.selects g_m209.1.cls g_m209.1 g_m209.1 ∈ g_tbl := (g_tb0 _ (List.mem_of_getElem? (i := 49) (by decide +kernel)) rfl)
theorem g_w210 : q_MW g_tbl g_m210 1 := ⟨(g_tb8 _ (List.mem_of_getElem? (i := 166) (by decide +kernel)) rfl), (g_tb1 _ (List.mem_of_getElem? (i := 13) (by decide +kernel)) rfl), by decide +kernel, by decide⟩
theorem g_i210 : Cond.instanceMethod g_m210.1 ∈ g_tbl := (g_tb8 _ (List.mem_of_getElem? (i := 165) (by decide +kernel)) rfl)
theorem g_v210 : Cond.selects g_m210.1.cls g_m210.1 g_m210.1 ∈ g_tbl := (g_tb0 _ (List.mem_of_getElem? (i := 96) (by decide +kernel)) rfl)
theorem g_w211 : q_MW g_tbl g_m211 1 := ⟨(g_tb8 _ (List.mem_of_getElem? (i := 209) (by decide +kernel)) rfl), (g_tb1 _ (List.mem_of_getElem? (i := 13) (by decide +kernel)) rfl), by decide +kernel, by decide⟩
theorem g_i211 : Cond.instanceMethod g_m211.1 ∈ g_tbl := (g_tb8 _ (List.mem_of_getElem? (i := 207) (by decide +kernel)) rfl)
theorem g_v211 : Cond.selects g_m211.1.cls g_m211.1 g_m211.1 ∈ g_tbl := (g_tb8 _ (List.mem_of_getElem? (i := 208) (by decide +kernel)) rfl)
theorem g_w212 : q_MW g_tbl g_m212 1 := ⟨(g_tb8 _ (List.mem_of_getElem? (i := 150) (by decide +kernel)) rfl), (g_tb1 _ (List.mem_of_getElem? (i := 13) (by decide +kernel)) rfl), by decide +kernel, by decide⟩
theorem g_i212 : Cond.instanceMethod g_m212.1 ∈ g_tbl := (g_tb8 _ (List.mem_of_getElem? (i := 149) (by decide +kernel)) rfl)
theorem g_v212 : Cond.selects g_m212.1.cls g_m212.1 g_m212.1 ∈ g_tbl := (g_tb0 _ (List.mem_of_getElem? (i := 92) (by decide +kernel)) rfl)
theorem g_w213 : q_MW g_tbl g_m213 0 := ⟨(g_tb8 _ (List.mem_of_getElem? (i := 186) (by decide +kernel)) rfl), (g_tb1 _ (List.mem_of_getElem? (i := 13) (by decide +kernel)) rfl), by decide +kernel, by decide⟩
theorem g_i213 : Cond.instanceMethod g_m213.1 ∈ g_tbl := (g_tb8 _ (List.mem_of_getElem? (i := 185) (by decide +kernel)) rfl)
theorem g_v213 : Cond.selects g_m213.1.cls g_m213.1 g_m213.1 ∈ g_tbl := (g_tb0 _ (List.mem_of_getElem? (i := 99) (by decide +kernel)) rfl)
theorem g_w214 : q_MW g_tbl g_m214 2 := ⟨(g_tb8 _ (List.mem_of_getElem? (i := 130) (by decide +kernel)) rfl), (g_tb1 _ (List.mem_of_getElem? (i := 13) (by decide +kernel)) rfl), by decide +kernel, by decide⟩
theorem g_s214 : Cond.static g_m214.1 ∈ g_tbl := (g_tb8 _ (List.mem_of_getElem? (i := 129) (by decide +kernel)) rfl)
theorem g_w215 : q_MW g_tbl g_m215 1 := ⟨(g_tb9 _ (List.mem_of_getElem? (i := 114) (by decide +kernel)) rfl), (g_tb1 _ (List.mem_of_getElem? (i := 13) (by decide +kernel)) rfl), by decide +kernel, by decide⟩
theorem g_i215 : Cond.instanceMethod g_m215.1 ∈ g_tbl := (g_tb9 _ (List.mem_of_getElem? (i := 112) (by decide +kernel)) rfl)
theorem g_v215 : Cond.selects g_m215.1.cls g_m215.1 g_m215.1 ∈ g_tbl := (g_tb9 _ (List.mem_of_getElem? (i := 113) (by decide +kernel)) rfl)
theorem g_w216 : q_MW g_tbl g_m216 2 := ⟨(g_tb8 _ (List.mem_of_getElem? (i := 74) (by decide +kernel)) rfl), (g_tb1 _ (List.mem_of_getElem? (i := 13) (by decide +kernel)) rfl), by decide +kernel, by decide⟩
theorem g_s216 : Cond.static g_m216.1 ∈ g_tbl := (g_tb8 _ (List.mem_of_getElem? (i := 73) (by decide +kernel)) rfl)
theorem g_w217 : q_MW g_tbl g_m217 0 := ⟨(g_tb8 _ (List.mem_of_getElem? (i := 37) (by decide +kernel)) rfl), (g_tb1 _ (List.mem_of_getElem? (i := 13) (by decide +kernel)) rfl), by decide +kernel, by decide⟩
theorem g_i217 : Cond.instanceMethod g_m217.1 ∈ g_tbl := (g_tb8 _ (List.mem_of_getElem? (i := 36) (by decide +kernel)) rfl)
theorem g_v217 : Cond.selects g_m217.1.cls g_m217.1 g_m217.1 ∈ g_tbl := (g_tb0 _ (List.mem_of_getElem? (i := 76) (by decide +kernel)) rfl)
theorem g_w218 : q_MW g_tbl g_m218 0 := ⟨(g_tb8 _ (List.mem_of_getElem? (i := 45) (by decide +kernel)) rfl), (g_tb1 _ (List.mem_of_getElem? (i := 13) (by decide +kernel)) rfl), by decide +kernel, by decide⟩
theorem g_i218 : Cond.instanceMethod g_m218.1 ∈ g_tbl := (g_tb8 _ (List.mem_of_getElem? (i := 44) (by decide +kernel)) rfl)
theorem g_v218 : Cond.selects g_m218.1.cls g_m218.1 g_m218.1 ∈ g_tbl := (g_tb0 _ (List.mem_of_getElem? (i := 78) (by decide +kernel)) rfl)
theorem g_w219 : q_MW g_tbl g_m219 1 := ⟨(g_tb7 _ (List.mem_of_getElem? (i := 152) (by decide +kernel)) rfl), (g_tb1 _ (List.mem_of_getElem? (i := 13) (by decide +kernel)) rfl), by decide +kernel, by decide⟩
theorem g_i219 : Cond.instanceMethod g_m219.1 ∈ g_tbl := (g_tb7 _ (List.mem_of_getElem? (i := 151) (by decide +kernel)) rfl)
theorem g_v219 : Cond.selects g_m219.1.cls g_m219.1 g_m219.1 ∈ g_tbl := (g_tb0 _ (List.mem_of_getElem? (i := 52) (by decide +kernel)) rfl)
theorem g_w220 : q_MW g_tbl g_m220 1 := ⟨(g_tb9 _ (List.mem_of_getElem? (i := 78) (by decide +kernel)) rfl), (g_tb1 _ (List.mem_of_getElem? (i := 13) (by decide +kernel)) rfl), by decide +kernel, by decide⟩
theorem g_i220 : Cond.instanceMethod g_m220.1 ∈ g_tbl := (g_tb9 _ (List.mem_of_getElem? (i := 76) (by decide +kernel)) rfl)
theorem g_v220 : Cond.selects g_m220.1.cls g_m220.1 g_m220.1 ∈ g_tbl := (g_tb9 _ (List.mem_of_getElem? (i := 77) (by decide +kernel)) rfl)
theorem g_w221 : q_MW g_tbl g_m221 1 := ⟨(g_tb9 _ (List.mem_of_getElem? (i := 239) (by decide +kernel)) rfl), (g_tb1 _ (List.mem_of_getElem? (i := 13) (by decide +kernel)) rfl), by decide +kernel, by decide⟩
theorem g_i221 : Cond.instanceMethod g_m221.1 ∈ g_tbl := (g_tb9 _ (List.mem_of_getElem? (i := 238) (by decide +kernel)) rfl)
theorem g_v221 : Cond.selects g_m221.1.cls g_m221.1 g_m221.1 ∈ g_tbl := (g_tb0 _ (List.mem_of_getElem? (i := 122) (by decide +kernel)) rfl)
theorem g_w222 : q_MW g_tbl g_m222 1 := ⟨(g_tb9 _ (List.mem_of_getElem? (i := 224) (by decide +kernel)) rfl), (g_tb1 _ (List.mem_of_getElem? (i := 13) (by decide +kernel)) rfl), by decide +kernel, by decide⟩
theorem g_i222 : Cond.instanceMethod g_m222.1 ∈ g_tbl := (g_tb9 _ (List.mem_of_getElem? (i := 222) (by decide +kernel)) rfl)
theorem g_v222 : Cond.selects g_m222.1.cls g_m222.1 g_m222.1 ∈ g_tbl := (g_tb9 _ (List.mem_of_getElem? (i := 223) (by decide +kernel)) rfl)
theorem g_w223 : q_MW g_tbl g_m223 1 := ⟨(g_tb8 _ (List.mem_of_getElem? (i := 205) (by decide +kernel)) rfl), (g_tb1 _ (List.mem_of_getElem? (i := 13) (by decide +kernel)) rfl), by decide +kernel, by decide⟩
theorem g_i223 : Cond.instanceMethod g_m223.1 ∈ g_tbl := (g_tb8 _ (List.mem_of_getElem? (i := 203) (by decide +kernel)) rfl)
theorem g_v223 : Cond.selects g_m223.1.cls g_m223.1 g_m223.1 ∈ g_tbl := (g_tb8 _ (List.mem_of_getElem? (i := 204) (by decide +kernel)) rfl)
theorem g_w224 : q_MW g_tbl g_m224 1 := ⟨(g_tb9 _ (List.mem_of_getElem? (i := 227) (by decide +kernel)) rfl), (g_tb1 _ (List.mem_of_getElem? (i := 13) (by decide +kernel)) rfl), by decide +kernel, by decide⟩
theorem g_s224 : Cond.static g_m224.1 ∈ g_tbl := (g_tb9 _ (List.mem_of_getElem? (i := 226) (by decide +kernel)) rfl)
theorem g_w225 : q_MW g_tbl g_m225 1 := ⟨(g_tb7 _ (List.mem_of_getElem? (i := 158) (by decide +kernel)) rfl), (g_tb1 _ (List.mem_of_getElem? (i := 13) (by decide +kernel)) rfl), by decide +kernel, by decide⟩
theorem g_s225 : Cond.static g_m225.1 ∈ g_tbl := (g_tb7 _ (List.mem_of_getElem? (i := 157) (by decide +kernel)) rfl)
theorem g_w226 : q_MW g_tbl g_m226 0 := ⟨(g_tb8 _ (List.mem_of_getElem? (i := 138) (by decide +kernel)) rfl), (g_tb1 _ (List.mem_of_getElem? (i := 13) (by decide +kernel)) rfl), by decide +kernel, by decide⟩
theorem g_i226 : Cond.instanceMethod g_m226.1 ∈ g_tbl := (g_tb8 _ (List.mem_of_getElem? (i := 137) (by decide +kernel)) rfl)
theorem g_v226 : Cond.selects g_m226.1.cls g_m226.1 g_m226.1 ∈ g_tbl := (g_tb0 _ (List.mem_of_getElem? (i := 89) (by decide +kernel)) rfl)
theorem g_w227 : q_MW g_tbl g_m227 1 := ⟨(g_tb8 _ (List.mem_of_getElem? (i := 142) (by decide +kernel)) rfl), (g_tb1 _ (List.mem_of_getElem? (i := 13) (by decide +kernel)) rfl), by decide +kernel, by decide⟩
theorem g_i227 : Cond.instanceMethod g_m227.1 ∈ g_tbl := (g_tb8 _ (List.mem_of_getElem? (i := 141) (by decide +kernel)) rfl)
theorem g_v227 : Cond.selects g_m227.1.cls g_m227.1 g_m227.1 ∈ g_tbl := (g_tb0 _ (List.mem_of_getElem? (i := 90) (by decide +kernel)) rfl)
theorem g_w228 : q_MW g_tbl g_m228 0 := ⟨(g_tb8 _ (List.mem_of_getElem? (i := 17) (by decide +kernel)) rfl), (g_tb1 _ (List.mem_of_getElem? (i := 13) (by decide +kernel)) rfl), by decide +kernel, by decide⟩
theorem g_i228 : Cond.instanceMethod g_m228.1 ∈ g_tbl := (g_tb8 _ (List.mem_of_getElem? (i := 16) (by decide +kernel)) rfl)
theorem g_v228 : Cond.selects g_m228.1.cls g_m228.1 g_m228.1 ∈ g_tbl := (g_tb0 _ (List.mem_of_getElem? (i := 71) (by decide +kernel)) rfl)
theorem g_w229 : q_MW g_tbl g_m229 1 := ⟨(g_tb8 _ (List.mem_of_getElem? (i := 78) (by decide +kernel)) rfl), (g_tb1 _ (List.mem_of_getElem? (i := 13) (by decide +kernel)) rfl), by decide +kernel, by decide⟩
theorem g_i229 : Cond.instanceMethod g_m229.1 ∈ g_tbl := (g_tb8 _ (List.mem_of_getElem? (i := 77) (by decide +kernel)) rfl)
theorem g_v229 : Cond.selects g_m229.1.cls g_m229.1 g_m229.1 ∈ g_tbl := (g_tb0 _ (List.mem_of_getElem? (i := 82) (by decide +kernel)) rfl)
theorem g_w230 : q_MW g_tbl g_m230 3 := ⟨(g_tb8 _ (List.mem_of_getElem? (i := 60) (by decide +kernel)) rfl), (g_tb1 _ (List.mem_of_getElem? (i := 13) (by decide +kernel)) rfl), by decide +kernel, by decide⟩
theorem g_s230 : Cond.static g_m230.1 ∈ g_tbl := (g_tb8 _ (List.mem_of_getElem? (i := 59) (by decide +kernel)) rfl)
theorem g_w231 : q_MW g_tbl g_m231 1 := ⟨(g_tb7 _ (List.mem_of_getElem? (i := 155) (by decide +kernel)) rfl), (g_tb1 _ (List.mem_of_getElem? (i := 13) (by decide +kernel)) rfl), by decide +kernel, by decide⟩
theorem g_s231 : Cond.static g_m231.1 ∈ g_tbl := (g_tb7 _ (List.mem_of_getElem? (i := 154) (by decide +kernel)) rfl)
theorem g_w232 : q_MW g_tbl g_m232 0 := ⟨(g_tb7 _ (List.mem_of_getElem? (i := 182) (by decide +kernel)) rfl), (g_tb1 _ (List.mem_of_getElem? (i := 13) (by decide +kernel)) rfl), by decide +kernel, by decide⟩
theorem g_i232 : Cond.instanceMethod g_m232.1 ∈ g_tbl := (g_tb7 _ (List.mem_of_getElem? (i := 181) (by decide +kernel)) rfl)
theorem g_v232 : Cond.selects g_m232.1.cls g_m232.1 g_m232.1 ∈ g_tbl := (g_tb0 _ (List.mem_of_getElem? (i := 57) (by decide +kernel)) rfl)
theorem g_w233 : q_MW g_tbl g_m233 0 := ⟨(g_tb7 _ (List.mem_of_getElem? (i := 186) (by decide +kernel)) rfl), (g_tb1 _ (List.mem_of_getElem? (i := 13) (by decide +kernel)) rfl), by decide +kernel, by decide⟩
theorem g_i233 : Cond.instanceMethod g_m233.1 ∈ g_tbl := (g_tb7 _ (List.mem_of_getElem? (i := 185) (by decide +kernel)) rfl)
theorem g_v233 : Cond.selects g_m233.1.cls g_m233.1 g_m233.1 ∈ g_tbl := (g_tb0 _ (List.mem_of_getElem? (i := 58) (by decide +kernel)) rfl)
theorem g_w234 : q_MW g_tbl g_m234 1 := ⟨(g_tb8 _ (List.mem_of_getElem? (i := 86) (by decide +kernel)) rfl), (g_tb1 _ (List.mem_of_getElem? (i := 13) (by decide +kernel)) rfl), by decide +kernel, by decide⟩
theorem g_i234 : Cond.instanceMethod g_m234.1 ∈ g_tbl := (g_tb8 _ (List.mem_of_getElem? (i := 85) (by decide +kernel)) rfl)
theorem g_v234 : Cond.selects g_m234.1.cls g_m234.1 g_m234.1 ∈ g_tbl := (g_tb0 _ (List.mem_of_getElem? (i := 83) (by decide +kernel)) rfl)
theorem g_w235 : q_MW g_tbl g_m235 1 := ⟨(g_tb8 _ (List.mem_of_getElem? (i := 110) (by decide +kernel)) rfl), (g_tb1 _ (List.mem_of_getElem? (i := 13) (by decide +kernel)) rfl), by decide +kernel, by decide⟩
theorem g_i235 : Cond.instanceMethod g_m235.1 ∈ g_tbl := (g_tb8 _ (List.mem_of_getElem? (i := 109) (by decide +kernel)) rfl)
theorem g_v235 : Cond.selects g_m235.1.cls g_m235.1 g_m235.1 ∈ g_tbl := (g_tb0 _ (List.mem_of_getElem? (i := 86) (by decide +kernel)) rfl)
theorem g_w236 : q_MW g_tbl g_m236 1 := ⟨(g_tb8 _ (List.mem_of_getElem? (i := 57) (by decide +kernel)) rfl), (g_tb1 _ (List.mem_of_getElem? (i := 13) (by decide +kernel)) rfl), by decide +kernel, by decide⟩
theorem g_i236 : Cond.instanceMethod g_m236.1 ∈ g_tbl := (g_tb8 _ (List.mem_of_getElem? (i := 56) (by decide +kernel)) rfl)
theorem g_v236 : Cond.selects g_m236.1.cls g_m236.1 g_m236.1 ∈ g_tbl := (g_tb0 _ (List.mem_of_getElem? (i := 79) (by decide +kernel)) rfl)
theorem g_w237 : q_MW g_tbl g_m237 1 := ⟨(g_tb7 _ (List.mem_of_getElem? (i := 161) (by decide +kernel)) rfl), (g_tb1 _ (List.mem_of_getElem? (i := 13) (by decide +kernel)) rfl), by decide +kernel, by decide⟩
theorem g_s237 : Cond.static g_m237.1 ∈ g_tbl := (g_tb7 _ (List.mem_of_getElem? (i := 160) (by decide +kernel)) rfl)
theorem g_w238 : q_MW g_tbl g_m238 1 := ⟨(g_tb7 _ (List.mem_of_getElem? (i := 170) (by decide +kernel)) rfl), (g_tb1 _ (List.mem_of_getElem? (i := 13) (by decide +kernel)) rfl), by decide +kernel, by decide⟩
theorem g_i238 : Cond.instanceMethod g_m238.1 ∈ g_tbl := (g_tb7 _ (List.mem_of_getElem? (i := 169) (by decide +kernel)) rfl)
theorem g_v238 : Cond.selects g_m238.1.cls g_m238.1 g_m238.1 ∈ g_tbl := (g_tb0 _ (List.mem_of_getElem? (i := 54) (by decide +kernel)) rfl)
theorem g_w239 : q_MW g_tbl g_m239 1 := ⟨(g_tb8 _ (List.mem_of_getElem? (i := 213) (by decide +kernel)) rfl), (g_tb1 _ (List.mem_of_getElem? (i := 13) (by decide +kernel)) rfl), by decide +kernel, by decide⟩
theorem g_i239 : Cond.instanceMethod g_m239.1 ∈ g_tbl := (g_tb8 _ (List.mem_of_getElem? (i := 211) (by decide +kernel)) rfl)
theorem g_v239 : Cond.selects g_m239.1.cls g_m239.1 g_m239.1 ∈ g_tbl := (g_tb8 _ (List.mem_of_getElem? (i := 212) (by decide +kernel)) rfl)
theorem g_w240 : q_MW g_tbl g_m240 0 := ⟨(g_tb6 _ (List.mem_of_getElem? (i := 108) (by decide +kernel)) rfl), (g_tb1 _ (List.mem_of_getElem? (i := 13) (by decide +kernel)) rfl), by decide +kernel, by decide⟩
theorem g_i240 : Cond.instanceMethod g_m240.1 ∈ g_tbl := (g_tb6 _ (List.mem_of_getElem? (i := 107) (by decide +kernel)) rfl)
theorem g_v240 : Cond.selects g_m240.1.cls g_m240.1 g_m240.1 ∈ g_tbl := (g_tb0 _ (List.mem_of_getElem? (i := 48) (by decide +kernel)) rfl)
theorem g_w241 : q_MW g_tbl g_m241 2 := ⟨(g_tb9 _ (List.mem_of_getElem? (i := 144) (by decide +kernel)) rfl), (g_tb1 _ (List.mem_of_getElem? (i := 13) (by decide +kernel)) rfl), by decide +kernel, by decide⟩
theorem g_i241 : Cond.instanceMethod g_m241.1 ∈ g_tbl := (g_tb9 _ (List.mem_of_getElem? (i := 142) (by decide +kernel)) rfl)
theorem g_v241 : Cond.selects g_m241.1.cls g_m241.1 g_m241.1 ∈ g_tbl := (g_tb9 _ (List.mem_of_getElem? (i := 143) (by decide +kernel)) rfl)
theorem g_w242 : q_MW g_tbl g_m242 1 := ⟨(g_tb9 _ (List.mem_of_getElem? (i := 195) (by decide +kernel)) rfl), (g_tb1 _ (List.mem_of_getElem? (i := 13) (by decide +kernel)) rfl), by decide +kernel, by decide⟩
theorem g_i242 : Cond.instanceMethod g_m242.1 ∈ g_tbl := (g_tb9 _ (List.mem_of_getElem? (i := 193) (by decide +kernel)) rfl)
theorem g_v242 : Cond.selects g_m242.1.cls g_m242.1 g_m242.1 ∈ g_tbl := (g_tb9 _ (List.mem_of_getElem? (i := 194) (by decide +kernel)) rfl)
theorem g_w243 : q_MW g_tbl g_m243 1 := ⟨(g_tb9 _ (List.mem_of_getElem? (i := 172) (by decide +kernel)) rfl), (g_tb1 _ (List.mem_of_getElem? (i := 13) (by decide +kernel)) rfl), by decide +kernel, by decide⟩
theorem g_i243 : Cond.instanceMethod g_m243.1 ∈ g_tbl := (g_tb9 _ (List.mem_of_getElem? (i := 170) (by decide +kernel)) rfl)
theorem g_v243 : Cond.selects g_m243.1.cls g_m243.1 g_m243.1 ∈ g_tbl := (g_tb9 _ (List.mem_of_getElem? (i := 171) (by decide +kernel)) rfl)
theorem g_w244 : q_MW g_tbl g_m244 1 := ⟨(g_tb9 _ (List.mem_of_getElem? (i := 204) (by decide +kernel)) rfl), (g_tb1 _ (List.mem_of_getElem? (i := 13) (by decide +kernel)) rfl), by decide +kernel, by decide⟩
theorem g_i244 : Cond.instanceMethod g_m244.1 ∈ g_tbl := (g_tb9 _ (List.mem_of_getElem? (i := 203) (by decide +kernel)) rfl)
theorem g_v244 : Cond.selects g_m244.1.cls g_m244.1 g_m244.1 ∈ g_tbl := (g_tb0 _ (List.mem_of_getElem? (i := 119) (by decide +kernel)) rfl)
theorem g_w245 : q_MW g_tbl g_m245 0 := ⟨(g_tb6 _ (List.mem_of_getElem? (i := 100) (by decide +kernel)) rfl), (g_tb1 _ (List.mem_of_getElem? (i := 13) (by decide +kernel)) rfl), by decide +kernel, by decide⟩
theorem g_i245 : Cond.instanceMethod g_m245.1 ∈ g_tbl := (g_tb6 _ (List.mem_of_getElem? (i := 99) (by decide +kernel)) rfl)
theorem g_v245 : Cond.selects g_m245.1.cls g_m245.1 g_m245.1 ∈ g_tbl := (g_tb0 _ (List.mem_of_getElem? (i := 46) (by decide +kernel)) rfl)
theorem g_w246 : q_MW g_tbl g_m246 1 := ⟨(g_tb9 _ (List.mem_of_getElem? (i := 74) (by decide +kernel)) rfl), (g_tb1 _ (List.mem_of_getElem? (i := 13) (by decide +kernel)) rfl), by decide +kernel, by decide⟩
theorem g_i246 : Cond.instanceMethod g_m246.1 ∈ g_tbl := (g_tb9 _ (List.mem_of_getElem? (i := 73) (by decide +kernel)) rfl)
theorem g_v246 : Cond.selects g_m246.1.cls g_m246.1 g_m246.1 ∈ g_tbl := (g_tb0 _ (List.mem_of_getElem? (i := 112) (by decide +kernel)) rfl)
theorem g_w247 : q_MW g_tbl g_m247 1 := ⟨(g_tb9 _ (List.mem_of_getElem? (i := 220) (by decide +kernel)) rfl), (g_tb1 _ (List.mem_of_getElem? (i := 13) (by decide +kernel)) rfl), by decide +kernel, by decide⟩
theorem g_i247 : Cond.instanceMethod g_m247.1 ∈ g_tbl := (g_tb9 _ (List.mem_of_getElem? (i := 219) (by decide +kernel)) rfl)
theorem g_v247 : Cond.selects g_m247.1.cls g_m247.1 g_m247.1 ∈ g_tbl := (g_tb0 _ (List.mem_of_getElem? (i := 121) (by decide +kernel)) rfl)
theorem g_w248 : q_MW g_tbl g_m248 1 := ⟨(g_tb8 _ (List.mem_of_getElem? (i := 106) (by decide +kernel)) rfl), (g_tb1 _ (List.mem_of_getElem? (i := 13) (by decide +kernel)) rfl), by decide +kernel, by decide⟩
theorem g_i248 : Cond.instanceMethod g_m248.1 ∈ g_tbl := (g_tb8 _ (List.mem_of_getElem? (i := 104) (by decide +kernel)) rfl)
theorem g_v248 : Cond.selects g_m248.1.cls g_m248.1 g_m248.1 ∈ g_tbl := (g_tb8 _ (List.mem_of_getElem? (i := 105) (by decide +kernel)) rfl)
theorem g_w249 : q_MW g_tbl g_m249 1 := ⟨(g_tb8 _ (List.mem_of_getElem? (i := 114) (by decide +kernel)) rfl), (g_tb1 _ (List.mem_of_getElem? (i := 13) (by decide +kernel)) rfl), by decide +kernel, by decide⟩
theorem g_i249 : Cond.instanceMethod g_m249.1 ∈ g_tbl := (g_tb8 _ (List.mem_of_getElem? (i := 113) (by decide +kernel)) rfl)
theorem g_v249 : Cond.selects g_m249.1.cls g_m249.1 g_m249.1 ∈ g_tbl := (g_tb0 _ (List.mem_of_getElem? (i := 87) (by decide +kernel)) rfl)
theorem g_w250 : q_MW g_tbl g_m250 2 := ⟨(g_tb8 _ (List.mem_of_getElem? (i := 118) (by decide +kernel)) rfl), (g_tb1 _ (List.mem_of_getElem? (i := 13) (by decide +kernel)) rfl), by decide +kernel, by decide⟩
theorem g_i250 : Cond.instanceMethod g_m250.1 ∈ g_tbl := (g_tb8 _ (List.mem_of_getElem? (i := 117) (by decide +kernel)) rfl)
theorem g_v250 : Cond.selects g_m250.1.cls g_m250.1 g_m250.1 ∈ g_tbl := (g_tb0 _ (List.mem_of_getElem? (i := 88) (by decide +kernel)) rfl)
theorem g_w251 : q_MW g_tbl g_m251 2 := ⟨(g_tb8 _ (List.mem_of_getElem? (i := 121) (by decide +kernel)) rfl), (g_tb1 _ (List.mem_of_getElem? (i := 13) (by decide +kernel)) rfl), by decide +kernel, by decide⟩
theorem g_s251 : Cond.static g_m251.1 ∈ g_tbl := (g_tb8 _ (List.mem_of_getElem? (i := 120) (by decide +kernel)) rfl)
theorem g_w252 : q_MW g_tbl g_m252 1 := ⟨(g_tb9 _ (List.mem_of_getElem? (i := 132) (by decide +kernel)) rfl), (g_tb1 _ (List.mem_of_getElem? (i := 13) (by decide +kernel)) rfl), by decide +kernel, by decide⟩
theorem g_i252 : Cond.instanceMethod g_m252.1 ∈ g_tbl := (g_tb9 _ (List.mem_of_getElem? (i := 130) (by decide +kernel)) rfl)
theorem g_v252 : Cond.selects g_m252.1.cls g_m252.1 g_m252.1 ∈ g_tbl := (g_tb9 _ (List.mem_of_getElem? (i := 131) (by decide +kernel)) rfl)
theorem g_w253 : q_MW g_tbl g_m253 1 := ⟨(g_tb9 _ (List.mem_of_getElem? (i := 183) (by decide +kernel)) rfl), (g_tb1 _ (List.mem_of_getElem? (i := 13) (by decide +kernel)) rfl), by decide +kernel, by decide⟩
theorem g_i253 : Cond.instanceMethod g_m253.1 ∈ g_tbl := (g_tb9 _ (List.mem_of_getElem? (i := 181) (by decide +kernel)) rfl)
theorem g_v253 : Cond.selects g_m253.1.cls g_m253.1 g_m253.1 ∈ g_tbl := (g_tb9 _ (List.mem_of_getElem? (i := 182) (by decide +kernel)) rfl)
theorem g_w254 : q_MW g_tbl g_m254 0 := ⟨(g_tb9 _ (List.mem_of_getElem? (i := 168) (by decide +kernel)) rfl), (g_tb1 _ (List.mem_of_getElem? (i := 13) (by decide +kernel)) rfl), by decide +kernel, by decide⟩
theorem g_i254 : Cond.instanceMethod g_m254.1 ∈ g_tbl := (g_tb9 _ (List.mem_of_getElem? (i := 166) (by decide +kernel)) rfl)
theorem g_v254 : Cond.selects g_m254.1.cls g_m254.1 g_m254.1 ∈ g_tbl := (g_tb9 _ (List.mem_of_getElem? (i := 167) (by decide +kernel)) rfl)
theorem g_w255 : q_MW g_tbl g_m255 0 := ⟨(g_tb9 _ (List.mem_of_getElem? (i := 26) (by decide +kernel)) rfl), (g_tb1 _ (List.mem_of_getElem? (i := 13) (by decide +kernel)) rfl), by decide +kernel, by decide⟩
theorem g_i255 : Cond.instanceMethod g_m255.1 ∈ g_tbl := (g_tb9 _ (List.mem_of_getElem? (i := 24) (by decide +kernel)) rfl)
theorem g_v255 : Cond.selects g_m255.1.cls g_m255.1 g_m255.1 ∈ g_tbl := (g_tb9 _ (List.mem_of_getElem? (i := 25) (by decide +kernel)) rfl)
theorem g_w256 : q_MW g_tbl g_m256 0 := ⟨(g_tb9 _ (List.mem_of_getElem? (i := 30) (by decide +kernel)) rfl), (g_tb1 _ (List.mem_of_getElem? (i := 13) (by decide +kernel)) rfl), by decide +kernel, by decide⟩
theorem g_i256 : Cond.instanceMethod g_m256.1 ∈ g_tbl := (g_tb9 _ (List.mem_of_getElem? (i := 29) (by decide +kernel)) rfl)
theorem g_v256 : Cond.selects g_m256.1.cls g_m256.1 g_m256.1 ∈ g_tbl := (g_tb0 _ (List.mem_of_getElem? (i := 105) (by decide +kernel)) rfl)
theorem g_w257 : q_MW g_tbl g_m257 0 := ⟨(g_tb8 _ (List.mem_of_getElem? (i := 6) (by decide +kernel)) rfl), (g_tb1 _ (List.mem_of_getElem? (i := 13) (by decide +kernel)) rfl), by decide +kernel, by decide⟩
theorem g_i257 : Cond.instanceMethod g_m257.1 ∈ g_tbl := (g_tb8 _ (List.mem_of_getElem? (i := 5) (by decide +kernel)) rfl)
theorem g_v257 : Cond.selects g_m257.1.cls g_m257.1 g_m257.1 ∈ g_tbl := (g_tb0 _ (List.mem_of_getElem? (i := 69) (by decide +kernel)) rfl)
theorem g_w258 : q_MW g_tbl g_m258 3 := ⟨(g_tb7 _ (List.mem_of_getElem? (i := 226) (by decide +kernel)) rfl), (g_tb1 _ (List.mem_of_getElem? (i := 13) (by decide +kernel)) rfl), by decide +kernel, by decide⟩
theorem g_i258 : Cond.instanceMethod g_m258.1 ∈ g_tbl := (g_tb7 _ (List.mem_of_getElem? (i := 225) (by decide +kernel)) rfl)
theorem g_v258 : Cond.selects g_m258.1.cls g_m258.1 g_m258.1 ∈ g_tbl := (g_tb0 _ (List.mem_of_getElem? (i := 64) (by decide +kernel)) rfl)
theorem g_w259 : q_MW g_tbl g_m259 1 := ⟨(g_tb8 _ (List.mem_of_getElem? (i := 193) (by decide +kernel)) rfl), (g_tb1 _ (List.mem_of_getElem? (i := 13) (by decide +kernel)) rfl), by decide +kernel, by decide⟩
theorem g_s259 : Cond.static g_m259.1 ∈ g_tbl := (g_tb8 _ (List.mem_of_getElem? (i := 192) (by decide +kernel)) rfl)
theorem g_w260 : q_MW g_tbl g_m260 0 := ⟨(g_tb8 _ (List.mem_of_getElem? (i := 134) (by decide +kernel)) rfl), (g_tb1 _ (List.mem_of_getElem? (i := 13) (by decide +kernel)) rfl), by decide +kernel, by decide⟩
theorem g_i260 : Cond.instanceMethod g_m260.1 ∈ g_tbl := (g_tb8 _ (List.mem_of_getElem? (i := 132) (by decide +kernel)) rfl)
theorem g_v260 : Cond.selects g_m260.1.cls g_m260.1 g_m260.1 ∈ g_tbl := (g_tb8 _ (List.mem_of_getElem? (i := 133) (by decide +kernel)) rfl)
theorem g_w261 : q_MW g_tbl g_m261 1 := ⟨(g_tb8 _ (List.mem_of_getElem? (i := 162) (by decide +kernel)) rfl), (g_tb1 _ (List.mem_of_getElem? (i := 13) (by decide +kernel)) rfl), by decide +kernel, by decide⟩
theorem g_i261 : Cond.instanceMethod g_m261.1 ∈ g_tbl := (g_tb8 _ (List.mem_of_getElem? (i := 161) (by decide +kernel)) rfl)
theorem g_v261 : Cond.selects g_m261.1.cls g_m261.1 g_m261.1 ∈ g_tbl := (g_tb0 _ (List.mem_of_getElem? (i := 95) (by decide +kernel)) rfl)
theorem g_w262 : q_MW g_tbl g_m262 0 := ⟨(g_tb9 _ (List.mem_of_getElem? (i := 17) (by decide +kernel)) rfl), (g_tb1 _ (List.mem_of_getElem? (i := 13) (by decide +kernel)) rfl), by decide +kernel, by decide⟩
theorem g_i262 : Cond.instanceMethod g_m262.1 ∈ g_tbl := (g_tb9 _ (List.mem_of_getElem? (i := 15) (by decide +kernel)) rfl)
theorem g_v262 : Cond.selects g_m262.1.cls g_m262.1 g_m262.1 ∈ g_tbl := (g_tb9 _ (List.mem_of_getElem? (i := 16) (by decide +kernel)) rfl)
theorem g_w263 : q_MW g_tbl g_m263 2 := ⟨(g_tb7 _ (List.mem_of_getElem? (i := 178) (by decide +kernel)) rfl), (g_tb1 _ (List.mem_of_getElem? (i := 13) (by decide +kernel)) rfl), by decide +kernel, by decide⟩
theorem g_i263 : Cond.instanceMethod g_m263.1 ∈ g_tbl := (g_tb7 _ (List.mem_of_getElem? (i := 177) (by decide +kernel)) rfl)
theorem g_v263 : Cond.selects g_m263.1.cls g_m263.1 g_m263.1 ∈ g_tbl := (g_tb0 _ (List.mem_of_getElem? (i := 56) (by decide +kernel)) rfl)
theorem g_w264 : q_MW g_tbl g_m264 1 := ⟨(g_tb9 _ (List.mem_of_getElem? (i := 42) (by decide +kernel)) rfl), (g_tb1 _ (List.mem_of_getElem? (i := 13) (by decide +kernel)) rfl), by decide +kernel, by decide⟩
theorem g_i264 : Cond.instanceMethod g_m264.1 ∈ g_tbl := (g_tb9 _ (List.mem_of_getElem? (i := 41) (by decide +kernel)) rfl)
theorem g_v264 : Cond.selects g_m264.1.cls g_m264.1 g_m264.1 ∈ g_tbl := (g_tb0 _ (List.mem_of_getElem? (i := 107) (by decide +kernel)) rfl)
theorem g_w265 : q_MW g_tbl g_m265 2 := ⟨(g_tb9 _ (List.mem_of_getElem? (i := 176) (by decide +kernel)) rfl), (g_tb1 _ (List.mem_of_getElem? (i := 13) (by decide +kernel)) rfl), by decide +kernel, by decide⟩
theorem g_i265 : Cond.instanceMethod g_m265.1 ∈ g_tbl := (g_tb9 _ (List.mem_of_getElem? (i := 174) (by decide +kernel)) rfl)
theorem g_v265 : Cond.selects g_m265.1.cls g_m265.1 g_m265.1 ∈ g_tbl := (g_tb9 _ (List.mem_of_getElem? (i := 175) (by decide +kernel)) rfl)
theorem g_w266 : q_MW g_tbl g_m266 0 := ⟨(g_tb7 _ (List.mem_of_getElem? (i := 234) (by decide +kernel)) rfl), (g_tb1 _ (List.mem_of_getElem? (i := 13) (by decide +kernel)) rfl), by decide +kernel, by decide⟩
theorem g_i266 : Cond.instanceMethod g_m266.1 ∈ g_tbl := (g_tb7 _ (List.mem_of_getElem? (i := 233) (by decide +kernel)) rfl)
theorem g_v266 : Cond.selects g_m266.1.cls g_m266.1 g_m266.1 ∈ g_tbl := (g_tb0 _ (List.mem_of_getElem? (i := 66) (by decide +kernel)) rfl)
theorem g_w267 : q_MW g_tbl g_m267 1 := ⟨(g_tb8 _ (List.mem_of_getElem? (i := 13) (by decide +kernel)) rfl), (g_tb1 _ (List.mem_of_getElem? (i := 13) (by decide +kernel)) rfl), by decide +kernel, by decide⟩
theorem g_i267 : Cond.instanceMethod g_m267.1 ∈ g_tbl := (g_tb8 _ (List.mem_of_getElem? (i := 12) (by decide +kernel)) rfl)
theorem g_v267 : Cond.selects g_m267.1.cls g_m267.1 g_m267.1 ∈ g_tbl := (g_tb0 _ (List.mem_of_getElem? (i := 70) (by decide +kernel)) rfl)
theorem g_w268 : q_MW g_tbl g_m268 1 := ⟨(g_tb9 _ (List.mem_of_getElem? (i := 9) (by decide +kernel)) rfl), (g_tb1 _ (List.mem_of_getElem? (i := 13) (by decide +kernel)) rfl), by decide +kernel, by decide⟩
theorem g_s268 : Cond.static g_m268.1 ∈ g_tbl := (g_tb9 _ (List.mem_of_getElem? (i := 8) (by decide +kernel)) rfl)
theorem g_w269 : q_MW g_tbl g_m269 0 := ⟨(g_tb9 _ (List.mem_of_getElem? (i := 34) (by decide +kernel)) rfl), (g_tb1 _ (List.mem_of_getElem? (i := 13) (by decide +kernel)) rfl), by decide +kernel, by decide⟩
theorem g_i269 : Cond.instanceMethod g_m269.1 ∈ g_tbl := (g_tb9 _ (List.mem_of_getElem? (i := 32) (by decide +kernel)) rfl)
theorem g_v269 : Cond.selects g_m269.1.cls g_m269.1 g_m269.1 ∈ g_tbl := (g_tb9 _ (List.mem_of_getElem? (i := 33) (by decide +kernel)) rfl)
theorem g_w270 : q_MW g_tbl g_m270 1 := ⟨(g_tb9 _ (List.mem_of_getElem? (i := 121) (by decide +kernel)) rfl), (g_tb1 _ (List.mem_of_getElem? (i := 13) (by decide +kernel)) rfl), by decide +kernel, by decide⟩
theorem g_s270 : Cond.static g_m270.1 ∈ g_tbl := (g_tb9 _ (List.mem_of_getElem? (i := 120) (by decide +kernel)) rfl)
theorem g_w271 : q_MW g_tbl g_m271 2 := ⟨(g_tb8 _ (List.mem_of_getElem? (i := 82) (by decide +kernel)) rfl), (g_tb1 _ (List.mem_of_getElem? (i := 13) (by decide +kernel)) rfl), by decide +kernel, by decide⟩
theorem g_i271 : Cond.instanceMethod g_m271.1 ∈ g_tbl := (g_tb8 _ (List.mem_of_getElem? (i := 80) (by decide +kernel)) rfl)
theorem g_v271 : Cond.selects g_m271.1.cls g_m271.1 g_m271.1 ∈ g_tbl := (g_tb8 _ (List.mem_of_getElem? (i := 81) (by decide +kernel)) rfl)
theorem g_w272 : q_MW g_tbl g_m272 1 := ⟨(g_tb8 _ (List.mem_of_getElem? (i := 90) (by decide +kernel)) rfl), (g_tb1 _ (List.mem_of_getElem? (i := 13) (by decide +kernel)) rfl), by decide +kernel, by decide⟩
theorem g_i272 : Cond.instanceMethod g_m272.1 ∈ g_tbl := (g_tb8 _ (List.mem_of_getElem? (i := 89) (by decide +kernel)) rfl)
theorem g_v272 : Cond.selects g_m272.1.cls g_m272.1 g_m272.1 ∈ g_tbl := (g_tb0 _ (List.mem_of_getElem? (i := 84) (by decide +kernel)) rfl)
theorem g_w273 : q_MW g_tbl g_m273 2 := ⟨(g_tb9 _ (List.mem_of_getElem? (i := 179) (by decide +kernel)) rfl), (g_tb1 _ (List.mem_of_getElem? (i := 13) (by decide +kernel)) rfl), by decide +kernel, by decide⟩
theorem g_s273 : Cond.static g_m273.1 ∈ g_tbl := (g_tb9 _ (List.mem_of_getElem? (i := 178) (by decide +kernel)) rfl)
theorem g_w274 : q_MW g_tbl g_m274 1 := ⟨(g_tb8 _ (List.mem_of_getElem? (i := 217) (by decide +kernel)) rfl), (g_tb1 _ (List.mem_of_getElem? (i := 13) (by decide +kernel)) rfl), by decide +kernel, by decide⟩
theorem g_i274 : Cond.instanceMethod g_m274.1 ∈ g_tbl := (g_tb8 _ (List.mem_of_getElem? (i := 216) (by decide +kernel)) rfl)
theorem g_v274 : Cond.selects g_m274.1.cls g_m274.1 g_m274.1 ∈ g_tbl := (g_tb0 _ (List.mem_of_getElem? (i := 102) (by decide +kernel)) rfl)
theorem g_w275 : q_MW g_tbl g_m275 0 := ⟨(g_tb7 _ (List.mem_of_getElem? (i := 140) (by decide +kernel)) rfl), (g_tb1 _ (List.mem_of_getElem? (i := 13) (by decide +kernel)) rfl), by decide +kernel, by decide⟩
theorem g_i275 : Cond.instanceMethod g_m275.1 ∈ g_tbl := (g_tb7 _ (List.mem_of_getElem? (i := 138) (by decide +kernel)) rfl)
theorem g_v275 : Cond.selects g_m275.1.cls g_m275.1 g_m275.1 ∈ g_tbl := (g_tb7 _ (List.mem_of_getElem? (i := 139) (by decide +kernel)) rfl)
theorem g_w276 : q_MW g_tbl g_m276 1 := ⟨(g_tb8 _ (List.mem_of_getElem? (i := 98) (by decide +kernel)) rfl), (g_tb1 _ (List.mem_of_getElem? (i := 13) (by decide +kernel)) rfl), by decide +kernel, by decide⟩
theorem g_i276 : Cond.instanceMethod g_m276.1 ∈ g_tbl := (g_tb8 _ (List.mem_of_getElem? (i := 96) (by decide +kernel)) rfl)
theorem g_v276 : Cond.selects g_m276.1.cls g_m276.1 g_m276.1 ∈ g_tbl := (g_tb8 _ (List.mem_of_getElem? (i := 97) (by decide +kernel)) rfl)
theorem g_w277 : q_MW g_tbl g_m277 0 := ⟨(g_tb8 _ (List.mem_of_getElem? (i := 94) (by decide +kernel)) rfl), (g_tb1 _ (List.mem_of_getElem? (i := 13) (by decide +kernel)) rfl), by decide +kernel, by decide⟩
theorem g_i277 : Cond.instanceMethod g_m277.1 ∈ g_tbl := (g_tb8 _ (List.mem_of_getElem? (i := 93) (by decide +kernel)) rfl)
theorem g_v277 : Cond.selects g_m277.1.cls g_m277.1 g_m277.1 ∈ g_tbl := (g_tb0 _ (List.mem_of_getElem? (i := 85) (by decide +kernel)) rfl)
theorem g_w278 : q_MW g_tbl g_m278 0 := ⟨(g_tb9 _ (List.mem_of_getElem? (i := 58) (by decide +kernel)) rfl), (g_tb1 _ (List.mem_of_getElem? (i := 13) (by decide +kernel)) rfl), by decide +kernel, by decide⟩
theorem g_i278 : Cond.instanceMethod g_m278.1 ∈ g_tbl := (g_tb9 _ (List.mem_of_getElem? (i := 57) (by decide +kernel)) rfl)
theorem g_v278 : Cond.selects g_m278.1.cls g_m278.1 g_m278.1 ∈ g_tbl := (g_tb0 _ (List.mem_of_getElem? (i := 109) (by decide +kernel)) rfl)
theorem g_w279 : q_MW g_tbl g_m279 2 := ⟨(g_tb8 _ (List.mem_of_getElem? (i := 102) (by decide +kernel)) rfl), (g_tb1 _ (List.mem_of_getElem? (i := 13) (by decide +kernel)) rfl), by decide +kernel, by decide⟩
theorem g_i279 : Cond.instanceMethod g_m279.1 ∈ g_tbl := (g_tb8 _ (List.mem_of_getElem? (i := 100) (by decide +kernel)) rfl)
theorem g_v279 : Cond.selects g_m279.1.cls g_m279.1 g_m279.1 ∈ g_tbl := (g_tb8 _ (List.mem_of_getElem? (i := 101) (by decide +kernel)) rfl)
theorem g_w280 : q_MW g_tbl g_m280 0 := ⟨(g_tb9 _ (List.mem_of_getElem? (i := 62) (by decide +kernel)) rfl), (g_tb1 _ (List.mem_of_getElem? (i := 13) (by decide +kernel)) rfl), by decide +kernel, by decide⟩
theorem g_i280 : Cond.instanceMethod g_m280.1 ∈ g_tbl := (g_tb9 _ (List.mem_of_getElem? (i := 61) (by decide +kernel)) rfl)
theorem g_v280 : Cond.selects g_m280.1.cls g_m280.1 g_m280.1 ∈ g_tbl := (g_tb0 _ (List.mem_of_getElem? (i := 110) (by decide +kernel)) rfl)
theorem g_w281 : q_MW g_tbl g_m281 0 := ⟨(g_tb7 _ (List.mem_of_getElem? (i := 144) (by decide +kernel)) rfl), (g_tb1 _ (List.mem_of_getElem? (i := 13) (by decide +kernel)) rfl), by decide +kernel, by decide⟩
theorem g_i281 : Cond.instanceMethod g_m281.1 ∈ g_tbl := (g_tb7 _ (List.mem_of_getElem? (i := 143) (by decide +kernel)) rfl)
theorem g_v281 : Cond.selects g_m281.1.cls g_m281.1 g_m281.1 ∈ g_tbl := (g_tb0 _ (List.mem_of_getElem? (i := 50) (by decide +kernel)) rfl)
theorem g_w282 : q_MW g_tbl g_m282 0 := ⟨(g_tb7 _ (List.mem_of_getElem? (i := 165) (by decide +kernel)) rfl), (g_tb1 _ (List.mem_of_getElem? (i := 13) (by decide +kernel)) rfl), by decide +kernel, by decide⟩
theorem g_i282 : Cond.instanceMethod g_m282.1 ∈ g_tbl := (g_tb7 _ (List.mem_of_getElem? (i := 164) (by decide +kernel)) rfl)
theorem g_v282 : Cond.selects g_m282.1.cls g_m282.1 g_m282.1 ∈ g_tbl := (g_tb0 _ (List.mem_of_getElem? (i := 53) (by decide +kernel)) rfl)
theorem g_w283 : q_MW g_tbl g_m283 0 := ⟨(g_tb7 _ (List.mem_of_getElem? (i := 230) (by decide +kernel)) rfl), (g_tb1 _ (List.mem_of_getElem? (i := 13) (by decide +kernel)) rfl), by decide +kernel, by decide⟩
theorem g_i283 : Cond.instanceMethod g_m283.1 ∈ g_tbl := (g_tb7 _ (List.mem_of_getElem? (i := 229) (by decide +kernel)) rfl)
theorem g_v283 : Cond.selects g_m283.1.cls g_m283.1 g_m283.1 ∈ g_tbl := (g_tb0 _ (List.mem_of_getElem? (i := 65) (by decide +kernel)) rfl)
theorem g_w284 : q_MW g_tbl g_m284 0 := ⟨(g_tb7 _ (List.mem_of_getElem? (i := 174) (by decide +kernel)) rfl), (g_tb1 _ (List.mem_of_getElem? (i := 13) (by decide +kernel)) rfl), by decide +kernel, by decide⟩
theorem g_i284 : Cond.instanceMethod g_m284.1 ∈ g_tbl := (g_tb7 _ (List.mem_of_getElem? (i := 173) (by decide +kernel)) rfl)
theorem g_v284 : Cond.selects g_m284.1.cls g_m284.1 g_m284.1 ∈ g_tbl := (g_tb0 _ (List.mem_of_getElem? (i := 55) (by decide +kernel)) rfl)
theorem g_w285 : q_MW g_tbl g_m285 0 := ⟨(g_tb8 _ (List.mem_of_getElem? (i := 233) (by decide +kernel)) rfl), (g_tb1 _ (List.mem_of_getElem? (i := 13) (by decide +kernel)) rfl), by decide +kernel, by decide⟩
theorem g_i285 : Cond.instanceMethod g_m285.1 ∈ g_tbl := (g_tb8 _ (List.mem_of_getElem? (i := 231) (by decide +kernel)) rfl)
theorem g_v285 : Cond.selects g_m285.1.cls g_m285.1 g_m285.1 ∈ g_tbl := (g_tb8 _ (List.mem_of_getElem? (i := 232) (by decide +kernel)) rfl)
theorem g_w286 : q_MW g_tbl g_m286 0 := ⟨(g_tb9 _ (List.mem_of_getElem? (i := 140) (by decide +kernel)) rfl), (g_tb1 _ (List.mem_of_getElem? (i := 13) (by decide +kernel)) rfl), by decide +kernel, by decide⟩
theorem g_i286 : Cond.instanceMethod g_m286.1 ∈ g_tbl := (g_tb9 _ (List.mem_of_getElem? (i := 138) (by decide +kernel)) rfl)
theorem g_v286 : Cond.selects g_m286.1.cls g_m286.1 g_m286.1 ∈ g_tbl := (g_tb9 _ (List.mem_of_getElem? (i := 139) (by decide +kernel)) rfl)
theorem g_w287 : q_MW g_tbl g_m287 1 := ⟨(g_tb9 _ (List.mem_of_getElem? (i := 98) (by decide +kernel)) rfl), (g_tb1 _ (List.mem_of_getElem? (i := 13) (by decide +kernel)) rfl), by decide +kernel, by decide⟩
theorem g_i287 : Cond.instanceMethod g_m287.1 ∈ g_tbl := (g_tb9 _ (List.mem_of_getElem? (i := 97) (by decide +kernel)) rfl)
theorem g_v287 : Cond.selects g_m287.1.cls g_m287.1 g_m287.1 ∈ g_tbl := (g_tb0 _ (List.mem_of_getElem? (i := 114) (by decide +kernel)) rfl)
theorem g_w288 : q_MW g_tbl g_m288 1 := ⟨(g_tb9 _ (List.mem_of_getElem? (i := 5) (by decide +kernel)) rfl), (g_tb1 _ (List.mem_of_getElem? (i := 13) (by decide +kernel)) rfl), by decide +kernel, by decide⟩
theorem g_i288 : Cond.instanceMethod g_m288.1 ∈ g_tbl := (g_tb9 _ (List.mem_of_getElem? (i := 4) (by decide +kernel)) rfl)
theorem g_v288 : Cond.selects g_m288.1.cls g_m288.1 g_m288.1 ∈ g_tbl := (g_tb0 _ (List.mem_of_getElem? (i := 104) (by decide +kernel)) rfl)
theorem g_w289 : q_MW g_tbl g_m289 1 := ⟨(g_tb9 _ (List.mem_of_getElem? (i := 136) (by decide +kernel)) rfl), (g_tb1 _ (List.mem_of_getElem? (i := 13) (by decide +kernel)) rfl), by decide +kernel, by decide⟩
theorem g_i289 : Cond.instanceMethod g_m289.1 ∈ g_tbl := (g_tb9 _ (List.mem_of_getElem? (i := 135) (by decide +kernel)) rfl)
theorem g_v289 : Cond.selects g_m289.1.cls g_m289.1 g_m289.1 ∈ g_tbl := (g_tb0 _ (List.mem_of_getElem? (i := 118) (by decide +kernel)) rfl)
theorem g_w290 : q_MW g_tbl g_m290 0 := ⟨(g_tb8 _ (List.mem_of_getElem? (i := 190) (by decide +kernel)) rfl), (g_tb1 _ (List.mem_of_getElem? (i := 13) (by decide +kernel)) rfl), by decide +kernel, by decide⟩
theorem g_i290 : Cond.instanceMethod g_m290.1 ∈ g_tbl := (g_tb8 _ (List.mem_of_getElem? (i := 189) (by decide +kernel)) rfl)
theorem g_v290 : Cond.selects g_m290.1.cls g_m290.1 g_m290.1 ∈ g_tbl := (g_tb0 _ (List.mem_of_getElem? (i := 100) (by decide +kernel)) rfl)
theorem g_w291 : q_MW g_tbl g_m291 1 := ⟨(g_tb8 _ (List.mem_of_getElem? (i := 71) (by decide +kernel)) rfl), (g_tb1 _ (List.mem_of_getElem? (i := 13) (by decide +kernel)) rfl), by decide +kernel, by decide⟩
theorem g_i291 : Cond.instanceMethod g_m291.1 ∈ g_tbl := (g_tb8 _ (List.mem_of_getElem? (i := 70) (by decide +kernel)) rfl)
theorem g_v291 : Cond.selects g_m291.1.cls g_m291.1 g_m291.1 ∈ g_tbl := (g_tb0 _ (List.mem_of_getElem? (i := 81) (by decide +kernel)) rfl)
theorem g_w292 : q_MW g_tbl g_m292 1 := ⟨(g_tb9 _ (List.mem_of_getElem? (i := 1) (by decide +kernel)) rfl), (g_tb1 _ (List.mem_of_getElem? (i := 13) (by decide +kernel)) rfl), by decide +kernel, by decide⟩
theorem g_i292 : Cond.instanceMethod g_m292.1 ∈ g_tbl := (g_tb8 _ (List.mem_of_getElem? (i := 239) (by decide +kernel)) rfl)
theorem g_v292 : Cond.selects g_m292.1.cls g_m292.1 g_m292.1 ∈ g_tbl := (g_tb9 _ (List.mem_of_getElem? (i := 0) (by decide +kernel)) rfl)
theorem g_w293 : q_MW g_tbl g_m293 1 := ⟨(g_tb9 _ (List.mem_of_getElem? (i := 106) (by decide +kernel)) rfl), (g_tb1 _ (List.mem_of_getElem? (i := 13) (by decide +kernel)) rfl), by decide +kernel, by decide⟩
theorem g_i293 : Cond.instanceMethod g_m293.1 ∈ g_tbl := (g_tb9 _ (List.mem_of_getElem? (i := 105) (by decide +kernel)) rfl)
theorem g_v293 : Cond.selects g_m293.1.cls g_m293.1 g_m293.1 ∈ g_tbl := (g_tb0 _ (List.mem_of_getElem? (i := 115) (by decide +kernel)) rfl)
theorem g_w294 : q_MW g_tbl g_m294 2 := ⟨(g_tb9 _ (List.mem_of_getElem? (i := 110) (by decide +kernel)) rfl), (g_tb1 _ (List.mem_of_getElem? (i := 13) (by decide +kernel)) rfl), by decide +kernel, by decide⟩
theorem g_i294 : Cond.instanceMethod g_m294.1 ∈ g_tbl := (g_tb9 _ (List.mem_of_getElem? (i := 109) (by decide +kernel)) rfl)
theorem g_v294 : Cond.selects g_m294.1.cls g_m294.1 g_m294.1 ∈ g_tbl := (g_tb0 _ (List.mem_of_getElem? (i := 116) (by decide +kernel)) rfl)
theorem g_w295 : q_MW g_tbl g_m295 0 := ⟨(g_tb9 _ (List.mem_of_getElem? (i := 148) (by decide +kernel)) rfl), (g_tb1 _ (List.mem_of_getElem? (i := 13) (by decide +kernel)) rfl), by decide +kernel, by decide⟩
theorem g_i295 : Cond.instanceMethod g_m295.1 ∈ g_tbl := (g_tb9 _ (List.mem_of_getElem? (i := 146) (by decide +kernel)) rfl)
theorem g_v295 : Cond.selects g_m295.1.cls g_m295.1 g_m295.1 ∈ g_tbl := (g_tb9 _ (List.mem_of_getElem? (i := 147) (by decide +kernel)) rfl)
theorem g_w296 : q_MW g_tbl g_m296 3 := ⟨(g_tb9 _ (List.mem_of_getElem? (i := 187) (by decide +kernel)) rfl), (g_tb1 _ (List.mem_of_getElem? (i := 13) (by decide +kernel)) rfl), by decide +kernel, by decide⟩
theorem g_i296 : Cond.instanceMethod g_m296.1 ∈ g_tbl := (g_tb9 _ (List.mem_of_getElem? (i := 185) (by decide +kernel)) rfl)
theorem g_v296 : Cond.selects g_m296.1.cls g_m296.1 g_m296.1 ∈ g_tbl := (g_tb9 _ (List.mem_of_getElem? (i := 186) (by decide +kernel)) rfl)
theorem g_w297 : q_MW g_tbl g_m297 2 := ⟨(g_tb8 _ (List.mem_of_getElem? (i := 53) (by decide +kernel)) rfl), (g_tb1 _ (List.mem_of_getElem? (i := 13) (by decide +kernel)) rfl), by decide +kernel, by decide⟩
theorem g_i297 : Cond.instanceMethod g_m297.1 ∈ g_tbl := (g_tb8 _ (List.mem_of_getElem? (i := 51) (by decide +kernel)) rfl)
theorem g_v297 : Cond.selects g_m297.1.cls g_m297.1 g_m297.1 ∈ g_tbl := (g_tb8 _ (List.mem_of_getElem? (i := 52) (by decide +kernel)) rfl)
theorem g_w298 : q_MW g_tbl g_m298 1 := ⟨(g_tb8 _ (List.mem_of_getElem? (i := 197) (by decide +kernel)) rfl), (g_tb1 _ (List.mem_of_getElem? (i := 13) (by decide +kernel)) rfl), by decide +kernel, by decide⟩
theorem g_i298 : Cond.instanceMethod g_m298.1 ∈ g_tbl := (g_tb8 _ (List.mem_of_getElem? (i := 195) (by decide +kernel)) rfl)
theorem g_v298 : Cond.selects g_m298.1.cls g_m298.1 g_m298.1 ∈ g_tbl := (g_tb8 _ (List.mem_of_getElem? (i := 196) (by decide +kernel)) rfl)
theorem g_w299 : q_MW g_tbl g_m299 1 := ⟨(g_tb9 _ (List.mem_of_getElem? (i := 54) (by decide +kernel)) rfl), (g_tb1 _ (List.mem_of_getElem? (i := 13) (by decide +kernel)) rfl), by decide +kernel, by decide⟩
theorem g_i299 : Cond.instanceMethod g_m299.1 ∈ g_tbl := (g_tb9 _ (List.mem_of_getElem? (i := 52) (by decide +kernel)) rfl)
theorem g_v299 : Cond.selects g_m299.1.cls g_m299.1 g_m299.1 ∈ g_tbl := (g_tb9 _ (List.mem_of_getElem? (i := 53) (by decide +kernel)) rfl)
theorem g_w300 : q_MW g_tbl g_m300 0 := ⟨(g_tb8 _ (List.mem_of_getElem? (i := 33) (by decide +kernel)) rfl), (g_tb1 _ (List.mem_of_getElem? (i := 13) (by decide +kernel)) rfl), by decide +kernel, by decide⟩
theorem g_i300 : Cond.instanceMethod g_m300.1 ∈ g_tbl := (g_tb8 _ (List.mem_of_getElem? (i := 32) (by decide +kernel)) rfl)
theorem g_v300 : Cond.selects g_m300.1.cls g_m300.1 g_m300.1 ∈ g_tbl := (g_tb0 _ (List.mem_of_getElem? (i := 75) (by decide +kernel)) rfl)
theorem g_w301 : q_MW g_tbl g_m301 0 := ⟨(g_tb9 _ (List.mem_of_getElem? (i := 156) (by decide +kernel)) rfl), (g_tb1 _ (List.mem_of_getElem? (i := 13) (by decide +kernel)) rfl), by decide +kernel, by decide⟩
theorem g_i301 : Cond.instanceMethod g_m301.1 ∈ g_tbl := (g_tb9 _ (List.mem_of_getElem? (i := 154) (by decide +kernel)) rfl)
theorem g_v301 : Cond.selects g_m301.1.cls g_m301.1 g_m301.1 ∈ g_tbl := (g_tb9 _ (List.mem_of_getElem? (i := 155) (by decide +kernel)) rfl)
theorem g_w302 : q_MW g_tbl g_m302 1 := ⟨(g_tb9 _ (List.mem_of_getElem? (i := 70) (by decide +kernel)) rfl), (g_tb1 _ (List.mem_of_getElem? (i := 13) (by decide +kernel)) rfl), by decide +kernel, by decide⟩
theorem g_i302 : Cond.instanceMethod g_m302.1 ∈ g_tbl := (g_tb9 _ (List.mem_of_getElem? (i := 68) (by decide +kernel)) rfl)
theorem g_v302 : Cond.selects g_m302.1.cls g_m302.1 g_m302.1 ∈ g_tbl := (g_tb9 _ (List.mem_of_getElem? (i := 69) (by decide +kernel)) rfl)
theorem g_w303 : q_MW g_tbl g_m303 1 := ⟨(g_tb9 _ (List.mem_of_getElem? (i := 13) (by decide +kernel)) rfl), (g_tb1 _ (List.mem_of_getElem? (i := 13) (by decide +kernel)) rfl), by decide +kernel, by decide⟩
theorem g_i303 : Cond.instanceMethod g_m303.1 ∈ g_tbl := (g_tb9 _ (List.mem_of_getElem? (i := 11) (by decide +kernel)) rfl)
theorem g_v303 : Cond.selects g_m303.1.cls g_m303.1 g_m303.1 ∈ g_tbl := (g_tb9 _ (List.mem_of_getElem? (i := 12) (by decide +kernel)) rfl)
theorem g_w304 : q_MW g_tbl g_m304 2 := ⟨(g_tb8 _ (List.mem_of_getElem? (i := 154) (by decide +kernel)) rfl), (g_tb1 _ (List.mem_of_getElem? (i := 13) (by decide +kernel)) rfl), by decide +kernel, by decide⟩
theorem g_i304 : Cond.instanceMethod g_m304.1 ∈ g_tbl := (g_tb8 _ (List.mem_of_getElem? (i := 153) (by decide +kernel)) rfl)
theorem g_v304 : Cond.selects g_m304.1.cls g_m304.1 g_m304.1 ∈ g_tbl := (g_tb0 _ (List.mem_of_getElem? (i := 93) (by decide +kernel)) rfl)
theorem g_w305 : q_MW g_tbl g_m305 2 := ⟨(g_tb9 _ (List.mem_of_getElem? (i := 212) (by decide +kernel)) rfl), (g_tb1 _ (List.mem_of_getElem? (i := 13) (by decide +kernel)) rfl), by decide +kernel, by decide⟩
theorem g_i305 : Cond.instanceMethod g_m305.1 ∈ g_tbl := (g_tb9 _ (List.mem_of_getElem? (i := 210) (by decide +kernel)) rfl)
theorem g_v305 : Cond.selects g_m305.1.cls g_m305.1 g_m305.1 ∈ g_tbl := (g_tb9 _ (List.mem_of_getElem? (i := 211) (by decide +kernel)) rfl)
theorem g_w306 : q_MW g_tbl g_m306 1 := ⟨(g_tb9 _ (List.mem_of_getElem? (i := 82) (by decide +kernel)) rfl), (g_tb1 _ (List.mem_of_getElem? (i := 13) (by decide +kernel)) rfl), by decide +kernel, by decide⟩
theorem g_i306 : Cond.instanceMethod g_m306.1 ∈ g_tbl := (g_tb9 _ (List.mem_of_getElem? (i := 80) (by decide +kernel)) rfl)
theorem g_v306 : Cond.selects g_m306.1.cls g_m306.1 g_m306.1 ∈ g_tbl := (g_tb9 _ (List.mem_of_getElem? (i := 81) (by decide +kernel)) rfl)
theorem g_w307 : q_MW g_tbl g_m307 1 := ⟨(g_tb8 _ (List.mem_of_getElem? (i := 158) (by decide +kernel)) rfl), (g_tb1 _ (List.mem_of_getElem? (i := 13) (by decide +kernel)) rfl), by decide +kernel, by decide⟩
theorem g_i307 : Cond.instanceMethod g_m307.1 ∈ g_tbl := (g_tb8 _ (List.mem_of_getElem? (i := 157) (by decide +kernel)) rfl)
theorem g_v307 : Cond.selects g_m307.1.cls g_m307.1 g_m307.1 ∈ g_tbl := (g_tb0 _ (List.mem_of_getElem? (i := 94) (by decide +kernel)) rfl)
theorem g_w308 : q_MW g_tbl g_m308 1 := ⟨(g_tb8 _ (List.mem_of_getElem? (i := 9) (by decide +kernel)) rfl), (g_tb1 _ (List.mem_of_getElem? (i := 13) (by decide +kernel)) rfl), by decide +kernel, by decide⟩
theorem g_s308 : Cond.static g_m308.1 ∈ g_tbl := (g_tb8 _ (List.mem_of_getElem? (i := 8) (by decide +kernel)) rfl)
theorem g_w309 : q_MW g_tbl g_m309 0 := ⟨(g_tb7 _ (List.mem_of_getElem? (i := 148) (by decide +kernel)) rfl), (g_tb1 _ (List.mem_of_getElem? (i := 13) (by decide +kernel)) rfl), by decide +kernel, by decide⟩
theorem g_i309 : Cond.instanceMethod g_m309.1 ∈ g_tbl := (g_tb7 _ (List.mem_of_getElem? (i := 147) (by decide +kernel)) rfl)
theorem g_v309 : Cond.selects g_m309.1.cls g_m309.1 g_m309.1 ∈ g_tbl := (g_tb0 _ (List.mem_of_getElem? (i := 51) (by decide +kernel)) rfl)
theorem g_w310 : q_MW g_tbl g_m310 3 := ⟨(g_tb7 _ (List.mem_of_getElem? (i := 214) (by decide +kernel)) rfl), (g_tb1 _ (List.mem_of_getElem? (i := 13) (by decide +kernel)) rfl), by decide +kernel, by decide⟩
theorem g_i310 : Cond.instanceMethod g_m310.1 ∈ g_tbl := (g_tb7 _ (List.mem_of_getElem? (i := 213) (by decide +kernel)) rfl)
theorem g_v310 : Cond.selects g_m310.1.cls g_m310.1 g_m310.1 ∈ g_tbl := (g_tb0 _ (List.mem_of_getElem? (i := 61) (by decide +kernel)) rfl)
theorem g_w311 : q_MW g_tbl g_m311 2 := ⟨(g_tb7 _ (List.mem_of_getElem? (i := 222) (by decide +kernel)) rfl), (g_tb1 _ (List.mem_of_getElem? (i := 13) (by decide +kernel)) rfl), by decide +kernel, by decide⟩
theorem g_i311 : Cond.instanceMethod g_m311.1 ∈ g_tbl := (g_tb7 _ (List.mem_of_getElem? (i := 221) (by decide +kernel)) rfl)
theorem g_v311 : Cond.selects g_m311.1.cls g_m311.1 g_m311.1 ∈ g_tbl := (g_tb0 _ (List.mem_of_getElem? (i := 63) (by decide +kernel)) rfl)
theorem g_w312 : q_MW g_tbl g_m312 0 := ⟨(g_tb9 _ (List.mem_of_getElem? (i := 94) (by decide +kernel)) rfl), (g_tb1 _ (List.mem_of_getElem? (i := 13) (by decide +kernel)) rfl), by decide +kernel, by decide⟩
theorem g_i312 : Cond.instanceMethod g_m312.1 ∈ g_tbl := (g_tb9 _ (List.mem_of_getElem? (i := 92) (by decide +kernel)) rfl)
theorem g_v312 : Cond.selects g_m312.1.cls g_m312.1 g_m312.1 ∈ g_tbl := (g_tb9 _ (List.mem_of_getElem? (i := 93) (by decide +kernel)) rfl)
theorem g_w313 : q_MW g_tbl g_m313 1 := ⟨(g_tb8 _ (List.mem_of_getElem? (i := 67) (by decide +kernel)) rfl), (g_tb1 _ (List.mem_of_getElem? (i := 13) (by decide +kernel)) rfl), by decide +kernel, by decide⟩
theorem g_s313 : Cond.static g_m313.1 ∈ g_tbl := (g_tb8 _ (List.mem_of_getElem? (i := 66) (by decide +kernel)) rfl)
theorem g_w314 : q_MW g_tbl g_m314 1 := ⟨(g_tb8 _ (List.mem_of_getElem? (i := 201) (by decide +kernel)) rfl), (g_tb1 _ (List.mem_of_getElem? (i := 13) (by decide +kernel)) rfl), by decide +kernel, by decide⟩
theorem g_i314 : Cond.instanceMethod g_m314.1 ∈ g_tbl := (g_tb8 _ (List.mem_of_getElem? (i := 200) (by decide +kernel)) rfl)
theorem g_v314 : Cond.selects g_m314.1.cls g_m314.1 g_m314.1 ∈ g_tbl := (g_tb0 _ (List.mem_of_getElem? (i := 101) (by decide +kernel)) rfl)
theorem g_w315 : q_MW g_tbl g_m315 0 := ⟨(g_tb8 _ (List.mem_of_getElem? (i := 225) (by decide +kernel)) rfl), (g_tb1 _ (List.mem_of_getElem? (i := 13) (by decide +kernel)) rfl), by decide +kernel, by decide⟩
theorem g_i315 : Cond.instanceMethod g_m315.1 ∈ g_tbl := (g_tb8 _ (List.mem_of_getElem? (i := 223) (by decide +kernel)) rfl)
theorem g_v315 : Cond.selects g_m315.1.cls g_m315.1 g_m315.1 ∈ g_tbl := (g_tb8 _ (List.mem_of_getElem? (i := 224) (by decide +kernel)) rfl)
theorem g_w316 : q_MW g_tbl g_m316 0 := ⟨(g_tb8 _ (List.mem_of_getElem? (i := 2) (by decide +kernel)) rfl), (g_tb1 _ (List.mem_of_getElem? (i := 13) (by decide +kernel)) rfl), by decide +kernel, by decide⟩
theorem g_i316 : Cond.instanceMethod g_m316.1 ∈ g_tbl := (g_tb8 _ (List.mem_of_getElem? (i := 1) (by decide +kernel)) rfl)
theorem g_v316 : Cond.selects g_m316.1.cls g_m316.1 g_m316.1 ∈ g_tbl := (g_tb0 _ (List.mem_of_getElem? (i := 68) (by decide +kernel)) rfl)
theorem g_w317 : q_MW g_tbl g_m317 1 := ⟨(g_tb9 _ (List.mem_of_getElem? (i := 191) (by decide +kernel)) rfl), (g_tb1 _ (List.mem_of_getElem? (i := 13) (by decide +kernel)) rfl), by decide +kernel, by decide⟩
theorem g_i317 : Cond.instanceMethod g_m317.1 ∈ g_tbl := (g_tb9 _ (List.mem_of_getElem? (i := 189) (by decide +kernel)) rfl)
theorem g_v317 : Cond.selects g_m317.1.cls g_m317.1 g_m317.1 ∈ g_tbl := (g_tb9 _ (List.mem_of_getElem? (i := 190) (by decide +kernel)) rfl)
theorem g_w318 : q_MW g_tbl g_m318 1 := ⟨(g_tb7 _ (List.mem_of_getElem? (i := 218) (by decide +kernel)) rfl), (g_tb1 _ (List.mem_of_getElem? (i := 13) (by decide +kernel)) rfl), by decide +kernel, by decide⟩
theorem g_i318 : Cond.instanceMethod g_m318.1 ∈ g_tbl := (g_tb7 _ (List.mem_of_getElem? (i := 217) (by decide +kernel)) rfl)
theorem g_v318 : Cond.selects g_m318.1.cls g_m318.1 g_m318.1 ∈ g_tbl := (g_tb0 _ (List.mem_of_getElem? (i := 62) (by decide +kernel)) rfl)
theorem g_w319 : q_MW g_tbl g_m319 0 := ⟨(g_tb9 _ (List.mem_of_getElem? (i := 164) (by decide +kernel)) rfl), (g_tb1 _ (List.mem_of_getElem? (i := 13) (by decide +kernel)) rfl), by decide +kernel, by decide⟩
theorem g_i319 : Cond.instanceMethod g_m319.1 ∈ g_tbl := (g_tb9 _ (List.mem_of_getElem? (i := 162) (by decide +kernel)) rfl)
theorem g_v319 : Cond.selects g_m319.1.cls g_m319.1 g_m319.1 ∈ g_tbl := (g_tb9 _ (List.mem_of_getElem? (i := 163) (by decide +kernel)) rfl)
theorem g_w320 : q_MW g_tbl g_m320 3 := ⟨(g_tb8 _ (List.mem_of_getElem? (i := 237) (by decide +kernel)) rfl), (g_tb1 _ (List.mem_of_getElem? (i := 13) (by decide +kernel)) rfl), by decide +kernel, by decide⟩
theorem g_i320 : Cond.instanceMethod g_m320.1 ∈ g_tbl := (g_tb8 _ (List.mem_of_getElem? (i := 235) (by decide +kernel)) rfl)
theorem g_v320 : Cond.selects g_m320.1.cls g_m320.1 g_m320.1 ∈ g_tbl := (g_tb8 _ (List.mem_of_getElem? (i := 236) (by decide +kernel)) rfl)
theorem g_w321 : q_MW g_tbl g_m321 1 := ⟨(g_tb9 _ (List.mem_of_getElem? (i := 86) (by decide +kernel)) rfl), (g_tb1 _ (List.mem_of_getElem? (i := 13) (by decide +kernel)) rfl), by decide +kernel, by decide⟩
theorem g_i321 : Cond.instanceMethod g_m321.1 ∈ g_tbl := (g_tb9 _ (List.mem_of_getElem? (i := 84) (by decide +kernel)) rfl)
theorem g_v321 : Cond.selects g_m321.1.cls g_m321.1 g_m321.1 ∈ g_tbl := (g_tb9 _ (List.mem_of_getElem? (i := 85) (by decide +kernel)) rfl)
theorem g_w322 : q_MW g_tbl g_m322 2 := ⟨(g_tb9 _ (List.mem_of_getElem? (i := 90) (by decide +kernel)) rfl), (g_tb1 _ (List.mem_of_getElem? (i := 13) (by decide +kernel)) rfl), by decide +kernel, by decide⟩
theorem g_i322 : Cond.instanceMethod g_m322.1 ∈ g_tbl := (g_tb9 _ (List.mem_of_getElem? (i := 89) (by decide +kernel)) rfl)
theorem g_v322 : Cond.selects g_m322.1.cls g_m322.1 g_m322.1 ∈ g_tbl := (g_tb0 _ (List.mem_of_getElem? (i := 113) (by decide +kernel)) rfl)
theorem g_w323 : q_MW g_tbl g_m323 3 := ⟨(g_tb8 _ (List.mem_of_getElem? (i := 127) (by decide +kernel)) rfl), (g_tb1 _ (List.mem_of_getElem? (i := 13) (by decide +kernel)) rfl), by decide +kernel, by decide⟩
theorem g_s323 : Cond.static g_m323.1 ∈ g_tbl := (g_tb8 _ (List.mem_of_getElem? (i := 126) (by decide +kernel)) rfl)
theorem g_w324 : q_MW g_tbl g_m324 1 := ⟨(g_tb7 _ (List.mem_of_getElem? (i := 206) (by decide +kernel)) rfl), (g_tb1 _ (List.mem_of_getElem? (i := 13) (by decide +kernel)) rfl), by decide +kernel, by decide⟩
theorem g_i324 : Cond.instanceMethod g_m324.1 ∈ g_tbl := (g_tb7 _ (List.mem_of_getElem? (i := 205) (by decide +kernel)) rfl)
theorem g_v324 : Cond.selects g_m324.1.cls g_m324.1 g_m324.1 ∈ g_tbl := (g_tb0 _ (List.mem_of_getElem? (i := 59) (by decide +kernel)) rfl)
theorem g_w325 : q_MW g_tbl g_m325 1 := ⟨(g_tb4 _ (List.mem_of_getElem? (i := 234) (by decide +kernel)) rfl), (g_tb1 _ (List.mem_of_getElem? (i := 20) (by decide +kernel)) rfl), by decide +kernel, by decide⟩
theorem g_s325 : Cond.static g_m325.1 ∈ g_tbl := (g_tb4 _ (List.mem_of_getElem? (i := 233) (by decide +kernel)) rfl)
