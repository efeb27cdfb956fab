theorem q_ckr_ok {cl : List vw_C} {lt : q_LT} {own : String} {cc : ByteArray} {nL : Nat} {ret : Option FieldType} {ini : Bool} {t : q_T} (h : ∀ j, j < t.length → q_ckr cl lt own cc nL ret ini (16 * j) (t[j]?.getD []) = true) (pc : Nat) (q : q_I) (hq : q_get t pc = some q) : q.1 = .nop ∨ q_ck1 cl lt own cc nL ret ini pc q = true := by
  unfold q_get at hq
  split at hq
  next r hr =>
    have hj : pc / 16 < t.length := (List.getElem?_eq_some_iff.mp hr).1
    have h0 := h (pc / 16) hj
    rw [hr, Option.getD_some] at h0
    have h1 := q_ckr_spec r _ h0 (pc % 16) q hq
    rw [show 16 * (pc / 16) + pc % 16 = pc by omega] at h1
    exact h1
  next => cases hq
set_option maxRecDepth 100000 in
theorem g_kl0 : q_ckr g_cl g_l11 "GoodbyeQuayLaw" code 4 (some .boolean) false (16 * 0) (g_tl[0]?.getD []) = true := by decide +kernel
set_option maxRecDepth 100000 in
theorem g_kl1 : q_ckr g_cl g_l11 "GoodbyeQuayLaw" code 4 (some .boolean) false (16 * 1) (g_tl[1]?.getD []) = true := by decide +kernel
set_option maxRecDepth 100000 in
theorem g_kl2 : q_ckr g_cl g_l11 "GoodbyeQuayLaw" code 4 (some .boolean) false (16 * 2) (g_tl[2]?.getD []) = true := by decide +kernel
set_option maxRecDepth 100000 in
theorem g_kl3 : q_ckr g_cl g_l11 "GoodbyeQuayLaw" code 4 (some .boolean) false (16 * 3) (g_tl[3]?.getD []) = true := by decide +kernel
set_option maxRecDepth 100000 in
theorem g_kl4 : q_ckr g_cl g_l11 "GoodbyeQuayLaw" code 4 (some .boolean) false (16 * 4) (g_tl[4]?.getD []) = true := by decide +kernel
set_option maxRecDepth 100000 in
theorem g_kl5 : q_ckr g_cl g_l11 "GoodbyeQuayLaw" code 4 (some .boolean) false (16 * 5) (g_tl[5]?.getD []) = true := by decide +kernel
set_option maxRecDepth 100000 in
theorem g_kl6 : q_ckr g_cl g_l11 "GoodbyeQuayLaw" code 4 (some .boolean) false (16 * 6) (g_tl[6]?.getD []) = true := by decide +kernel
set_option maxRecDepth 100000 in
theorem g_kl7 : q_ckr g_cl g_l11 "GoodbyeQuayLaw" code 4 (some .boolean) false (16 * 7) (g_tl[7]?.getD []) = true := by decide +kernel
set_option maxRecDepth 100000 in
theorem g_kl8 : q_ckr g_cl g_l11 "GoodbyeQuayLaw" code 4 (some .boolean) false (16 * 8) (g_tl[8]?.getD []) = true := by decide +kernel
set_option maxRecDepth 100000 in
theorem g_kl9 : q_ckr g_cl g_l11 "GoodbyeQuayLaw" code 4 (some .boolean) false (16 * 9) (g_tl[9]?.getD []) = true := by decide +kernel
set_option maxRecDepth 100000 in
theorem g_kl10 : q_ckr g_cl g_l11 "GoodbyeQuayLaw" code 4 (some .boolean) false (16 * 10) (g_tl[10]?.getD []) = true := by decide +kernel
set_option maxRecDepth 100000 in
theorem g_kl11 : q_ckr g_cl g_l11 "GoodbyeQuayLaw" code 4 (some .boolean) false (16 * 11) (g_tl[11]?.getD []) = true := by decide +kernel
set_option maxRecDepth 100000 in
theorem g_kl12 : q_ckr g_cl g_l11 "GoodbyeQuayLaw" code 4 (some .boolean) false (16 * 12) (g_tl[12]?.getD []) = true := by decide +kernel
set_option maxRecDepth 100000 in
theorem g_kl13 : q_ckr g_cl g_l11 "GoodbyeQuayLaw" code 4 (some .boolean) false (16 * 13) (g_tl[13]?.getD []) = true := by decide +kernel
set_option maxRecDepth 100000 in
theorem g_kl14 : q_ckr g_cl g_l11 "GoodbyeQuayLaw" code 4 (some .boolean) false (16 * 14) (g_tl[14]?.getD []) = true := by decide +kernel
set_option maxRecDepth 100000 in
theorem g_kl15 : q_ckr g_cl g_l11 "GoodbyeQuayLaw" code 4 (some .boolean) false (16 * 15) (g_tl[15]?.getD []) = true := by decide +kernel
set_option maxRecDepth 100000 in
theorem g_kl16 : q_ckr g_cl g_l11 "GoodbyeQuayLaw" code 4 (some .boolean) false (16 * 16) (g_tl[16]?.getD []) = true := by decide +kernel
set_option maxRecDepth 100000 in
theorem g_kl17 : q_ckr g_cl g_l11 "GoodbyeQuayLaw" code 4 (some .boolean) false (16 * 17) (g_tl[17]?.getD []) = true := by decide +kernel
set_option maxRecDepth 100000 in
theorem g_kl18 : q_ckr g_cl g_l11 "GoodbyeQuayLaw" code 4 (some .boolean) false (16 * 18) (g_tl[18]?.getD []) = true := by decide +kernel
set_option maxRecDepth 100000 in
theorem g_kl19 : q_ckr g_cl g_l11 "GoodbyeQuayLaw" code 4 (some .boolean) false (16 * 19) (g_tl[19]?.getD []) = true := by decide +kernel
set_option maxRecDepth 100000 in
theorem g_kl20 : q_ckr g_cl g_l11 "GoodbyeQuayLaw" code 4 (some .boolean) false (16 * 20) (g_tl[20]?.getD []) = true := by decide +kernel
set_option maxRecDepth 100000 in
theorem g_kl21 : q_ckr g_cl g_l11 "GoodbyeQuayLaw" code 4 (some .boolean) false (16 * 21) (g_tl[21]?.getD []) = true := by decide +kernel
set_option maxRecDepth 100000 in
theorem g_kl22 : q_ckr g_cl g_l11 "GoodbyeQuayLaw" code 4 (some .boolean) false (16 * 22) (g_tl[22]?.getD []) = true := by decide +kernel
set_option maxRecDepth 100000 in
theorem g_kl23 : q_ckr g_cl g_l11 "GoodbyeQuayLaw" code 4 (some .boolean) false (16 * 23) (g_tl[23]?.getD []) = true := by decide +kernel
set_option maxRecDepth 100000 in
theorem g_kl24 : q_ckr g_cl g_l11 "GoodbyeQuayLaw" code 4 (some .boolean) false (16 * 24) (g_tl[24]?.getD []) = true := by decide +kernel
set_option maxRecDepth 100000 in
theorem g_kl25 : q_ckr g_cl g_l11 "GoodbyeQuayLaw" code 4 (some .boolean) false (16 * 25) (g_tl[25]?.getD []) = true := by decide +kernel
set_option maxRecDepth 100000 in
theorem g_kl26 : q_ckr g_cl g_l11 "GoodbyeQuayLaw" code 4 (some .boolean) false (16 * 26) (g_tl[26]?.getD []) = true := by decide +kernel
set_option maxRecDepth 100000 in
theorem g_kl27 : q_ckr g_cl g_l11 "GoodbyeQuayLaw" code 4 (some .boolean) false (16 * 27) (g_tl[27]?.getD []) = true := by decide +kernel
set_option maxRecDepth 100000 in
theorem g_kl28 : q_ckr g_cl g_l11 "GoodbyeQuayLaw" code 4 (some .boolean) false (16 * 28) (g_tl[28]?.getD []) = true := by decide +kernel
set_option maxRecDepth 100000 in
theorem g_kl29 : q_ckr g_cl g_l11 "GoodbyeQuayLaw" code 4 (some .boolean) false (16 * 29) (g_tl[29]?.getD []) = true := by decide +kernel
set_option maxRecDepth 100000 in
theorem g_kl30 : q_ckr g_cl g_l11 "GoodbyeQuayLaw" code 4 (some .boolean) false (16 * 30) (g_tl[30]?.getD []) = true := by decide +kernel
set_option maxRecDepth 100000 in
theorem g_kl31 : q_ckr g_cl g_l11 "GoodbyeQuayLaw" code 4 (some .boolean) false (16 * 31) (g_tl[31]?.getD []) = true := by decide +kernel
set_option maxRecDepth 100000 in
theorem g_kl32 : q_ckr g_cl g_l11 "GoodbyeQuayLaw" code 4 (some .boolean) false (16 * 32) (g_tl[32]?.getD []) = true := by decide +kernel
set_option maxRecDepth 100000 in
theorem g_kl33 : q_ckr g_cl g_l11 "GoodbyeQuayLaw" code 4 (some .boolean) false (16 * 33) (g_tl[33]?.getD []) = true := by decide +kernel
set_option maxRecDepth 100000 in
theorem g_kl34 : q_ckr g_cl g_l11 "GoodbyeQuayLaw" code 4 (some .boolean) false (16 * 34) (g_tl[34]?.getD []) = true := by decide +kernel
set_option maxRecDepth 100000 in
theorem g_kl35 : q_ckr g_cl g_l11 "GoodbyeQuayLaw" code 4 (some .boolean) false (16 * 35) (g_tl[35]?.getD []) = true := by decide +kernel
set_option maxRecDepth 100000 in
theorem g_kl36 : q_ckr g_cl g_l11 "GoodbyeQuayLaw" code 4 (some .boolean) false (16 * 36) (g_tl[36]?.getD []) = true := by decide +kernel
set_option maxRecDepth 100000 in
theorem g_kl37 : q_ckr g_cl g_l11 "GoodbyeQuayLaw" code 4 (some .boolean) false (16 * 37) (g_tl[37]?.getD []) = true := by decide +kernel
set_option maxRecDepth 100000 in
theorem g_kl38 : q_ckr g_cl g_l11 "GoodbyeQuayLaw" code 4 (some .boolean) false (16 * 38) (g_tl[38]?.getD []) = true := by decide +kernel
set_option maxRecDepth 100000 in
theorem g_kl39 : q_ckr g_cl g_l11 "GoodbyeQuayLaw" code 4 (some .boolean) false (16 * 39) (g_tl[39]?.getD []) = true := by decide +kernel
set_option maxRecDepth 100000 in
theorem g_kl40 : q_ckr g_cl g_l11 "GoodbyeQuayLaw" code 4 (some .boolean) false (16 * 40) (g_tl[40]?.getD []) = true := by decide +kernel
set_option maxRecDepth 100000 in
theorem g_kl41 : q_ckr g_cl g_l11 "GoodbyeQuayLaw" code 4 (some .boolean) false (16 * 41) (g_tl[41]?.getD []) = true := by decide +kernel
set_option maxRecDepth 100000 in
theorem g_kl42 : q_ckr g_cl g_l11 "GoodbyeQuayLaw" code 4 (some .boolean) false (16 * 42) (g_tl[42]?.getD []) = true := by decide +kernel
set_option maxRecDepth 100000 in
theorem g_kl43 : q_ckr g_cl g_l11 "GoodbyeQuayLaw" code 4 (some .boolean) false (16 * 43) (g_tl[43]?.getD []) = true := by decide +kernel
set_option maxRecDepth 100000 in
theorem g_kl44 : q_ckr g_cl g_l11 "GoodbyeQuayLaw" code 4 (some .boolean) false (16 * 44) (g_tl[44]?.getD []) = true := by decide +kernel
set_option maxRecDepth 100000 in
theorem g_kl45 : q_ckr g_cl g_l11 "GoodbyeQuayLaw" code 4 (some .boolean) false (16 * 45) (g_tl[45]?.getD []) = true := by decide +kernel
set_option maxRecDepth 100000 in
theorem g_kl46 : q_ckr g_cl g_l11 "GoodbyeQuayLaw" code 4 (some .boolean) false (16 * 46) (g_tl[46]?.getD []) = true := by decide +kernel
set_option maxRecDepth 100000 in
theorem g_kl47 : q_ckr g_cl g_l11 "GoodbyeQuayLaw" code 4 (some .boolean) false (16 * 47) (g_tl[47]?.getD []) = true := by decide +kernel
set_option maxRecDepth 100000 in
theorem g_kl48 : q_ckr g_cl g_l11 "GoodbyeQuayLaw" code 4 (some .boolean) false (16 * 48) (g_tl[48]?.getD []) = true := by decide +kernel
set_option maxRecDepth 100000 in
theorem g_kl49 : q_ckr g_cl g_l11 "GoodbyeQuayLaw" code 4 (some .boolean) false (16 * 49) (g_tl[49]?.getD []) = true := by decide +kernel
set_option maxRecDepth 100000 in
theorem g_kl50 : q_ckr g_cl g_l11 "GoodbyeQuayLaw" code 4 (some .boolean) false (16 * 50) (g_tl[50]?.getD []) = true := by decide +kernel
set_option maxRecDepth 100000 in
theorem g_kl51 : q_ckr g_cl g_l11 "GoodbyeQuayLaw" code 4 (some .boolean) false (16 * 51) (g_tl[51]?.getD []) = true := by decide +kernel
set_option maxRecDepth 100000 in
theorem g_kl52 : q_ckr g_cl g_l11 "GoodbyeQuayLaw" code 4 (some .boolean) false (16 * 52) (g_tl[52]?.getD []) = true := by decide +kernel
set_option maxRecDepth 100000 in
theorem g_kl53 : q_ckr g_cl g_l11 "GoodbyeQuayLaw" code 4 (some .boolean) false (16 * 53) (g_tl[53]?.getD []) = true := by decide +kernel
set_option maxRecDepth 100000 in
theorem g_kl54 : q_ckr g_cl g_l11 "GoodbyeQuayLaw" code 4 (some .boolean) false (16 * 54) (g_tl[54]?.getD []) = true := by decide +kernel
set_option maxRecDepth 100000 in
theorem g_kl55 : q_ckr g_cl g_l11 "GoodbyeQuayLaw" code 4 (some .boolean) false (16 * 55) (g_tl[55]?.getD []) = true := by decide +kernel
set_option maxRecDepth 100000 in
theorem g_kl56 : q_ckr g_cl g_l11 "GoodbyeQuayLaw" code 4 (some .boolean) false (16 * 56) (g_tl[56]?.getD []) = true := by decide +kernel
set_option maxRecDepth 100000 in
theorem g_kl57 : q_ckr g_cl g_l11 "GoodbyeQuayLaw" code 4 (some .boolean) false (16 * 57) (g_tl[57]?.getD []) = true := by decide +kernel
set_option maxRecDepth 100000 in
theorem g_kl58 : q_ckr g_cl g_l11 "GoodbyeQuayLaw" code 4 (some .boolean) false (16 * 58) (g_tl[58]?.getD []) = true := by decide +kernel
set_option maxRecDepth 100000 in
theorem g_kl59 : q_ckr g_cl g_l11 "GoodbyeQuayLaw" code 4 (some .boolean) false (16 * 59) (g_tl[59]?.getD []) = true := by decide +kernel
set_option maxRecDepth 100000 in
theorem g_kl60 : q_ckr g_cl g_l11 "GoodbyeQuayLaw" code 4 (some .boolean) false (16 * 60) (g_tl[60]?.getD []) = true := by decide +kernel
set_option maxRecDepth 100000 in
theorem g_kl61 : q_ckr g_cl g_l11 "GoodbyeQuayLaw" code 4 (some .boolean) false (16 * 61) (g_tl[61]?.getD []) = true := by decide +kernel
set_option maxRecDepth 100000 in
theorem g_kl62 : q_ckr g_cl g_l11 "GoodbyeQuayLaw" code 4 (some .boolean) false (16 * 62) (g_tl[62]?.getD []) = true := by decide +kernel
set_option maxRecDepth 100000 in
theorem g_kl63 : q_ckr g_cl g_l11 "GoodbyeQuayLaw" code 4 (some .boolean) false (16 * 63) (g_tl[63]?.getD []) = true := by decide +kernel
set_option maxRecDepth 100000 in
theorem g_kl64 : q_ckr g_cl g_l11 "GoodbyeQuayLaw" code 4 (some .boolean) false (16 * 64) (g_tl[64]?.getD []) = true := by decide +kernel
set_option maxRecDepth 100000 in
theorem g_kl65 : q_ckr g_cl g_l11 "GoodbyeQuayLaw" code 4 (some .boolean) false (16 * 65) (g_tl[65]?.getD []) = true := by decide +kernel
set_option maxRecDepth 100000 in
theorem g_kl66 : q_ckr g_cl g_l11 "GoodbyeQuayLaw" code 4 (some .boolean) false (16 * 66) (g_tl[66]?.getD []) = true := by decide +kernel
set_option maxRecDepth 100000 in
theorem g_kl67 : q_ckr g_cl g_l11 "GoodbyeQuayLaw" code 4 (some .boolean) false (16 * 67) (g_tl[67]?.getD []) = true := by decide +kernel
set_option maxRecDepth 100000 in
theorem g_kl68 : q_ckr g_cl g_l11 "GoodbyeQuayLaw" code 4 (some .boolean) false (16 * 68) (g_tl[68]?.getD []) = true := by decide +kernel
set_option maxRecDepth 100000 in
theorem g_kl69 : q_ckr g_cl g_l11 "GoodbyeQuayLaw" code 4 (some .boolean) false (16 * 69) (g_tl[69]?.getD []) = true := by decide +kernel
set_option maxRecDepth 100000 in
theorem g_kl70 : q_ckr g_cl g_l11 "GoodbyeQuayLaw" code 4 (some .boolean) false (16 * 70) (g_tl[70]?.getD []) = true := by decide +kernel
set_option maxRecDepth 100000 in
theorem g_kl71 : q_ckr g_cl g_l11 "GoodbyeQuayLaw" code 4 (some .boolean) false (16 * 71) (g_tl[71]?.getD []) = true := by decide +kernel
set_option maxRecDepth 100000 in
theorem g_kl72 : q_ckr g_cl g_l11 "GoodbyeQuayLaw" code 4 (some .boolean) false (16 * 72) (g_tl[72]?.getD []) = true := by decide +kernel
set_option maxRecDepth 100000 in
theorem g_kl73 : q_ckr g_cl g_l11 "GoodbyeQuayLaw" code 4 (some .boolean) false (16 * 73) (g_tl[73]?.getD []) = true := by decide +kernel
set_option maxRecDepth 100000 in
theorem g_kl74 : q_ckr g_cl g_l11 "GoodbyeQuayLaw" code 4 (some .boolean) false (16 * 74) (g_tl[74]?.getD []) = true := by decide +kernel
set_option maxRecDepth 100000 in
theorem g_kl75 : q_ckr g_cl g_l11 "GoodbyeQuayLaw" code 4 (some .boolean) false (16 * 75) (g_tl[75]?.getD []) = true := by decide +kernel
set_option maxRecDepth 100000 in
theorem g_kl76 : q_ckr g_cl g_l11 "GoodbyeQuayLaw" code 4 (some .boolean) false (16 * 76) (g_tl[76]?.getD []) = true := by decide +kernel
set_option maxRecDepth 100000 in
theorem g_kl77 : q_ckr g_cl g_l11 "GoodbyeQuayLaw" code 4 (some .boolean) false (16 * 77) (g_tl[77]?.getD []) = true := by decide +kernel
set_option maxRecDepth 100000 in
theorem g_kl78 : q_ckr g_cl g_l11 "GoodbyeQuayLaw" code 4 (some .boolean) false (16 * 78) (g_tl[78]?.getD []) = true := by decide +kernel
set_option maxRecDepth 100000 in
theorem g_kl79 : q_ckr g_cl g_l11 "GoodbyeQuayLaw" code 4 (some .boolean) false (16 * 79) (g_tl[79]?.getD []) = true := by decide +kernel
set_option maxRecDepth 100000 in
theorem g_kl80 : q_ckr g_cl g_l11 "GoodbyeQuayLaw" code 4 (some .boolean) false (16 * 80) (g_tl[80]?.getD []) = true := by decide +kernel
set_option maxRecDepth 100000 in
theorem g_kl81 : q_ckr g_cl g_l11 "GoodbyeQuayLaw" code 4 (some .boolean) false (16 * 81) (g_tl[81]?.getD []) = true := by decide +kernel
set_option maxRecDepth 100000 in
theorem g_kl82 : q_ckr g_cl g_l11 "GoodbyeQuayLaw" code 4 (some .boolean) false (16 * 82) (g_tl[82]?.getD []) = true := by decide +kernel
set_option maxRecDepth 100000 in
theorem g_kl83 : q_ckr g_cl g_l11 "GoodbyeQuayLaw" code 4 (some .boolean) false (16 * 83) (g_tl[83]?.getD []) = true := by decide +kernel
set_option maxRecDepth 100000 in
theorem g_kl84 : q_ckr g_cl g_l11 "GoodbyeQuayLaw" code 4 (some .boolean) false (16 * 84) (g_tl[84]?.getD []) = true := by decide +kernel
set_option maxRecDepth 100000 in
theorem g_kl85 : q_ckr g_cl g_l11 "GoodbyeQuayLaw" code 4 (some .boolean) false (16 * 85) (g_tl[85]?.getD []) = true := by decide +kernel
set_option maxRecDepth 100000 in
theorem g_kl86 : q_ckr g_cl g_l11 "GoodbyeQuayLaw" code 4 (some .boolean) false (16 * 86) (g_tl[86]?.getD []) = true := by decide +kernel
set_option maxRecDepth 100000 in
theorem g_kl87 : q_ckr g_cl g_l11 "GoodbyeQuayLaw" code 4 (some .boolean) false (16 * 87) (g_tl[87]?.getD []) = true := by decide +kernel
set_option maxRecDepth 100000 in
theorem g_kl88 : q_ckr g_cl g_l11 "GoodbyeQuayLaw" code 4 (some .boolean) false (16 * 88) (g_tl[88]?.getD []) = true := by decide +kernel
set_option maxRecDepth 100000 in
theorem g_kl89 : q_ckr g_cl g_l11 "GoodbyeQuayLaw" code 4 (some .boolean) false (16 * 89) (g_tl[89]?.getD []) = true := by decide +kernel
set_option maxRecDepth 100000 in
theorem g_kl90 : q_ckr g_cl g_l11 "GoodbyeQuayLaw" code 4 (some .boolean) false (16 * 90) (g_tl[90]?.getD []) = true := by decide +kernel
set_option maxRecDepth 100000 in
theorem g_kl91 : q_ckr g_cl g_l11 "GoodbyeQuayLaw" code 4 (some .boolean) false (16 * 91) (g_tl[91]?.getD []) = true := by decide +kernel
set_option maxRecDepth 100000 in
theorem g_kl92 : q_ckr g_cl g_l11 "GoodbyeQuayLaw" code 4 (some .boolean) false (16 * 92) (g_tl[92]?.getD []) = true := by decide +kernel
set_option maxRecDepth 100000 in
theorem g_kl93 : q_ckr g_cl g_l11 "GoodbyeQuayLaw" code 4 (some .boolean) false (16 * 93) (g_tl[93]?.getD []) = true := by decide +kernel
set_option maxRecDepth 100000 in
theorem g_kl94 : q_ckr g_cl g_l11 "GoodbyeQuayLaw" code 4 (some .boolean) false (16 * 94) (g_tl[94]?.getD []) = true := by decide +kernel
set_option maxRecDepth 100000 in
theorem g_kl95 : q_ckr g_cl g_l11 "GoodbyeQuayLaw" code 4 (some .boolean) false (16 * 95) (g_tl[95]?.getD []) = true := by decide +kernel
set_option maxRecDepth 100000 in
theorem g_kl96 : q_ckr g_cl g_l11 "GoodbyeQuayLaw" code 4 (some .boolean) false (16 * 96) (g_tl[96]?.getD []) = true := by decide +kernel
set_option maxRecDepth 100000 in
theorem g_kl97 : q_ckr g_cl g_l11 "GoodbyeQuayLaw" code 4 (some .boolean) false (16 * 97) (g_tl[97]?.getD []) = true := by decide +kernel
set_option maxRecDepth 100000 in
theorem g_kl98 : q_ckr g_cl g_l11 "GoodbyeQuayLaw" code 4 (some .boolean) false (16 * 98) (g_tl[98]?.getD []) = true := by decide +kernel
set_option maxRecDepth 100000 in
theorem g_kl99 : q_ckr g_cl g_l11 "GoodbyeQuayLaw" code 4 (some .boolean) false (16 * 99) (g_tl[99]?.getD []) = true := by decide +kernel
set_option maxRecDepth 100000 in
theorem g_kl100 : q_ckr g_cl g_l11 "GoodbyeQuayLaw" code 4 (some .boolean) false (16 * 100) (g_tl[100]?.getD []) = true := by decide +kernel
set_option maxRecDepth 100000 in
theorem g_kl101 : q_ckr g_cl g_l11 "GoodbyeQuayLaw" code 4 (some .boolean) false (16 * 101) (g_tl[101]?.getD []) = true := by decide +kernel
theorem g_kl (pc : Nat) (q : q_I) (hq : q_get g_tl pc = some q) : q.1 = .nop ∨ q_ck1 g_cl g_l11 "GoodbyeQuayLaw" code 4 (some .boolean) false pc q = true := by
  refine q_ckr_ok (fun j hj => ?_) pc q hq
  have hj : j < 102 := Nat.lt_of_lt_of_le hj (by decide +kernel)
  match j, hj with
  | 0, _ => exact g_kl0
  | 1, _ => exact g_kl1
  | 2, _ => exact g_kl2
  | 3, _ => exact g_kl3
  | 4, _ => exact g_kl4
  | 5, _ => exact g_kl5
  | 6, _ => exact g_kl6
  | 7, _ => exact g_kl7
  | 8, _ => exact g_kl8
  | 9, _ => exact g_kl9
  | 10, _ => exact g_kl10
  | 11, _ => exact g_kl11
  | 12, _ => exact g_kl12
  | 13, _ => exact g_kl13
  | 14, _ => exact g_kl14
  | 15, _ => exact g_kl15
  | 16, _ => exact g_kl16
  | 17, _ => exact g_kl17
  | 18, _ => exact g_kl18
  | 19, _ => exact g_kl19
  | 20, _ => exact g_kl20
  | 21, _ => exact g_kl21
  | 22, _ => exact g_kl22
  | 23, _ => exact g_kl23
  | 24, _ => exact g_kl24
  | 25, _ => exact g_kl25
  | 26, _ => exact g_kl26
  | 27, _ => exact g_kl27
  | 28, _ => exact g_kl28
  | 29, _ => exact g_kl29
  | 30, _ => exact g_kl30
  | 31, _ => exact g_kl31
  | 32, _ => exact g_kl32
  | 33, _ => exact g_kl33
  | 34, _ => exact g_kl34
  | 35, _ => exact g_kl35
  | 36, _ => exact g_kl36
  | 37, _ => exact g_kl37
  | 38, _ => exact g_kl38
  | 39, _ => exact g_kl39
  | 40, _ => exact g_kl40
  | 41, _ => exact g_kl41
  | 42, _ => exact g_kl42
  | 43, _ => exact g_kl43
  | 44, _ => exact g_kl44
  | 45, _ => exact g_kl45
  | 46, _ => exact g_kl46
  | 47, _ => exact g_kl47
  | 48, _ => exact g_kl48
  | 49, _ => exact g_kl49
  | 50, _ => exact g_kl50
  | 51, _ => exact g_kl51
  | 52, _ => exact g_kl52
  | 53, _ => exact g_kl53
  | 54, _ => exact g_kl54
  | 55, _ => exact g_kl55
  | 56, _ => exact g_kl56
  | 57, _ => exact g_kl57
  | 58, _ => exact g_kl58
  | 59, _ => exact g_kl59
  | 60, _ => exact g_kl60
  | 61, _ => exact g_kl61
  | 62, _ => exact g_kl62
  | 63, _ => exact g_kl63
  | 64, _ => exact g_kl64
  | 65, _ => exact g_kl65
  | 66, _ => exact g_kl66
  | 67, _ => exact g_kl67
  | 68, _ => exact g_kl68
  | 69, _ => exact g_kl69
  | 70, _ => exact g_kl70
  | 71, _ => exact g_kl71
  | 72, _ => exact g_kl72
  | 73, _ => exact g_kl73
  | 74, _ => exact g_kl74
  | 75, _ => exact g_kl75
  | 76, _ => exact g_kl76
  | 77, _ => exact g_kl77
  | 78, _ => exact g_kl78
  | 79, _ => exact g_kl79
  | 80, _ => exact g_kl80
  | 81, _ => exact g_kl81
  | 82, _ => exact g_kl82
  | 83, _ => exact g_kl83
  | 84, _ => exact g_kl84
  | 85, _ => exact g_kl85
  | 86, _ => exact g_kl86
  | 87, _ => exact g_kl87
  | 88, _ => exact g_kl88
  | 89, _ => exact g_kl89
  | 90, _ => exact g_kl90
  | 91, _ => exact g_kl91
  | 92, _ => exact g_kl92
  | 93, _ => exact g_kl93
  | 94, _ => exact g_kl94
  | 95, _ => exact g_kl95
  | 96, _ => exact g_kl96
  | 97, _ => exact g_kl97
  | 98, _ => exact g_kl98
  | 99, _ => exact g_kl99
  | 100, _ => exact g_kl100
  | 101, _ => exact g_kl101
  | j + 102, h => exact absurd h (by omega)
