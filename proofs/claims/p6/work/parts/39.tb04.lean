/-! what the methods do (printed by wip/gen/allb.py) -/
/-! 279 GoodbyeQuayModel.rail(II)I -/
set_option maxRecDepth 4000 in
theorem b_279 (p1 : Int32) (p2 : Int32) (s : u_H) : u_c 279 [.inr (.inr 67), .inl p1, .inl p2] s =
  u_bi (u_c 230 [.inl p1, .inl (Int32.ofInt 0), .inl ((s.1 65 50) - (Int32.ofInt 1))] s) fun x2 s1 =>
  if x2 = 0 then
    some (some (.inl (u_k (-1))), s1)
  else
    if p2 = 0 then
      if u_in ((Int32.ofInt 18) + p1) 28 = true then
        some (some (.inl (s1.1 85 (((Int32.ofInt 18) + p1).toNatClampNeg))), s1)
      else
        none
    else
      if p2 = (Int32.ofInt 1) then
        if u_in ((Int32.ofInt 21) + p1) 28 = true then
          some (some (.inl (s1.1 85 (((Int32.ofInt 21) + p1).toNatClampNeg))), s1)
        else
          none
      else
        some (some (.inl (u_k (-1))), s1) := (u_cE (t := g_t279) rfl _ _).trans ((u_E (5, 17, 5, 5) [] 120 g_t279 0 _ _ _).trans rfl)
/-! 280 GoodbyeQuayModel.railedOnes()I -/
set_option maxRecDepth 4000 in
theorem b_280 (s : u_H) : u_c 280 [.inr (.inr 67)] s =
  u g_t280 4 ((u_l1 (u_l1 u_z1 1 (Int32.ofInt 0)) 2 (Int32.ofInt 0)), u_z2, [(0, 67)]) [] s := (u_cE (t := g_t280) rfl _ _).trans ((u_E (5, 17, 5, 5) [4] 120 g_t280 0 _ _ _).trans rfl)
set_option maxRecDepth 4000 in
theorem b_280_4 (li : Nat → Int32) (ll : Nat → Int64) (s : u_H) : u g_t280 4 (li, ll, [(0, 67)]) [] s =
  if (li 2) < (s.1 65 48) then
    if u_in ((Int32.ofInt 9) + (li 2)) 28 = true then
      if (s.1 85 (((Int32.ofInt 9) + (li 2)).toNatClampNeg)) = (Int32.ofInt 1) then
        u_bi (u_c 313 [.inl (Int32.ofInt 1)] s) fun x2 s1 =>
        u g_t280 4 ((u_l1 (u_l1 li 1 ((li 1) ||| (x2 <<< ((li 2) &&& 31)))) 2 ((li 2) + (Int32.ofInt 1))), ll, [(0, 67)]) [] s1
      else
        u_bi (u_c 313 [.inl (Int32.ofInt 0)] s) fun x4 s3 =>
        u g_t280 4 ((u_l1 (u_l1 li 1 ((li 1) ||| (x4 <<< ((li 2) &&& 31)))) 2 ((li 2) + (Int32.ofInt 1))), ll, [(0, 67)]) [] s3
    else
      none
  else
    some (some (.inl (li 1)), s) := (u_E (5, 17, 5, 5) [4] 120 g_t280 4 _ _ _).trans rfl
/-! 281 GoodbyeQuayModel.readAll()V -/
set_option maxRecDepth 4000 in
theorem b_281 (s : u_H) : u_c 281 [.inr (.inr 67)] s =
  u_bv (u_c 309 [.inr (.inr 67)] ((y_u (y_u (y_u (y_u (y_u (y_u (y_u (y_u (y_u (y_u (y_u (y_u (y_u (y_u (y_u (y_u (y_u s.1 65 5 (s.1 65 1)) 65 1 (Int32.ofInt 0)) 65 4 (Int32.ofInt 0)) 65 2 (Int32.ofInt 0)) 65 3 (u_k (-1))) 65 41 (Int32.ofInt 0)) 65 42 (Int32.ofInt 0)) 65 43 (Int32.ofInt 11)) 65 44 (Int32.ofInt 1)) 65 45 (Int32.ofInt 0)) 65 46 (Int32.ofInt 0)) 65 53 (Int32.ofInt 0)) 65 54 (Int32.ofInt 0)) 65 55 (Int32.ofInt 0)) 65 56 (Int32.ofInt 0)) 65 24 (Int32.ofInt 0)) 65 20 (Int32.ofInt 0)), s.2)) fun s1 =>
  u g_t281 93 (u_z1, u_z2, [(0, 67)]) [] s1 := (u_cE (t := g_t281) rfl _ _).trans ((u_E (5, 17, 5, 5) [93] 120 g_t281 0 _ _ _).trans rfl)
set_option maxRecDepth 4000 in
theorem b_281_93 (li : Nat → Int32) (ll : Nat → Int64) (s : u_H) : u g_t281 93 (li, ll, [(0, 67)]) [] s =
  if (s.1 65 2) = 0 then
    if (s.1 65 6) = 0 then
      some (none, s)
    else
      u_bv (u_c 282 [.inr (.inr 67)] s) fun s1 =>
      u g_t281 93 (li, ll, [(0, 67)]) [] s1
  else
    some (none, s) := (u_E (5, 17, 5, 5) [93] 120 g_t281 93 _ _ _).trans rfl
/-! 282 GoodbyeQuayModel.readLine()V -/
set_option maxRecDepth 4000 in
theorem b_282 (s : u_H) : u_c 282 [.inr (.inr 67)] s =
  u_bi (u_c 238 [.inr (.inr 67), .inr (.inl (u_k6 1936222576))] s) fun x2 s1 =>
  if x2 = 0 then
    u_bi (u_c 238 [.inr (.inr 67), .inr (.inl (u_k6 1885432178))] s1) fun x4 s3 =>
    if x4 = 0 then
      u g_t282 51 (u_z1, u_z2, [(0, 67)]) [] s3
    else
      if (s3.1 65 42) < (Int32.ofInt 7) then
        u_bv (u_c 283 [.inr (.inr 67)] s3) fun s5 =>
        u g_t282 236 (u_z1, u_z2, [(0, 67)]) [] s5
      else
        u g_t282 51 (u_z1, u_z2, [(0, 67)]) [] s3
  else
    if (s1.1 65 41) < (Int32.ofInt 5) then
      u_bv (u_c 284 [.inr (.inr 67)] s1) fun s6 =>
      u g_t282 236 (u_z1, u_z2, [(0, 67)]) [] s6
    else
      u_bi (u_c 238 [.inr (.inr 67), .inr (.inl (u_k6 1885432178))] s1) fun x8 s7 =>
      if x8 = 0 then
        u g_t282 51 (u_z1, u_z2, [(0, 67)]) [] s7
      else
        if (s7.1 65 42) < (Int32.ofInt 7) then
          u_bv (u_c 283 [.inr (.inr 67)] s7) fun s9 =>
          u g_t282 236 (u_z1, u_z2, [(0, 67)]) [] s9
        else
          u g_t282 51 (u_z1, u_z2, [(0, 67)]) [] s7 := (u_cE (t := g_t282) rfl _ _).trans ((u_E (5, 17, 5, 5) [51, 90, 152, 191, 236] 120 g_t282 0 _ _ _).trans rfl)
set_option maxRecDepth 4000 in
theorem b_282_51 (li : Nat → Int32) (ll : Nat → Int64) (s : u_H) : u g_t282 51 (li, ll, [(0, 67)]) [] s =
  u_bi (u_c 238 [.inr (.inr 67), .inr (.inl (u_k6 109356099333997))] s) fun x2 s1 =>
  if x2 = 0 then
    u g_t282 90 (li, ll, [(0, 67)]) [] s1
  else
    if (s1.1 65 53) = 0 then
      u_bi (u_c 310 [.inr (.inr 67), .inr (.inl (u_k6 109356099333997)), .inl (Int32.ofInt 1), .inl (Int32.ofInt 60)] ((y_u s1.1 65 53 (Int32.ofInt 1)), s1.2)) fun x4 s3 =>
      u g_t282 236 (li, ll, [(0, 67)]) [] ((y_u s3.1 65 43 x4), s3.2)
    else
      u g_t282 90 (li, ll, [(0, 67)]) [] s1 := (u_E (5, 17, 5, 5) [51, 90, 152, 191, 236] 120 g_t282 51 _ _ _).trans rfl
set_option maxRecDepth 4000 in
theorem b_282_90 (li : Nat → Int32) (ll : Nat → Int64) (s : u_H) : u g_t282 90 (li, ll, [(0, 67)]) [] s =
  u_bi (u_c 238 [.inr (.inr 67), .inr (.inl (u_k6 491260570739))] s) fun x2 s1 =>
  if x2 = 0 then
    u_bi (u_c 238 [.inr (.inr 67), .inr (.inl (u_k6 465491424371))] s1) fun x4 s3 =>
    if x4 = 0 then
      u g_t282 152 (li, ll, [(0, 67)]) [] s3
    else
      if (s3.1 65 24) = 0 then
        u_bv (u_c 208 [.inr (.inr 67)] s3) fun s5 =>
        u g_t282 236 (li, ll, [(0, 67)]) [] s5
      else
        u g_t282 152 (li, ll, [(0, 67)]) [] s3
  else
    if (s1.1 65 54) = 0 then
      u_bi (u_c 310 [.inr (.inr 67), .inr (.inl (u_k6 491260570739)), .inl (Int32.ofInt 1), .inl (Int32.ofInt 2)] ((y_u s1.1 65 54 (Int32.ofInt 1)), s1.2)) fun x7 s6 =>
      u g_t282 236 (li, ll, [(0, 67)]) [] ((y_u s6.1 65 44 x7), s6.2)
    else
      u_bi (u_c 238 [.inr (.inr 67), .inr (.inl (u_k6 465491424371))] s1) fun x9 s8 =>
      if x9 = 0 then
        u g_t282 152 (li, ll, [(0, 67)]) [] s8
      else
        if (s8.1 65 24) = 0 then
          u_bv (u_c 208 [.inr (.inr 67)] s8) fun s10 =>
          u g_t282 236 (li, ll, [(0, 67)]) [] s10
        else
          u g_t282 152 (li, ll, [(0, 67)]) [] s8 := (u_E (5, 17, 5, 5) [51, 90, 152, 191, 236] 120 g_t282 90 _ _ _).trans rfl
set_option maxRecDepth 4000 in
theorem b_282_152 (li : Nat → Int32) (ll : Nat → Int64) (s : u_H) : u g_t282 152 (li, ll, [(0, 67)]) [] s =
  u_bi (u_c 238 [.inr (.inr 67), .inr (.inl (u_k6 8175547842734419059))] s) fun x2 s1 =>
  if x2 = 0 then
    u g_t282 191 (li, ll, [(0, 67)]) [] s1
  else
    if (s1.1 65 55) = 0 then
      u_bi (u_c 310 [.inr (.inr 67), .inr (.inl (u_k6 8175547842734419059)), .inl (Int32.ofInt 0), .inl (Int32.ofInt 100)] ((y_u s1.1 65 55 (Int32.ofInt 1)), s1.2)) fun x4 s3 =>
      u g_t282 236 (li, ll, [(0, 67)]) [] ((y_u s3.1 65 45 x4), s3.2)
    else
      u g_t282 191 (li, ll, [(0, 67)]) [] s1 := (u_E (5, 17, 5, 5) [51, 90, 152, 191, 236] 120 g_t282 152 _ _ _).trans rfl
set_option maxRecDepth 4000 in
theorem b_282_191 (li : Nat → Int32) (ll : Nat → Int64) (s : u_H) : u g_t282 191 (li, ll, [(0, 67)]) [] s =
  u_bi (u_c 238 [.inr (.inr 67), .inr (.inl (u_k6 1685217655))] s) fun x2 s1 =>
  if x2 = 0 then
    u_bv (u_c 324 [.inr (.inr 67), .inl (Int32.ofInt 2)] s1) fun s3 =>
    u g_t282 236 (li, ll, [(0, 67)]) [] s3
  else
    if (s1.1 65 56) = 0 then
      u_bi (u_c 310 [.inr (.inr 67), .inr (.inl (u_k6 1685217655)), .inl (Int32.ofInt 0), .inl (u_k 999)] ((y_u s1.1 65 56 (Int32.ofInt 1)), s1.2)) fun x5 s4 =>
      u g_t282 236 (li, ll, [(0, 67)]) [] ((y_u s4.1 65 46 x5), s4.2)
    else
      u_bv (u_c 324 [.inr (.inr 67), .inl (Int32.ofInt 2)] s1) fun s6 =>
      u g_t282 236 (li, ll, [(0, 67)]) [] s6 := (u_E (5, 17, 5, 5) [51, 90, 152, 191, 236] 120 g_t282 191 _ _ _).trans rfl
set_option maxRecDepth 4000 in
theorem b_282_236 (li : Nat → Int32) (ll : Nat → Int64) (s : u_H) : u g_t282 236 (li, ll, [(0, 67)]) [] s =
  if (s.1 65 2) = 0 then
    if (s.1 65 6) = (Int32.ofInt 59) then
      if (s.1 65 2) = 0 then
        u_bv (u_c 309 [.inr (.inr 67)] s) fun s1 =>
        some (none, s1)
      else
        some (none, s)
    else
      u_bv (u_c 324 [.inr (.inr 67), .inl (Int32.ofInt 2)] s) fun s2 =>
      if (s2.1 65 2) = 0 then
        u_bv (u_c 309 [.inr (.inr 67)] s2) fun s3 =>
        some (none, s3)
      else
        some (none, s2)
  else
    if (s.1 65 2) = 0 then
      u_bv (u_c 309 [.inr (.inr 67)] s) fun s4 =>
      some (none, s4)
    else
      some (none, s) := (u_E (5, 17, 5, 5) [51, 90, 152, 191, 236] 120 g_t282 236 _ _ _).trans rfl
/-! 283 GoodbyeQuayModel.readPair()V -/
set_option maxRecDepth 4000 in
theorem b_283 (s : u_H) : u_c 283 [.inr (.inr 67)] s =
  u_bv (u_c 263 [.inr (.inr 67), .inl (Int32.ofInt 5), .inl (s.1 65 42)] s) fun s1 =>
  u_bv (u_c 318 [.inr (.inr 67), .inr (.inl (u_k6 1936222576))] s1) fun s2 =>
  u_bi (u_c 266 [.inr (.inr 67)] s2) fun x4 s3 =>
  if u_in (s2.1 65 42) 7 = true then
    u_bi (u_c 310 [.inr (.inr 67), .inr (.inl (u_k6 474147546227)), .inl (Int32.ofInt 1), .inl (Int32.ofInt 30)] ((y_u s3.1 77 ((s2.1 65 42).toNatClampNeg) x4), s3.2)) fun x6 s5 =>
    if u_in (s3.1 65 42) 7 = true then
      u_bi (u_c 258 [.inr (.inr 67), .inr (.inl (u_k6 1819244133)), .inl (Int32.ofInt 20), .inl (Int32.ofInt 1)] ((y_u s5.1 78 ((s3.1 65 42).toNatClampNeg) x6), s5.2)) fun x8 s7 =>
      if u_in (s5.1 65 42) 7 = true then
        if (s7.1 65 2) = 0 then
          some (none, ((y_u (y_u s7.1 79 ((s5.1 65 42).toNatClampNeg) x8) 65 42 ((s7.1 65 42) + (Int32.ofInt 1))), s7.2))
        else
          some (none, ((y_u s7.1 79 ((s5.1 65 42).toNatClampNeg) x8), s7.2))
      else
        none
    else
      none
  else
    none := (u_cE (t := g_t283) rfl _ _).trans ((u_E (5, 17, 5, 5) [] 120 g_t283 0 _ _ _).trans rfl)
/-! 284 GoodbyeQuayModel.readShip()V -/
set_option maxRecDepth 4000 in
theorem b_284 (s : u_H) : u_c 284 [.inr (.inr 67)] s =
  u_bv (u_c 263 [.inr (.inr 67), .inl (Int32.ofInt 0), .inl (s.1 65 41)] s) fun s1 =>
  u_bi (u_c 310 [.inr (.inr 67), .inr (.inl (u_k6 495555538035)), .inl (Int32.ofInt 0), .inl (u_k 240)] s1) fun x3 s2 =>
  if u_in (s1.1 65 41) 5 = true then
    u_bi (u_c 258 [.inr (.inr 67), .inr (.inl (u_k6 512735409267)), .inl (Int32.ofInt 60), .inl (Int32.ofInt 0)] ((y_u s2.1 75 ((s1.1 65 41).toNatClampNeg) x3), s2.2)) fun x5 s4 =>
    if u_in (s2.1 65 41) 5 = true then
      if (s4.1 65 2) = 0 then
        some (none, ((y_u (y_u s4.1 76 ((s2.1 65 41).toNatClampNeg) x5) 65 41 ((s4.1 65 41) + (Int32.ofInt 1))), s4.2))
      else
        some (none, ((y_u s4.1 76 ((s2.1 65 41).toNatClampNeg) x5), s4.2))
    else
      none
  else
    none := (u_cE (t := g_t284) rfl _ _).trans ((u_E (5, 17, 5, 5) [] 120 g_t284 0 _ _ _).trans rfl)
/-! 285 GoodbyeQuayModel.redo()Z -/
set_option maxRecDepth 4000 in
theorem b_285 (s : u_H) : u_c 285 [.inr (.inr 67)] s =
  if (s.1 65 67) = 0 then
    some (some (.inl (Int32.ofInt 0)), s)
  else
    u_bv (u_c 199 [.inr (.inr 67), .inl ((Int32.ofInt 28) * (s.1 65 66))] s) fun s1 =>
    some (some (.inl (Int32.ofInt 1)), ((y_u (y_u s1.1 65 66 ((s1.1 65 66) + (Int32.ofInt 1))) 65 67 ((s1.1 65 67) - (Int32.ofInt 1))), s1.2)) := (u_cE (t := g_t285) rfl _ _).trans ((u_E (5, 17, 5, 5) [] 120 g_t285 0 _ _ _).trans rfl)
/-! 286 GoodbyeQuayModel.room()I -/
set_option maxRecDepth 4000 in
theorem b_286 (s : u_H) : u_c 286 [.inr (.inr 67)] s =
  u_bi (u_c 289 [.inr (.inr 67), .inl (Int32.ofInt 0)] s) fun x2 s1 =>
  u g_t286 10 ((u_l1 (u_l1 (u_l1 u_z1 1 x2) 2 (Int32.ofInt 0)) 3 (Int32.ofInt 1)), u_z2, [(0, 67)]) [] s1 := (u_cE (t := g_t286) rfl _ _).trans ((u_E (5, 17, 5, 5) [10] 120 g_t286 0 _ _ _).trans rfl)
set_option maxRecDepth 4000 in
theorem b_286_10 (li : Nat → Int32) (ll : Nat → Int64) (s : u_H) : u g_t286 10 (li, ll, [(0, 67)]) [] s =
  if (Int32.ofInt 60) < (li 3) then
    some (some (.inl (li 2)), s)
  else
    u_bi (u_c 289 [.inr (.inr 67), .inl (li 3)] s) fun x2 s1 =>
    if ((li 1) &&& (x2 ^^^ (u_k (-1)))) = 0 then
      u g_t286 10 ((u_l1 (u_l1 li 2 (li 3)) 3 ((li 3) + (Int32.ofInt 1))), ll, [(0, 67)]) [] s1
    else
      u g_t286 10 ((u_l1 (u_l1 li 2 (li 2)) 3 ((li 3) + (Int32.ofInt 1))), ll, [(0, 67)]) [] s1 := (u_E (5, 17, 5, 5) [10] 120 g_t286 10 _ _ _).trans rfl
/-! 287 GoodbyeQuayModel.roundOf(I)I -/
set_option maxRecDepth 4000 in
theorem b_287 (p1 : Int32) (s : u_H) : u_c 287 [.inr (.inr 67), .inl p1] s =
  if u_in p1 7 = true then
    u g_t287 11 ((u_l1 (u_l1 (u_l1 u_z1 1 p1) 2 ((Int32.ofInt 1) <<< (p1 &&& 31))) 3 (s.1 94 (p1.toNatClampNeg))), u_z2, [(0, 67)]) [] s
  else
    none := (u_cE (t := g_t287) rfl _ _).trans ((u_E (5, 17, 5, 5) [11] 120 g_t287 0 _ _ _).trans rfl)
set_option maxRecDepth 4000 in
theorem b_287_11 (li : Nat → Int32) (ll : Nat → Int64) (s : u_H) : u g_t287 11 (li, ll, [(0, 67)]) [] s =
  u_bi (u_c 216 [.inl (li 2), .inl (li 3)] s) fun x2 s1 =>
  if x2 = 0 then
    if u_in (li 3) 7 = true then
      u g_t287 11 ((u_l1 (u_l1 li 2 ((li 2) ||| ((Int32.ofInt 1) <<< ((li 3) &&& 31)))) 3 (s1.1 94 ((li 3).toNatClampNeg))), ll, [(0, 67)]) [] s1
    else
      none
  else
    if (li 3) = (li 1) then
      some (some (.inl (li 2)), s1)
    else
      some (some (.inl (Int32.ofInt 0)), s1) := (u_E (5, 17, 5, 5) [11] 120 g_t287 11 _ _ _).trans rfl
/-! 288 GoodbyeQuayModel.saidHere(I)I -/
set_option maxRecDepth 4000 in
theorem b_288 (p1 : Int32) (s : u_H) : u_c 288 [.inr (.inr 67), .inl p1] s =
  if u_in ((Int32.ofInt 9) + p1) 28 = true then
    if (s.1 86 (((Int32.ofInt 9) + p1).toNatClampNeg)) = (Int32.ofInt 2) then
      if u_in p1 8 = true then
        u_bi (u_c 214 [.inl (Int32.ofInt 0), .inl (s.1 89 (p1.toNatClampNeg))] s) fun x2 s1 =>
        some (some (.inl x2), s1)
      else
        none
    else
      some (some (.inl (u_kv 1000000)), s)
  else
    none := (u_cE (t := g_t288) rfl _ _).trans ((u_E (5, 17, 5, 5) [] 120 g_t288 0 _ _ _).trans rfl)
/-! 289 GoodbyeQuayModel.saidIfHeld(I)I -/
set_option maxRecDepth 4000 in
theorem b_289 (p1 : Int32) (s : u_H) : u_c 289 [.inr (.inr 67), .inl p1] s =
  u_bv (u_c 203 [.inr (.inr 67)] s) fun s1 =>
  u g_t289 11 ((u_l1 (u_l1 u_z1 1 p1) 2 (Int32.ofInt 0)), u_z2, [(0, 67)]) [] ((y_u s1.1 65 59 p1), s1.2) := (u_cE (t := g_t289) rfl _ _).trans ((u_E (5, 17, 5, 5) [11, 37] 120 g_t289 0 _ _ _).trans rfl)
set_option maxRecDepth 4000 in
theorem b_289_11 (li : Nat → Int32) (ll : Nat → Int64) (s : u_H) : u g_t289 11 (li, ll, [(0, 67)]) [] s =
  if (li 2) < (s.1 65 50) then
    u_bi (u_c 227 [.inr (.inr 67), .inl (li 2)] s) fun x2 s1 =>
    if x2 = 0 then
      u g_t289 37 (li, ll, [(0, 67)]) [.inl (Int32.ofInt 0), .inl (li 2), .inr (.inr 89)] s1
    else
      u g_t289 37 (li, ll, [(0, 67)]) [.inl (li 1), .inl (li 2), .inr (.inr 89)] s1
  else
    u_bv (u_c 213 [.inr (.inr 67)] s) fun s3 =>
    u_bi (u_c 290 [.inr (.inr 67)] s3) fun x5 s4 =>
    some (some (.inl x5), s4) := (u_E (5, 17, 5, 5) [11, 37] 120 g_t289 11 _ _ _).trans rfl
set_option maxRecDepth 4000 in
theorem b_289_37 (v0 : Int32) (v1 : Int32) (li : Nat → Int32) (ll : Nat → Int64) (s : u_H) : u g_t289 37 (li, ll, [(0, 67)]) [.inl v0, .inl v1, .inr (.inr 89)] s =
  if u_in v1 3 = true then
    u_bi (u_c 227 [.inr (.inr 67), .inl (li 2)] ((y_u s.1 87 (v1.toNatClampNeg) v0), s.2)) fun x2 s1 =>
    if x2 = 0 then
      if u_in (li 2) 3 = true then
        u g_t289 11 ((u_l1 li 2 ((li 2) + (Int32.ofInt 1))), ll, [(0, 67)]) [] ((y_u s1.1 88 ((li 2).toNatClampNeg) (Int32.ofInt 1)), s1.2)
      else
        none
    else
      if u_in (li 2) 3 = true then
        u g_t289 11 ((u_l1 li 2 ((li 2) + (Int32.ofInt 1))), ll, [(0, 67)]) [] ((y_u s1.1 88 ((li 2).toNatClampNeg) (Int32.ofInt 0)), s1.2)
      else
        none
  else
    none := (u_E (5, 17, 5, 5) [11, 37] 120 g_t289 37 _ _ _).trans rfl
/-! 290 GoodbyeQuayModel.saidOnes()I -/
set_option maxRecDepth 4000 in
theorem b_290 (s : u_H) : u_c 290 [.inr (.inr 67)] s =
  u g_t290 4 ((u_l1 (u_l1 u_z1 1 (Int32.ofInt 0)) 2 (Int32.ofInt 0)), u_z2, [(0, 67)]) [] s := (u_cE (t := g_t290) rfl _ _).trans ((u_E (5, 17, 5, 5) [4] 120 g_t290 0 _ _ _).trans rfl)
set_option maxRecDepth 4000 in
theorem b_290_4 (li : Nat → Int32) (ll : Nat → Int64) (s : u_H) : u g_t290 4 (li, ll, [(0, 67)]) [] s =
  if (Int32.ofInt 7) < (li 2) then
    some (some (.inl (li 1)), s)
  else
    if u_in ((Int32.ofInt 9) + (li 2)) 28 = true then
      if (s.1 86 (((Int32.ofInt 9) + (li 2)).toNatClampNeg)) = (Int32.ofInt 2) then
        u_bi (u_c 313 [.inl (Int32.ofInt 1)] s) fun x2 s1 =>
        u g_t290 4 ((u_l1 (u_l1 li 1 ((li 1) ||| (x2 <<< ((li 2) &&& 31)))) 2 ((li 2) + (Int32.ofInt 1))), ll, [(0, 67)]) [] s1
      else
        u_bi (u_c 313 [.inl (Int32.ofInt 0)] s) fun x4 s3 =>
        u g_t290 4 ((u_l1 (u_l1 li 1 ((li 1) ||| (x4 <<< ((li 2) &&& 31)))) 2 ((li 2) + (Int32.ofInt 1))), ll, [(0, 67)]) [] s3
    else
      none := (u_E (5, 17, 5, 5) [4] 120 g_t290 4 _ _ _).trans rfl
/-! 291 GoodbyeQuayModel.sailsAt(I)I -/
set_option maxRecDepth 4000 in
theorem b_291 (p1 : Int32) (s : u_H) : u_c 291 [.inr (.inr 67), .inl p1] s =
  if u_in p1 5 = true then
    u_bi (u_c 216 [.inl (s.1 86 24), .inl p1] s) fun x2 s1 =>
    if x2 = 0 then
      if p1 = (s1.1 65 29) then
        some (some (.inl (((s.1 80 (p1.toNatClampNeg)) + (Int32.ofInt 0)) + (s1.1 65 30))), s1)
      else
        some (some (.inl (((s.1 80 (p1.toNatClampNeg)) + (Int32.ofInt 0)) + (Int32.ofInt 0))), s1)
    else
      if u_in p1 5 = true then
        if p1 = (s1.1 65 29) then
          some (some (.inl (((s.1 80 (p1.toNatClampNeg)) + (s1.1 81 (p1.toNatClampNeg))) + (s1.1 65 30))), s1)
        else
          some (some (.inl (((s.1 80 (p1.toNatClampNeg)) + (s1.1 81 (p1.toNatClampNeg))) + (Int32.ofInt 0))), s1)
      else
        none
  else
    none := (u_cE (t := g_t291) rfl _ _).trans ((u_E (5, 17, 5, 5) [] 120 g_t291 0 _ _ _).trans rfl)
/-! 292 GoodbyeQuayModel.says(I)I -/
set_option maxRecDepth 4000 in
theorem b_292 (p1 : Int32) (s : u_H) : u_c 292 [.inr (.inr 67), .inl p1] s =
  u_bi (u_c 234 [.inr (.inr 67), .inl p1] s) fun x2 s1 =>
  if x2 = 0 then
    some (some (.inl (u_k (-1))), s1)
  else
    u_bv (u_c 203 [.inr (.inr 67)] s1) fun s3 =>
    u_bv (u_c 213 [.inr (.inr 67)] s3) fun s4 =>
    u_bi (u_c 288 [.inr (.inr 67), .inl p1] s4) fun x6 s5 =>
    u_bi (u_c 268 [.inl x6] s5) fun x8 s7 =>
    some (some (.inl x8), s7) := (u_cE (t := g_t292) rfl _ _).trans ((u_E (5, 17, 5, 5) [] 120 g_t292 0 _ _ _).trans rfl)
/-! 293 GoodbyeQuayModel.saysNow(I)I -/
set_option maxRecDepth 4000 in
theorem b_293 (p1 : Int32) (s : u_H) : u_c 293 [.inr (.inr 67), .inl p1] s =
  u_bv (u_c 203 [.inr (.inr 67)] s) fun s1 =>
  u_bv (u_c 213 [.inr (.inr 67)] s1) fun s2 =>
  u_bi (u_c 288 [.inr (.inr 67), .inl p1] s2) fun x4 s3 =>
  some (some (.inl x4), s3) := (u_cE (t := g_t293) rfl _ _).trans ((u_E (5, 17, 5, 5) [] 120 g_t293 0 _ _ _).trans rfl)
/-! 294 GoodbyeQuayModel.saysWithout(II)I -/
set_option maxRecDepth 4000 in
theorem b_294 (p1 : Int32) (p2 : Int32) (s : u_H) : u_c 294 [.inr (.inr 67), .inl p1, .inl p2] s =
  u_bv (u_c 203 [.inr (.inr 67)] s) fun s1 =>
  u_bi (u_c 272 [.inr (.inr 67), .inl p2] s1) fun x3 s2 =>
  u_bi (u_c 307 [.inr (.inr 67), .inl x3] s2) fun x5 s4 =>
  if u_in ((Int32.ofInt 9) + x5) 28 = true then
    u_bv (u_c 213 [.inr (.inr 67)] ((y_u s4.1 86 (((Int32.ofInt 9) + x5).toNatClampNeg) (Int32.ofInt 4)), s4.2)) fun s6 =>
    u_bi (u_c 288 [.inr (.inr 67), .inl p1] s6) fun x8 s7 =>
    some (some (.inl x8), s7)
  else
    none := (u_cE (t := g_t294) rfl _ _).trans ((u_E (5, 17, 5, 5) [] 120 g_t294 0 _ _ _).trans rfl)
/-! 295 GoodbyeQuayModel.second()I -/
set_option maxRecDepth 4000 in
theorem b_295 (s : u_H) : u_c 295 [.inr (.inr 67)] s =
  u_bv (u_c 203 [.inr (.inr 67)] s) fun s1 =>
  u_bi (u_c 251 [.inl (Int32.ofInt 3), .inl ((s1.1 65 50) + (Int32.ofInt 1))] s1) fun x3 s2 =>
  u_bi (u_c 189 [.inr (.inr 67)] ((y_u s2.1 65 28 x3), s2.2)) fun x5 s4 =>
  some (some (.inl x5), s4) := (u_cE (t := g_t295) rfl _ _).trans ((u_E (5, 17, 5, 5) [] 120 g_t295 0 _ _ _).trans rfl)
/-! 296 GoodbyeQuayModel.seen(IIZ)I -/
set_option maxRecDepth 4000 in
theorem b_296 (p1 : Int32) (p2 : Int32) (p3 : Int32) (s : u_H) : u_c 296 [.inr (.inr 67), .inl p1, .inl p2, .inl p3] s =
  u_bi (u_c 230 [.inl p1, .inl (Int32.ofInt 0), .inl (Int32.ofInt 60)] s) fun x2 s1 =>
  if x2 = 0 then
    some (some (.inl (u_k (-1))), s1)
  else
    u_bi (u_c 230 [.inl p2, .inl (Int32.ofInt 0), .inl (Int32.ofInt 7)] s1) fun x4 s3 =>
    if x4 = 0 then
      some (some (.inl (u_k (-1))), s3)
    else
      if (s3.1 65 48) = 0 then
        some (some (.inl (u_k (-1))), s3)
      else
        if (s3.1 65 78) = (Int32.ofInt 30) then
          some (some (.inl (u_k (-1))), s3)
        else
          if u_in (s3.1 65 78) 30 = true then
            if u_in (s3.1 65 78) 30 = true then
              if u_in (s3.1 65 78) 30 = true then
                if q_ib p3 = true then
                  if u_in (s3.1 65 78) 30 = true then
                    if u_in (s3.1 65 78) 30 = true then
                      some (some (.inl (((s3.1 65 78) + (Int32.ofInt 1)) - (Int32.ofInt 1))), ((y_u (y_u (y_u (y_u (y_u (y_u s3.1 96 ((s3.1 65 78).toNatClampNeg) p1) 97 ((s3.1 65 78).toNatClampNeg) p2) 100 ((s3.1 65 78).toNatClampNeg) p3) 98 ((s3.1 65 78).toNatClampNeg) (s3.1 65 79)) 99 ((s3.1 65 78).toNatClampNeg) (u_k (-1))) 65 78 ((s3.1 65 78) + (Int32.ofInt 1))), s3.2))
                    else
                      none
                  else
                    none
                else
                  none
              else
                none
            else
              none
          else
            none := (u_cE (t := g_t296) rfl _ _).trans ((u_E (5, 17, 5, 5) [] 120 g_t296 0 _ _ _).trans rfl)
/-! 297 GoodbyeQuayModel.ship(II)I -/
set_option maxRecDepth 4000 in
theorem b_297 (p1 : Int32) (p2 : Int32) (s : u_H) : u_c 297 [.inr (.inr 67), .inl p1, .inl p2] s =
  u_bi (u_c 236 [.inr (.inr 67), .inl p1] s) fun x2 s1 =>
  if x2 = 0 then
    some (some (.inl (u_k (-1))), s1)
  else
    u_bv (u_c 203 [.inr (.inr 67)] s1) fun s3 =>
    u g_t297 19 ((u_l1 (u_l1 (u_l1 (u_l1 u_z1 1 p1) 2 p2) 3 (Int32.ofInt 0)) 4 (Int32.ofInt 0)), u_z2, [(0, 67)]) [] s3 := (u_cE (t := g_t297) rfl _ _).trans ((u_E (5, 17, 5, 5) [19] 120 g_t297 0 _ _ _).trans rfl)
set_option maxRecDepth 4000 in
theorem b_297_19 (li : Nat → Int32) (ll : Nat → Int64) (s : u_H) : u g_t297 19 (li, ll, [(0, 67)]) [] s =
  if (li 4) < (s.1 65 48) then
    if u_in (li 4) 8 = true then
      if (s.1 82 ((li 4).toNatClampNeg)) = (li 1) then
        u_bi (u_c 313 [.inl (Int32.ofInt 1)] s) fun x2 s1 =>
        u g_t297 19 ((u_l1 (u_l1 li 3 ((li 3) ||| (x2 <<< ((li 4) &&& 31)))) 4 ((li 4) + (Int32.ofInt 1))), ll, [(0, 67)]) [] s1
      else
        u_bi (u_c 313 [.inl (Int32.ofInt 0)] s) fun x4 s3 =>
        u g_t297 19 ((u_l1 (u_l1 li 3 ((li 3) ||| (x4 <<< ((li 4) &&& 31)))) 4 ((li 4) + (Int32.ofInt 1))), ll, [(0, 67)]) [] s3
    else
      none
  else
    if (li 2) = (Int32.ofInt 0) then
      u_bi (u_c 291 [.inr (.inr 67), .inl (li 1)] s) fun x6 s5 =>
      some (some (.inl x6), s5)
    else
      if (li 2) = (Int32.ofInt 1) then
        if u_in (li 1) 5 = true then
          some (some (.inl (s.1 81 ((li 1).toNatClampNeg))), s)
        else
          none
      else
        if (li 2) = (Int32.ofInt 2) then
          u_bi (u_c 216 [.inl (s.1 85 24), .inl (li 1)] s) fun x8 s7 =>
          u_bi (u_c 313 [.inl x8] s7) fun x10 s9 =>
          some (some (.inl x10), s9)
        else
          if (li 2) = (Int32.ofInt 3) then
            u_bi (u_c 229 [.inr (.inr 67), .inl (li 1)] s) fun x12 s11 =>
            u_bi (u_c 313 [.inl x12] s11) fun x14 s13 =>
            some (some (.inl x14), s13)
          else
            if (li 2) = (Int32.ofInt 4) then
              some (some (.inl (li 3)), s)
            else
              some (some (.inl (u_k (-1))), s) := (u_E (5, 17, 5, 5) [19] 120 g_t297 19 _ _ _).trans rfl
/-! 298 GoodbyeQuayModel.shorten(I)I -/
set_option maxRecDepth 4000 in
theorem b_298 (p1 : Int32) (s : u_H) : u_c 298 [.inr (.inr 67), .inl p1] s =
  u_bi (u_c 235 [.inr (.inr 67), .inl p1] s) fun x2 s1 =>
  if x2 = 0 then
    some (some (.inl (u_k (-1))), s1)
  else
    u_bi (u_c 216 [.inl (s1.1 85 17), .inl p1] s1) fun x4 s3 =>
    if x4 = 0 then
      u_bi (u_c 314 [.inr (.inr 67), .inl p1] s3) fun x6 s5 =>
      some (some (.inl x6), s5)
    else
      some (some (.inl (u_k (-1))), s3) := (u_cE (t := g_t298) rfl _ _).trans ((u_E (5, 17, 5, 5) [] 120 g_t298 0 _ _ _).trans rfl)
/-! 299 GoodbyeQuayModel.shortest(I)I -/
set_option maxRecDepth 4000 in
theorem b_299 (p1 : Int32) (s : u_H) : u_c 299 [.inr (.inr 67), .inl p1] s =
  u_bi (u_c 230 [.inl p1, .inl (Int32.ofInt 0), .inl (Int32.ofInt 1)] s) fun x2 s1 =>
  if x2 = 0 then
    some (some (.inl (u_k (-1))), s1)
  else
    u_bi (u_c 278 [.inr (.inr 67)] s1) fun x4 s3 =>
    u g_t299 31 ((u_l1 (u_l1 (u_l1 (u_l1 u_z1 1 p1) 2 (x4 &&& ((s3.1 85 17) ^^^ (u_k (-1))))) 3 (u_k (-1))) 4 (Int32.ofInt 0)), u_z2, [(0, 67)]) [] s3 := (u_cE (t := g_t299) rfl _ _).trans ((u_E (5, 17, 5, 5) [31, 65] 120 g_t299 0 _ _ _).trans rfl)
set_option maxRecDepth 4000 in
theorem b_299_31 (li : Nat → Int32) (ll : Nat → Int64) (s : u_H) : u g_t299 31 (li, ll, [(0, 67)]) [] s =
  if (li 2) < (li 4) then
    if (li 3) < 0 then
      some (some (.inl (u_k (-1))), s)
    else
      if (li 1) = 0 then
        u_bi (u_c 259 [.inl (li 3)] s) fun x2 s1 =>
        some (some (.inl x2), s1)
      else
        some (some (.inl (li 3)), s)
  else
    if ((li 4) &&& ((li 2) ^^^ (u_k (-1)))) = 0 then
      if (li 3) < 0 then
        u g_t299 65 (li, ll, [(0, 67)]) [] s
      else
        u_bi (u_c 259 [.inl (li 4)] s) fun x4 s3 =>
        u_bi (u_c 259 [.inl (li 3)] s3) fun x6 s5 =>
        if x4 < x6 then
          u g_t299 65 (li, ll, [(0, 67)]) [] s5
        else
          u g_t299 31 ((u_l1 li 4 ((li 4) + (Int32.ofInt 1))), ll, [(0, 67)]) [] s5
    else
      u g_t299 31 ((u_l1 li 4 ((li 4) + (Int32.ofInt 1))), ll, [(0, 67)]) [] s := (u_E (5, 17, 5, 5) [31, 65] 120 g_t299 31 _ _ _).trans rfl
set_option maxRecDepth 4000 in
theorem b_299_65 (li : Nat → Int32) (ll : Nat → Int64) (s : u_H) : u g_t299 65 (li, ll, [(0, 67)]) [] s =
  u_bv (u_c 203 [.inr (.inr 67)] s) fun s1 =>
  u_bi (u_c 278 [.inr (.inr 67)] ((y_u s1.1 86 17 ((s1.1 86 17) ||| (li 4))), s1.2)) fun x3 s2 =>
  u_bi (u_c 280 [.inr (.inr 67)] s2) fun x5 s4 =>
  u_bi (u_c 195 [.inr (.inr 67), .inl (x3 ||| x5)] s4) fun x7 s6 =>
  if x7 = 0 then
    u g_t299 31 ((u_l1 li 4 ((li 4) + (Int32.ofInt 1))), ll, [(0, 67)]) [] s6
  else
    u g_t299 31 ((u_l1 (u_l1 li 3 (li 4)) 4 ((li 4) + (Int32.ofInt 1))), ll, [(0, 67)]) [] s6 := (u_E (5, 17, 5, 5) [31, 65] 120 g_t299 65 _ _ _).trans rfl
/-! 300 GoodbyeQuayModel.sign()I -/
set_option maxRecDepth 4000 in
theorem b_300 (s : u_H) : u_c 300 [.inr (.inr 67)] s =
  u_bi (u_c 238 [.inr (.inr 67), .inr (.inl (u_k6 6385252))] s) fun x2 s1 =>
  if x2 = 0 then
    u_bi (u_c 238 [.inr (.inr 67), .inr (.inl (u_k6 28530))] s1) fun x4 s3 =>
    if x4 = 0 then
      if (s3.1 65 6) = (Int32.ofInt 60) then
        some (some (.inl (s3.1 65 6)), s3)
      else
        if (s3.1 65 6) = (Int32.ofInt 62) then
          some (some (.inl (s3.1 65 6)), s3)
        else
          if (s3.1 65 6) = (Int32.ofInt 61) then
            some (some (.inl (s3.1 65 6)), s3)
          else
            if (s3.1 65 6) = (Int32.ofInt 43) then
              some (some (.inl (s3.1 65 6)), s3)
            else
              if (s3.1 65 6) = (Int32.ofInt 45) then
                some (some (.inl (s3.1 65 6)), s3)
              else
                if (s3.1 65 6) = (Int32.ofInt 42) then
                  some (some (.inl (s3.1 65 6)), s3)
                else
                  if (s3.1 65 6) = (Int32.ofInt 47) then
                    some (some (.inl (s3.1 65 6)), s3)
                  else
                    if (s3.1 65 6) = (Int32.ofInt 37) then
                      some (some (.inl (s3.1 65 6)), s3)
                    else
                      some (some (.inl (Int32.ofInt 0)), s3)
    else
      some (some (.inl (Int32.ofInt 124)), s3)
  else
    some (some (.inl (Int32.ofInt 38)), s1) := (u_cE (t := g_t300) rfl _ _).trans ((u_E (5, 17, 5, 5) [] 120 g_t300 0 _ _ _).trans rfl)
/-! 301 GoodbyeQuayModel.soonest()I -/
set_option maxRecDepth 4000 in
theorem b_301 (s : u_H) : u_c 301 [.inr (.inr 67)] s =
  u_bv (u_c 203 [.inr (.inr 67)] s) fun s1 =>
  u g_t301 8 ((u_l1 (u_l1 u_z1 1 (u_k (-1))) 2 (Int32.ofInt 0)), u_z2, [(0, 67)]) [] s1 := (u_cE (t := g_t301) rfl _ _).trans ((u_E (5, 17, 5, 5) [8] 120 g_t301 0 _ _ _).trans rfl)
set_option maxRecDepth 4000 in
theorem b_301_8 (li : Nat → Int32) (ll : Nat → Int64) (s : u_H) : u g_t301 8 (li, ll, [(0, 67)]) [] s =
  if (li 2) < (s.1 65 47) then
    u_bi (u_c 229 [.inr (.inr 67), .inl (li 2)] s) fun x2 s1 =>
    if x2 = 0 then
      if (li 1) < 0 then
        u g_t301 8 ((u_l1 (u_l1 li 1 (li 2)) 2 ((li 2) + (Int32.ofInt 1))), ll, [(0, 67)]) [] s1
      else
        u_bi (u_c 291 [.inr (.inr 67), .inl (li 2)] s1) fun x4 s3 =>
        u_bi (u_c 291 [.inr (.inr 67), .inl (li 1)] s3) fun x6 s5 =>
        if x4 < x6 then
          u g_t301 8 ((u_l1 (u_l1 li 1 (li 2)) 2 ((li 2) + (Int32.ofInt 1))), ll, [(0, 67)]) [] s5
        else
          u g_t301 8 ((u_l1 li 2 ((li 2) + (Int32.ofInt 1))), ll, [(0, 67)]) [] s5
    else
      u g_t301 8 ((u_l1 li 2 ((li 2) + (Int32.ofInt 1))), ll, [(0, 67)]) [] s1
  else
    some (some (.inl (li 1)), s) := (u_E (5, 17, 5, 5) [8] 120 g_t301 8 _ _ _).trans rfl
/-! 302 GoodbyeQuayModel.spare(I)I -/
set_option maxRecDepth 4000 in
theorem b_302 (p1 : Int32) (s : u_H) : u_c 302 [.inr (.inr 67), .inl p1] s =
  u_bi (u_c 230 [.inl p1, .inl (Int32.ofInt 0), .inl (Int32.ofInt 1)] s) fun x2 s1 =>
  if x2 = 0 then
    some (some (.inl (u_k (-1))), s1)
  else
    u_bi (u_c 278 [.inr (.inr 67)] s1) fun x4 s3 =>
    u g_t302 21 ((u_l1 (u_l1 (u_l1 (u_l1 u_z1 1 p1) 2 x4) 3 (u_k (-1))) 4 (Int32.ofInt 0)), u_z2, [(0, 67)]) [] s3 := (u_cE (t := g_t302) rfl _ _).trans ((u_E (5, 17, 5, 5) [21, 55] 120 g_t302 0 _ _ _).trans rfl)
set_option maxRecDepth 4000 in
theorem b_302_21 (li : Nat → Int32) (ll : Nat → Int64) (s : u_H) : u g_t302 21 (li, ll, [(0, 67)]) [] s =
  if (li 2) < (li 4) then
    if (li 3) < 0 then
      some (some (.inl (u_k (-1))), s)
    else
      if (li 1) = 0 then
        u_bi (u_c 259 [.inl (li 3)] s) fun x2 s1 =>
        some (some (.inl x2), s1)
      else
        some (some (.inl (li 3)), s)
  else
    if ((li 4) &&& ((li 2) ^^^ (u_k (-1)))) = 0 then
      if (li 3) < 0 then
        u g_t302 55 (li, ll, [(0, 67)]) [] s
      else
        u_bi (u_c 259 [.inl (li 4)] s) fun x4 s3 =>
        u_bi (u_c 259 [.inl (li 3)] s3) fun x6 s5 =>
        if x4 < x6 then
          u g_t302 55 (li, ll, [(0, 67)]) [] s5
        else
          u g_t302 21 ((u_l1 li 4 ((li 4) + (Int32.ofInt 1))), ll, [(0, 67)]) [] s5
    else
      u g_t302 21 ((u_l1 li 4 ((li 4) + (Int32.ofInt 1))), ll, [(0, 67)]) [] s := (u_E (5, 17, 5, 5) [21, 55] 120 g_t302 21 _ _ _).trans rfl
set_option maxRecDepth 4000 in
theorem b_302_55 (li : Nat → Int32) (ll : Nat → Int64) (s : u_H) : u g_t302 55 (li, ll, [(0, 67)]) [] s =
  u_bv (u_c 203 [.inr (.inr 67)] s) fun s1 =>
  u_bv (u_c 246 [.inr (.inr 67), .inl ((li 2) &&& ((li 4) ^^^ (u_k (-1))))] s1) fun s2 =>
  u_bi (u_c 280 [.inr (.inr 67)] s2) fun x4 s3 =>
  u_bi (u_c 195 [.inr (.inr 67), .inl (((li 2) &&& ((li 4) ^^^ (u_k (-1)))) ||| x4)] s3) fun x6 s5 =>
  if x6 = 0 then
    u g_t302 21 ((u_l1 li 4 ((li 4) + (Int32.ofInt 1))), ll, [(0, 67)]) [] s5
  else
    u g_t302 21 ((u_l1 (u_l1 li 3 (li 4)) 4 ((li 4) + (Int32.ofInt 1))), ll, [(0, 67)]) [] s5 := (u_E (5, 17, 5, 5) [21, 55] 120 g_t302 55 _ _ _).trans rfl
/-! 303 GoodbyeQuayModel.steps(I)I -/
set_option maxRecDepth 4000 in
theorem b_303 (p1 : Int32) (s : u_H) : u_c 303 [.inr (.inr 67), .inl p1] s =
  u_bi (u_c 235 [.inr (.inr 67), .inl p1] s) fun x2 s1 =>
  if x2 = 0 then
    some (some (.inl (u_k (-1))), s1)
  else
    u_bv (u_c 203 [.inr (.inr 67)] s1) fun s3 =>
    u_bv (u_c 213 [.inr (.inr 67)] s3) fun s4 =>
    if u_in p1 8 = true then
      some (some (.inl (s4.1 90 (p1.toNatClampNeg))), s4)
    else
      none := (u_cE (t := g_t303) rfl _ _).trans ((u_E (5, 17, 5, 5) [] 120 g_t303 0 _ _ _).trans rfl)
/-! 304 GoodbyeQuayModel.stepsUp(IZ)V -/
set_option maxRecDepth 4000 in
theorem b_304 (p1 : Int32) (p2 : Int32) (s : u_H) : u_c 304 [.inr (.inr 67), .inl p1, .inl p2] s =
  u g_t304 0 ((u_l1 (u_l1 u_z1 1 p1) 2 p2), u_z2, [(0, 67)]) [] s := u_cE (t := g_t304) rfl _ _
set_option maxRecDepth 4000 in
theorem b_304_0 (li : Nat → Int32) (ll : Nat → Int64) (s : u_H) : u g_t304 0 (li, ll, [(0, 67)]) [] s =
  u_bi (u_c 277 [.inr (.inr 67)] s) fun x2 s1 =>
  if 0 < x2 then
    if u_in (s1.1 86 0) 8 = true then
      u_bi (u_c 229 [.inr (.inr 67), .inl (s1.1 82 ((s1.1 86 0).toNatClampNeg))] s1) fun x4 s3 =>
      if x4 = 0 then
        u g_t304 37 (li, ll, [(0, 67)]) [] s3
      else
        u_bi (u_c 307 [.inr (.inr 67), .inl (Int32.ofInt 0)] s3) fun x6 s5 =>
        u_bv (u_c 261 [.inr (.inr 67), .inl x6] s5) fun s7 =>
        u g_t304 0 (li, ll, [(0, 67)]) [] s7
    else
      none
  else
    u g_t304 37 (li, ll, [(0, 67)]) [] s1 := (u_E (5, 17, 5, 5) [0, 37, 123] 120 g_t304 0 _ _ _).trans rfl
set_option maxRecDepth 4000 in
theorem b_304_37 (li : Nat → Int32) (ll : Nat → Int64) (s : u_H) : u g_t304 37 (li, ll, [(0, 67)]) [] s =
  u_bi (u_c 277 [.inr (.inr 67)] s) fun x2 s1 =>
  if x2 = 0 then
    some (none, s1)
  else
    u_bi (u_c 277 [.inr (.inr 67)] s1) fun x4 s3 =>
    u_bi (u_c 250 [.inr (.inr 67), .inl (s1.1 86 0), .inl (x4 - (Int32.ofInt 1))] s3) fun x6 s5 =>
    u_bi (u_c 307 [.inr (.inr 67), .inl (Int32.ofInt 0)] s5) fun x8 s7 =>
    if (li 2) = 0 then
      u g_t304 123 ((u_l1 (u_l1 li 3 x6) 4 x8), ll, [(0, 67)]) [] s7
    else
      if (u_k 1000) = 0 then
        none
      else
        if (((((s7.1 86 27) * (u_k 137)) + (Int32.ofInt 71)) - (((s7.1 86 27) * (u_k 137)) + (Int32.ofInt 71)) / (u_k 1000) * (u_k 1000)) - ((((s7.1 86 27) * (u_k 137)) + (Int32.ofInt 71)) - (((s7.1 86 27) * (u_k 137)) + (Int32.ofInt 71)) / (u_k 1000) * (u_k 1000)) / (Int32.ofInt 100) * (Int32.ofInt 100)) < (s7.1 65 51) then
          u g_t304 123 ((u_l1 (u_l1 (u_l1 li 3 x6) 4 x8) 3 (x6 + (Int32.ofInt 3))), ll, [(0, 67)]) [] ((y_u s7.1 86 27 ((((s7.1 86 27) * (u_k 137)) + (Int32.ofInt 71)) - (((s7.1 86 27) * (u_k 137)) + (Int32.ofInt 71)) / (u_k 1000) * (u_k 1000))), s7.2)
        else
          u g_t304 123 ((u_l1 (u_l1 (u_l1 li 3 x6) 4 x8) 3 (x6 + (Int32.ofInt 0))), ll, [(0, 67)]) [] ((y_u s7.1 86 27 ((((s7.1 86 27) * (u_k 137)) + (Int32.ofInt 71)) - (((s7.1 86 27) * (u_k 137)) + (Int32.ofInt 71)) / (u_k 1000) * (u_k 1000))), s7.2) := (u_E (5, 17, 5, 5) [0, 37, 123] 120 g_t304 37 _ _ _).trans rfl
set_option maxRecDepth 4000 in
theorem b_304_123 (li : Nat → Int32) (ll : Nat → Int64) (s : u_H) : u g_t304 123 (li, ll, [(0, 67)]) [] s =
  if u_in ((Int32.ofInt 9) + (li 4)) 28 = true then
    if u_in ((Int32.ofInt 18) + (li 1)) 28 = true then
      if u_in ((Int32.ofInt 21) + (li 1)) 28 = true then
        if u_in (li 4) 8 = true then
          some (none, ((y_u (y_u (y_u (y_u s.1 86 (((Int32.ofInt 9) + (li 4)).toNatClampNeg) (Int32.ofInt 1)) 86 (((Int32.ofInt 18) + (li 1)).toNatClampNeg) (li 4)) 86 (((Int32.ofInt 21) + (li 1)).toNatClampNeg) (li 3)) 90 ((li 4).toNatClampNeg) (s.1 65 62)), s.2))
        else
          none
      else
        none
    else
      none
  else
    none := (u_E (5, 17, 5, 5) [0, 37, 123] 120 g_t304 123 _ _ _).trans rfl
/-! 305 GoodbyeQuayModel.sure(II)I -/
set_option maxRecDepth 4000 in
theorem b_305 (p1 : Int32) (p2 : Int32) (s : u_H) : u_c 305 [.inr (.inr 67), .inl p1, .inl p2] s =
  u_bi (u_c 230 [.inl p1, .inl (Int32.ofInt 0), .inl (Int32.ofInt 1)] s) fun x2 s1 =>
  if x2 = 0 then
    some (some (.inl (u_k (-1))), s1)
  else
    u_bi (u_c 244 [.inr (.inr 67), .inl p2] s1) fun x4 s3 =>
    if x4 = 0 then
      some (some (.inl (u_k (-1))), s3)
    else
      u g_t305 24 ((u_l1 (u_l1 (u_l1 (u_l1 u_z1 1 p1) 2 p2) 3 (u_k (-1))) 4 (Int32.ofInt 1)), u_z2, [(0, 67)]) [] s3 := (u_cE (t := g_t305) rfl _ _).trans ((u_E (5, 17, 5, 5) [24] 120 g_t305 0 _ _ _).trans rfl)
set_option maxRecDepth 4000 in
theorem b_305_24 (li : Nat → Int32) (ll : Nat → Int64) (s : u_H) : u g_t305 24 (li, ll, [(0, 67)]) [] s =
  if (Int32.ofInt 30) < (li 4) then
    some (some (.inl (li 3)), s)
  else
    if u_in (li 4) 31 = true then
      if (s.1 103 ((li 4).toNatClampNeg)) = 0 then
        u g_t305 24 ((u_l1 li 4 ((li 4) + (Int32.ofInt 1))), ll, [(0, 67)]) [] s
      else
        if (li 3) < 0 then
          u g_t305 24 ((u_l1 (u_l1 li 3 (li 4)) 4 ((li 4) + (Int32.ofInt 1))), ll, [(0, 67)]) [] s
        else
          if (li 1) = (Int32.ofInt 1) then
            u g_t305 24 ((u_l1 (u_l1 li 3 (li 4)) 4 ((li 4) + (Int32.ofInt 1))), ll, [(0, 67)]) [] s
          else
            u g_t305 24 ((u_l1 li 4 ((li 4) + (Int32.ofInt 1))), ll, [(0, 67)]) [] s
    else
      none := (u_E (5, 17, 5, 5) [24] 120 g_t305 24 _ _ _).trans rfl
/-! 306 GoodbyeQuayModel.swap(I)I -/
set_option maxRecDepth 4000 in
theorem b_306 (p1 : Int32) (s : u_H) : u_c 306 [.inr (.inr 67), .inl p1] s =
  u_bi (u_c 230 [.inl p1, .inl (Int32.ofInt 0), .inl (Int32.ofInt 2)] s) fun x2 s1 =>
  if x2 = 0 then
    some (some (.inl (u_k (-1))), s1)
  else
    u_bi (u_c 188 [.inr (.inr 67)] s1) fun x4 s3 =>
    u g_t306 24 ((u_l1 (u_l1 (u_l1 (u_l1 (u_l1 u_z1 1 p1) 2 (u_k (-1))) 3 (u_k (-1))) 4 x4) 5 (Int32.ofInt 0)), u_z2, [(0, 67)]) [] s3 := (u_cE (t := g_t306) rfl _ _).trans ((u_E (5, 17, 5, 5) [24, 39] 120 g_t306 0 _ _ _).trans rfl)
set_option maxRecDepth 4000 in
theorem b_306_24 (li : Nat → Int32) (ll : Nat → Int64) (s : u_H) : u g_t306 24 (li, ll, [(0, 67)]) [] s =
  if (li 5) < (s.1 65 48) then
    u g_t306 39 ((u_l1 li 6 ((li 5) + (Int32.ofInt 1))), ll, [(0, 67)]) [] s
  else
    if (li 2) < 0 then
      some (some (.inl (u_k (-1))), s)
    else
      if (li 1) = 0 then
        some (some (.inl (li 2)), s)
      else
        if (li 1) = (Int32.ofInt 1) then
          some (some (.inl (li 3)), s)
        else
          some (some (.inl (li 4)), s) := (u_E (5, 17, 5, 5) [24, 39] 120 g_t306 24 _ _ _).trans rfl
set_option maxRecDepth 4000 in
theorem b_306_39 (li : Nat → Int32) (ll : Nat → Int64) (s : u_H) : u g_t306 39 (li, ll, [(0, 67)]) [] s =
  if (li 6) < (s.1 65 48) then
    u_bi (u_c 235 [.inr (.inr 67), .inl (li 5)] s) fun x2 s1 =>
    if x2 = 0 then
      u g_t306 39 ((u_l1 li 6 ((li 6) + (Int32.ofInt 1))), ll, [(0, 67)]) [] s1
    else
      u_bi (u_c 235 [.inr (.inr 67), .inl (li 6)] s1) fun x4 s3 =>
      if x4 = 0 then
        u g_t306 39 ((u_l1 li 6 ((li 6) + (Int32.ofInt 1))), ll, [(0, 67)]) [] s3
      else
        u_bv (u_c 203 [.inr (.inr 67)] s3) fun s5 =>
        u_bv (u_c 186 [.inr (.inr 67), .inl (li 5), .inl (li 6)] s5) fun s6 =>
        u_bi (u_c 189 [.inr (.inr 67)] s6) fun x8 s7 =>
        if (li 4) < x8 then
          u g_t306 39 ((u_l1 (u_l1 (u_l1 (u_l1 (u_l1 li 7 x8) 2 (li 5)) 3 (li 6)) 4 x8) 6 ((li 6) + (Int32.ofInt 1))), ll, [(0, 67)]) [] s7
        else
          u g_t306 39 ((u_l1 (u_l1 li 7 x8) 6 ((li 6) + (Int32.ofInt 1))), ll, [(0, 67)]) [] s7
  else
    u g_t306 24 ((u_l1 li 5 ((li 5) + (Int32.ofInt 1))), ll, [(0, 67)]) [] s := (u_E (5, 17, 5, 5) [24, 39] 120 g_t306 39 _ _ _).trans rfl
/-! 307 GoodbyeQuayModel.takeOut(I)I -/
set_option maxRecDepth 4000 in
theorem b_307 (p1 : Int32) (s : u_H) : u_c 307 [.inr (.inr 67), .inl p1] s =
  if u_in p1 28 = true then
    u g_t307 9 ((u_l1 (u_l1 (u_l1 u_z1 1 p1) 2 (s.1 86 (p1.toNatClampNeg))) 3 p1), u_z2, [(0, 67)]) [] s
  else
    none := (u_cE (t := g_t307) rfl _ _).trans ((u_E (5, 17, 5, 5) [9] 120 g_t307 0 _ _ _).trans rfl)
set_option maxRecDepth 4000 in
theorem b_307_9 (li : Nat → Int32) (ll : Nat → Int64) (s : u_H) : u g_t307 9 (li, ll, [(0, 67)]) [] s =
  u_bi (u_c 277 [.inr (.inr 67)] s) fun x2 s1 =>
  if (li 3) < (x2 - (Int32.ofInt 1)) then
    if u_in ((li 3) + (Int32.ofInt 1)) 28 = true then
      if u_in (li 3) 28 = true then
        u g_t307 9 ((u_l1 li 3 ((li 3) + (Int32.ofInt 1))), ll, [(0, 67)]) [] ((y_u s1.1 86 ((li 3).toNatClampNeg) (s1.1 86 (((li 3) + (Int32.ofInt 1)).toNatClampNeg))), s1.2)
      else
        none
    else
      none
  else
    some (some (.inl (li 2)), ((y_u s1.1 86 8 ((s1.1 86 8) - (Int32.ofInt 1))), s1.2)) := (u_E (5, 17, 5, 5) [9] 120 g_t307 9 _ _ _).trans rfl
/-! 308 GoodbyeQuayModel.tight(I)I -/
set_option maxRecDepth 4000 in
theorem b_308 (p1 : Int32) (s : u_H) : u_c 308 [.inl p1] s =
  if p1 = (Int32.ofInt 21) then
    some (some (.inl (Int32.ofInt 3)), s)
  else
    if p1 = (Int32.ofInt 38) then
      some (some (.inl (Int32.ofInt 2)), s)
    else
      if p1 = (Int32.ofInt 43) then
        some (some (.inl (Int32.ofInt 5)), s)
      else
        if p1 = (Int32.ofInt 45) then
          some (some (.inl (Int32.ofInt 5)), s)
        else
          if p1 = (Int32.ofInt 60) then
            some (some (.inl (Int32.ofInt 4)), s)
          else
            if p1 = (Int32.ofInt 61) then
              some (some (.inl (Int32.ofInt 4)), s)
            else
              if p1 = (Int32.ofInt 62) then
                some (some (.inl (Int32.ofInt 4)), s)
              else
                if p1 = (Int32.ofInt 124) then
                  some (some (.inl (Int32.ofInt 1)), s)
                else
                  some (some (.inl (Int32.ofInt 6)), s) := (u_cE (t := g_t308) rfl _ _).trans ((u_E (5, 17, 5, 5) [] 120 g_t308 0 _ _ _).trans rfl)
/-! 309 GoodbyeQuayModel.token()V -/
set_option maxRecDepth 4000 in
theorem b_309 (s : u_H) : u_c 309 [.inr (.inr 67)] s =
  u g_t309 0 (u_z1, u_z2, [(0, 67)]) [] s := u_cE (t := g_t309) rfl _ _
set_option maxRecDepth 4000 in
theorem b_309_0 (li : Nat → Int32) (ll : Nat → Int64) (s : u_H) : u g_t309 0 (li, ll, [(0, 67)]) [] s =
  u_bi (u_c 219 [.inr (.inr 67), .inl (Int32.ofInt 0)] s) fun x2 s1 =>
  if x2 = (Int32.ofInt 32) then
    u g_t309 0 (li, ll, [(0, 67)]) [] ((y_u s1.1 65 4 ((s1.1 65 4) + (Int32.ofInt 1))), s1.2)
  else
    u_bi (u_c 219 [.inr (.inr 67), .inl (Int32.ofInt 0)] s1) fun x4 s3 =>
    if x4 = (Int32.ofInt 10) then
      u g_t309 0 (li, ll, [(0, 67)]) [] ((y_u s3.1 65 4 ((s3.1 65 4) + (Int32.ofInt 1))), s3.2)
    else
      u_bi (u_c 219 [.inr (.inr 67), .inl (Int32.ofInt 0)] ((y_u s3.1 65 7 (s3.1 65 4)), s3.2)) fun x6 s5 =>
      if x6 < 0 then
        if (Int32.ofInt 0) = (Int32.ofInt 3) then
          some (none, ((y_u (y_u s5.1 65 8 (Int32.ofInt 0)) 65 6 (Int32.ofInt 0)), (y_u s5.2.1 65 9 (Int64.ofNat 0)), s5.2.2))
        else
          some (none, ((y_u (y_u (y_u s5.1 65 8 (Int32.ofInt 0)) 65 6 (Int32.ofInt 0)) 65 4 ((s5.1 65 4) + (Int32.ofInt 0))), (y_u s5.2.1 65 9 (Int64.ofNat 0)), s5.2.2))
      else
        u_bi (u_c 231 [.inl x6] ((y_u s5.1 65 8 (Int32.ofInt 0)), (y_u s5.2.1 65 9 (Int64.ofNat 0)), s5.2.2)) fun x8 s7 =>
        if x8 = 0 then
          u_bi (u_c 225 [.inl x6] s7) fun x10 s9 =>
          if x10 = 0 then
            u_bi (u_c 237 [.inl x6] s9) fun x12 s11 =>
            if x12 = 0 then
              if (Int32.ofInt 3) = (Int32.ofInt 3) then
                some (none, ((y_u s11.1 65 6 (Int32.ofInt 3)), s11.2))
              else
                some (none, ((y_u (y_u s11.1 65 6 (Int32.ofInt 3)) 65 4 ((s11.1 65 4) + (Int32.ofInt 1))), s11.2))
            else
              if x6 = (Int32.ofInt 3) then
                some (none, ((y_u s11.1 65 6 x6), s11.2))
              else
                some (none, ((y_u (y_u s11.1 65 6 x6) 65 4 ((s11.1 65 4) + (Int32.ofInt 1))), s11.2))
          else
            u g_t309 144 ((u_l1 (u_l1 li 1 x6) 2 (Int32.ofInt 0)), ll, [(0, 67)]) [] s9
        else
          u g_t309 78 ((u_l1 (u_l1 li 1 x6) 2 (Int32.ofInt 0)), ll, [(0, 67)]) [] s7 := (u_E (5, 17, 5, 5) [0, 78, 144, 203] 120 g_t309 0 _ _ _).trans rfl
set_option maxRecDepth 4000 in
theorem b_309_78 (li : Nat → Int32) (ll : Nat → Int64) (s : u_H) : u g_t309 78 (li, ll, [(0, 67)]) [] s =
  u_bi (u_c 219 [.inr (.inr 67), .inl (li 2)] s) fun x2 s1 =>
  u_bi (u_c 231 [.inl x2] s1) fun x4 s3 =>
  if x4 = 0 then
    if (Int32.ofInt 8) < (li 2) then
      if (Int32.ofInt 3) = (Int32.ofInt 3) then
        some (none, ((y_u s3.1 65 6 (Int32.ofInt 3)), s3.2))
      else
        some (none, ((y_u (y_u s3.1 65 6 (Int32.ofInt 3)) 65 4 ((s3.1 65 4) + (li 2))), s3.2))
    else
      if (Int32.ofInt 1) = (Int32.ofInt 3) then
        some (none, ((y_u s3.1 65 6 (Int32.ofInt 1)), s3.2))
      else
        some (none, ((y_u (y_u s3.1 65 6 (Int32.ofInt 1)) 65 4 ((s3.1 65 4) + (li 2))), s3.2))
  else
    if (li 2) < (Int32.ofInt 8) then
      u_bi (u_c 219 [.inr (.inr 67), .inl (li 2)] s3) fun x6 s5 =>
      u g_t309 78 ((u_l1 li 2 ((li 2) + (Int32.ofInt 1))), ll, [(0, 67)]) [] (s5.1, (y_u s5.2.1 65 9 (((s3.2.1 65 9) <<< ((Int32.ofInt 8).toInt64 &&& 63)) ||| x6.toInt64)), s5.2.2)
    else
      u g_t309 78 ((u_l1 li 2 ((li 2) + (Int32.ofInt 1))), ll, [(0, 67)]) [] s3 := (u_E (5, 17, 5, 5) [0, 78, 144, 203] 120 g_t309 78 _ _ _).trans rfl
set_option maxRecDepth 4000 in
theorem b_309_144 (li : Nat → Int32) (ll : Nat → Int64) (s : u_H) : u g_t309 144 (li, ll, [(0, 67)]) [] s =
  u_bi (u_c 219 [.inr (.inr 67), .inl (li 2)] s) fun x2 s1 =>
  u_bi (u_c 225 [.inl x2] s1) fun x4 s3 =>
  if x4 = 0 then
    if (Int32.ofInt 4) < (li 2) then
      u g_t309 203 (li, ll, [(0, 67)]) [.inr (.inr 67)] s3
    else
      u_bi (u_c 219 [.inr (.inr 67), .inl (li 2)] s3) fun x6 s5 =>
      u_bi (u_c 231 [.inl x6] s5) fun x8 s7 =>
      if x8 = 0 then
        if (Int32.ofInt 2) = (Int32.ofInt 3) then
          some (none, ((y_u s7.1 65 6 (Int32.ofInt 2)), s7.2))
        else
          some (none, ((y_u (y_u s7.1 65 6 (Int32.ofInt 2)) 65 4 ((s7.1 65 4) + (li 2))), s7.2))
      else
        u g_t309 203 (li, ll, [(0, 67)]) [.inr (.inr 67)] s7
  else
    if (li 2) < (Int32.ofInt 4) then
      u_bi (u_c 219 [.inr (.inr 67), .inl (li 2)] s3) fun x10 s9 =>
      u g_t309 144 ((u_l1 li 2 ((li 2) + (Int32.ofInt 1))), ll, [(0, 67)]) [] ((y_u s9.1 65 8 ((((Int32.ofInt 10) * (s3.1 65 8)) + x10) - (Int32.ofInt 48))), s9.2)
    else
      u g_t309 144 ((u_l1 li 2 ((li 2) + (Int32.ofInt 1))), ll, [(0, 67)]) [] s3 := (u_E (5, 17, 5, 5) [0, 78, 144, 203] 120 g_t309 144 _ _ _).trans rfl
set_option maxRecDepth 4000 in
theorem b_309_203 (li : Nat → Int32) (ll : Nat → Int64) (s : u_H) : u g_t309 203 (li, ll, [(0, 67)]) [.inr (.inr 67)] s =
  if (Int32.ofInt 3) = (Int32.ofInt 3) then
    some (none, ((y_u s.1 65 6 (Int32.ofInt 3)), s.2))
  else
    some (none, ((y_u (y_u s.1 65 6 (Int32.ofInt 3)) 65 4 ((s.1 65 4) + (li 2))), s.2)) := (u_E (5, 17, 5, 5) [0, 78, 144, 203] 120 g_t309 203 _ _ _).trans rfl
/-! 310 GoodbyeQuayModel.told(JII)I -/
set_option maxRecDepth 4000 in
theorem b_310 (l1 : Int64) (p2 : Int32) (p3 : Int32) (s : u_H) : u_c 310 [.inr (.inr 67), .inr (.inl l1), .inl p2, .inl p3] s =
  u_bv (u_c 318 [.inr (.inr 67), .inr (.inl l1)] s) fun s1 =>
  u_bi (u_c 311 [.inr (.inr 67), .inl p2, .inl p3] s1) fun x3 s2 =>
  some (some (.inl x3), s2) := (u_cE (t := g_t310) rfl _ _).trans ((u_E (5, 17, 5, 5) [] 120 g_t310 0 _ _ _).trans rfl)
/-! 311 GoodbyeQuayModel.toldNumber(II)I -/
set_option maxRecDepth 4000 in
theorem b_311 (p1 : Int32) (p2 : Int32) (s : u_H) : u_c 311 [.inr (.inr 67), .inl p1, .inl p2] s =
  if 0 < (s.1 65 2) then
    some (some (.inl (Int32.ofInt 0)), s)
  else
    if (s.1 65 6) = (Int32.ofInt 2) then
      if (s.1 65 8) < p1 then
        u g_t311 41 ((u_l1 (u_l1 u_z1 1 p1) 2 p2), u_z2, [(0, 67)]) [] s
      else
        if p2 < (s.1 65 8) then
          u g_t311 41 ((u_l1 (u_l1 u_z1 1 p1) 2 p2), u_z2, [(0, 67)]) [] s
        else
          if (s.1 65 2) = 0 then
            u_bv (u_c 309 [.inr (.inr 67)] s) fun s1 =>
            some (some (.inl (s.1 65 8)), s1)
          else
            some (some (.inl (s.1 65 8)), s)
    else
      u_bv (u_c 324 [.inr (.inr 67), .inl (Int32.ofInt 2)] s) fun s2 =>
      if (s2.1 65 2) = 0 then
        u_bv (u_c 309 [.inr (.inr 67)] s2) fun s3 =>
        some (some (.inl (s2.1 65 8)), s3)
      else
        some (some (.inl (s2.1 65 8)), s2) := (u_cE (t := g_t311) rfl _ _).trans ((u_E (5, 17, 5, 5) [41] 120 g_t311 0 _ _ _).trans rfl)
set_option maxRecDepth 4000 in
theorem b_311_41 (li : Nat → Int32) (ll : Nat → Int64) (s : u_H) : u g_t311 41 (li, ll, [(0, 67)]) [] s =
  u_bv (u_c 324 [.inr (.inr 67), .inl (Int32.ofInt 4)] s) fun s1 =>
  if (s1.1 65 2) = 0 then
    u_bv (u_c 309 [.inr (.inr 67)] s1) fun s2 =>
    some (some (.inl (s1.1 65 8)), s2)
  else
    some (some (.inl (s1.1 65 8)), s1) := (u_E (5, 17, 5, 5) [41] 120 g_t311 41 _ _ _).trans rfl
/-! 312 GoodbyeQuayModel.trade()I -/
set_option maxRecDepth 4000 in
theorem b_312 (s : u_H) : u_c 312 [.inr (.inr 67)] s =
  u_bi (u_c 278 [.inr (.inr 67)] s) fun x2 s1 =>
  u g_t312 7 ((u_l1 (u_l1 u_z1 1 x2) 2 (Int32.ofInt 0)), u_z2, [(0, 67)]) [] s1 := (u_cE (t := g_t312) rfl _ _).trans ((u_E (5, 17, 5, 5) [7, 13, 57, 124, 184] 120 g_t312 0 _ _ _).trans rfl)
set_option maxRecDepth 4000 in
theorem b_312_7 (li : Nat → Int32) (ll : Nat → Int64) (s : u_H) : u g_t312 7 (li, ll, [(0, 67)]) [] s =
  if (li 1) = 0 then
    u g_t312 184 ((u_l1 li 3 (Int32.ofInt 0)), ll, [(0, 67)]) [] ((y_u s.1 65 70 (s.1 85 8)), s.2)
  else
    u g_t312 13 ((u_l1 li 3 (Int32.ofInt 0)), ll, [(0, 67)]) [] s := (u_E (5, 17, 5, 5) [7, 13, 57, 124, 184] 120 g_t312 7 _ _ _).trans rfl
set_option maxRecDepth 4000 in
theorem b_312_13 (li : Nat → Int32) (ll : Nat → Int64) (s : u_H) : u g_t312 13 (li, ll, [(0, 67)]) [] s =
  if (li 3) < (s.1 65 48) then
    u_bi (u_c 216 [.inl (li 1), .inl (li 3)] s) fun x2 s1 =>
    if x2 = 0 then
      u g_t312 13 ((u_l1 li 3 ((li 3) + (Int32.ofInt 1))), ll, [(0, 67)]) [] s1
    else
      u_bi (u_c 322 [.inr (.inr 67), .inl (li 3), .inl (li 1)] s1) fun x4 s3 =>
      if u_in x4 28 = true then
        if u_in (li 3) 7 = true then
          u g_t312 13 ((u_l1 li 3 ((li 3) + (Int32.ofInt 1))), ll, [(0, 67)]) [] ((y_u s3.1 94 ((li 3).toNatClampNeg) (s3.1 85 (x4.toNatClampNeg))), s3.2)
        else
          none
      else
        none
  else
    u g_t312 57 ((u_l1 (u_l1 li 3 (Int32.ofInt 0)) 4 (Int32.ofInt 0)), ll, [(0, 67)]) [] s := (u_E (5, 17, 5, 5) [7, 13, 57, 124, 184] 120 g_t312 13 _ _ _).trans rfl
set_option maxRecDepth 4000 in
theorem b_312_57 (li : Nat → Int32) (ll : Nat → Int64) (s : u_H) : u g_t312 57 (li, ll, [(0, 67)]) [] s =
  if (li 4) < (s.1 65 48) then
    u_bi (u_c 216 [.inl ((li 1) &&& ((li 3) ^^^ (u_k (-1)))), .inl (li 4)] s) fun x2 s1 =>
    if x2 = 0 then
      u g_t312 57 ((u_l1 li 4 ((li 4) + (Int32.ofInt 1))), ll, [(0, 67)]) [] s1
    else
      u_bi (u_c 287 [.inr (.inr 67), .inl (li 4)] s1) fun x4 s3 =>
      u_bi (u_c 259 [.inl x4] s3) fun x6 s5 =>
      if (Int32.ofInt 1) < x6 then
        u_bi (u_c 313 [.inl (Int32.ofInt 1)] s5) fun x8 s7 =>
        u g_t312 57 ((u_l1 (u_l1 (u_l1 (u_l1 li 5 x4) 2 ((li 2) + x8)) 3 ((li 3) ||| x4)) 4 ((li 4) + (Int32.ofInt 1))), ll, [(0, 67)]) [] s7
      else
        u_bi (u_c 313 [.inl (Int32.ofInt 0)] s5) fun x10 s9 =>
        u g_t312 57 ((u_l1 (u_l1 (u_l1 (u_l1 li 5 x4) 2 ((li 2) + x10)) 3 ((li 3) ||| x4)) 4 ((li 4) + (Int32.ofInt 1))), ll, [(0, 67)]) [] s9
  else
    u g_t312 124 ((u_l1 li 4 (Int32.ofInt 0)), ll, [(0, 67)]) [] s := (u_E (5, 17, 5, 5) [7, 13, 57, 124, 184] 120 g_t312 57 _ _ _).trans rfl
set_option maxRecDepth 4000 in
theorem b_312_124 (li : Nat → Int32) (ll : Nat → Int64) (s : u_H) : u g_t312 124 (li, ll, [(0, 67)]) [] s =
  if (li 4) < (s.1 65 48) then
    u_bi (u_c 216 [.inl (li 3), .inl (li 4)] s) fun x2 s1 =>
    if x2 = 0 then
      u g_t312 124 ((u_l1 li 4 ((li 4) + (Int32.ofInt 1))), ll, [(0, 67)]) [] s1
    else
      if u_in (li 4) 7 = true then
        if u_in (s1.1 94 ((li 4).toNatClampNeg)) 7 = true then
          u g_t312 124 ((u_l1 li 4 ((li 4) + (Int32.ofInt 1))), ll, [(0, 67)]) [] ((y_u s1.1 95 ((s1.1 94 ((li 4).toNatClampNeg)).toNatClampNeg) (li 4)), s1.2)
        else
          none
      else
        none
  else
    u g_t312 7 ((u_l1 li 1 ((li 1) &&& ((li 3) ^^^ (u_k (-1))))), ll, [(0, 67)]) [] s := (u_E (5, 17, 5, 5) [7, 13, 57, 124, 184] 120 g_t312 124 _ _ _).trans rfl
set_option maxRecDepth 4000 in
theorem b_312_184 (li : Nat → Int32) (ll : Nat → Int64) (s : u_H) : u g_t312 184 (li, ll, [(0, 67)]) [] s =
  if (li 3) < (s.1 65 70) then
    if u_in (li 3) 28 = true then
      if u_in (s.1 85 ((li 3).toNatClampNeg)) 7 = true then
        if u_in (li 3) 7 = true then
          u g_t312 184 ((u_l1 li 3 ((li 3) + (Int32.ofInt 1))), ll, [(0, 67)]) [] ((y_u s.1 92 ((li 3).toNatClampNeg) (s.1 95 ((s.1 85 ((li 3).toNatClampNeg)).toNatClampNeg))), s.2)
        else
          none
      else
        none
    else
      none
  else
    some (some (.inl (li 2)), s) := (u_E (5, 17, 5, 5) [7, 13, 57, 124, 184] 120 g_t312 184 _ _ _).trans rfl
/-! 313 GoodbyeQuayModel.truth(Z)I -/
set_option maxRecDepth 4000 in
theorem b_313 (p1 : Int32) (s : u_H) : u_c 313 [.inl p1] s =
  if p1 = 0 then
    some (some (.inl (Int32.ofInt 0)), s)
  else
    some (some (.inl (Int32.ofInt 1)), s) := (u_cE (t := g_t313) rfl _ _).trans ((u_E (5, 17, 5, 5) [] 120 g_t313 0 _ _ _).trans rfl)
/-! 314 GoodbyeQuayModel.turnShort(I)I -/
set_option maxRecDepth 4000 in
theorem b_314 (p1 : Int32) (s : u_H) : u_c 314 [.inr (.inr 67), .inl p1] s =
  u_bv (u_c 175 [.inr (.inr 67)] s) fun s1 =>
  u_bi (u_c 249 [.inr (.inr 67), .inl p1] ((y_u s1.1 85 17 ((s1.1 85 17) ^^^ ((Int32.ofInt 1) <<< (p1 &&& 31)))), s1.2)) fun x3 s2 =>
  some (some (.inl x3), s2) := (u_cE (t := g_t314) rfl _ _).trans ((u_E (5, 17, 5, 5) [] 120 g_t314 0 _ _ _).trans rfl)
/-! 315 GoodbyeQuayModel.undo()Z -/
set_option maxRecDepth 4000 in
theorem b_315 (s : u_H) : u_c 315 [.inr (.inr 67)] s =
  if (s.1 65 66) = 0 then
    some (some (.inl (Int32.ofInt 0)), s)
  else
    u_bv (u_c 199 [.inr (.inr 67), .inl ((Int32.ofInt 28) * ((s.1 65 66) - (Int32.ofInt 1)))] ((y_u (y_u s.1 65 66 ((s.1 65 66) - (Int32.ofInt 1))) 65 67 ((s.1 65 67) + (Int32.ofInt 1))), s.2)) fun s1 =>
    some (some (.inl (Int32.ofInt 1)), s1) := (u_cE (t := g_t315) rfl _ _).trans ((u_E (5, 17, 5, 5) [] 120 g_t315 0 _ _ _).trans rfl)
/-! 316 GoodbyeQuayModel.unit()V -/
set_option maxRecDepth 4000 in
theorem b_316 (s : u_H) : u_c 316 [.inr (.inr 67)] s =
  u g_t316 2 ((u_l1 u_z1 1 (Int32.ofInt 1)), u_z2, [(0, 67)]) [] s := (u_cE (t := g_t316) rfl _ _).trans ((u_E (5, 17, 5, 5) [2, 53, 101, 138] 120 g_t316 0 _ _ _).trans rfl)
set_option maxRecDepth 4000 in
theorem b_316_2 (li : Nat → Int32) (ll : Nat → Int64) (s : u_H) : u g_t316 2 (li, ll, [(0, 67)]) [] s =
  if (li 1) = 0 then
    u g_t316 101 (li, ll, [(0, 67)]) [] s
  else
    if (s.1 65 2) = 0 then
      u_bi (u_c 238 [.inr (.inr 67), .inr (.inl (u_k6 7237492))] s) fun x2 s1 =>
      if x2 = 0 then
        u g_t316 53 (li, ll, [(0, 67)]) [] s1
      else
        u_bi (u_c 257 [.inr (.inr 67)] s1) fun x4 s3 =>
        if x4 = 0 then
          u g_t316 53 (li, ll, [(0, 67)]) [] s3
        else
          if (Int32.ofInt 6) < (s3.1 65 23) then
            u_bv (u_c 324 [.inr (.inr 67), .inl (Int32.ofInt 2)] s3) fun s5 =>
            u_bv (u_c 267 [.inr (.inr 67), .inl (Int32.ofInt 21)] s5) fun s6 =>
            u g_t316 2 (li, ll, [(0, 67)]) [] s6
          else
            u_bv (u_c 267 [.inr (.inr 67), .inl (Int32.ofInt 21)] s3) fun s7 =>
            u g_t316 2 (li, ll, [(0, 67)]) [] s7
    else
      u g_t316 101 (li, ll, [(0, 67)]) [] s := (u_E (5, 17, 5, 5) [2, 53, 101, 138] 120 g_t316 2 _ _ _).trans rfl
set_option maxRecDepth 4000 in
theorem b_316_53 (li : Nat → Int32) (ll : Nat → Int64) (s : u_H) : u g_t316 53 (li, ll, [(0, 67)]) [] s =
  if (s.1 65 6) = (Int32.ofInt 40) then
    u_bi (u_c 228 [.inr (.inr 67)] s) fun x2 s1 =>
    if x2 = 0 then
      if (Int32.ofInt 6) < (s1.1 65 23) then
        u_bv (u_c 324 [.inr (.inr 67), .inl (Int32.ofInt 2)] s1) fun s3 =>
        u_bv (u_c 191 [.inr (.inr 67)] s3) fun s4 =>
        u_bv (u_c 267 [.inr (.inr 67), .inl (Int32.ofInt 20)] s4) fun s5 =>
        u g_t316 2 (li, ll, [(0, 67)]) [] s5
      else
        u_bv (u_c 191 [.inr (.inr 67)] s1) fun s6 =>
        u_bv (u_c 267 [.inr (.inr 67), .inl (Int32.ofInt 20)] s6) fun s7 =>
        u g_t316 2 (li, ll, [(0, 67)]) [] s7
    else
      u_bv (u_c 324 [.inr (.inr 67), .inl (Int32.ofInt 2)] s1) fun s8 =>
      u_bv (u_c 191 [.inr (.inr 67)] s8) fun s9 =>
      u_bv (u_c 267 [.inr (.inr 67), .inl (Int32.ofInt 20)] s9) fun s10 =>
      u g_t316 2 (li, ll, [(0, 67)]) [] s10
  else
    u g_t316 2 ((u_l1 li 1 (Int32.ofInt 0)), ll, [(0, 67)]) [] s := (u_E (5, 17, 5, 5) [2, 53, 101, 138] 120 g_t316 53 _ _ _).trans rfl
set_option maxRecDepth 4000 in
theorem b_316_101 (li : Nat → Int32) (ll : Nat → Int64) (s : u_H) : u g_t316 101 (li, ll, [(0, 67)]) [] s =
  if 0 < (s.1 65 2) then
    some (none, s)
  else
    u_bi (u_c 180 [.inr (.inr 67)] s) fun x2 s1 =>
    if (s1.1 65 6) = (Int32.ofInt 2) then
      u_bi (u_c 228 [.inr (.inr 67)] s1) fun x4 s3 =>
      if x4 = 0 then
        u g_t316 138 ((u_l1 li 2 x2), ll, [(0, 67)]) [] s3
      else
        u_bv (u_c 324 [.inr (.inr 67), .inl (Int32.ofInt 2)] s3) fun s5 =>
        u g_t316 138 ((u_l1 li 2 x2), ll, [(0, 67)]) [] s5
    else
      if x2 < 0 then
        u_bv (u_c 324 [.inr (.inr 67), .inl (Int32.ofInt 2)] s1) fun s6 =>
        u g_t316 138 ((u_l1 li 2 x2), ll, [(0, 67)]) [] s6
      else
        u_bi (u_c 228 [.inr (.inr 67)] s1) fun x8 s7 =>
        if x8 = 0 then
          u g_t316 138 ((u_l1 li 2 x2), ll, [(0, 67)]) [] s7
        else
          u_bv (u_c 324 [.inr (.inr 67), .inl (Int32.ofInt 2)] s7) fun s9 =>
          u g_t316 138 ((u_l1 li 2 x2), ll, [(0, 67)]) [] s9 := (u_E (5, 17, 5, 5) [2, 53, 101, 138] 120 g_t316 101 _ _ _).trans rfl
set_option maxRecDepth 4000 in
theorem b_316_138 (li : Nat → Int32) (ll : Nat → Int64) (s : u_H) : u g_t316 138 (li, ll, [(0, 67)]) [] s =
  if 0 < (s.1 65 2) then
    some (none, s)
  else
    u_bv (u_c 191 [.inr (.inr 67)] s) fun s1 =>
    if (li 2) < 0 then
      if (li 2) < 0 then
        u_bv (u_c 176 [.inr (.inr 67), .inl (Int32.ofInt 0), .inl (s1.1 65 8)] s1) fun s2 =>
        u_bv (u_c 309 [.inr (.inr 67)] s2) fun s3 =>
        some (none, s3)
      else
        u_bv (u_c 176 [.inr (.inr 67), .inl (Int32.ofInt 0), .inl (li 2)] s1) fun s4 =>
        u_bv (u_c 309 [.inr (.inr 67)] s4) fun s5 =>
        some (none, s5)
    else
      if (li 2) < 0 then
        u_bv (u_c 176 [.inr (.inr 67), .inl (Int32.ofInt 1), .inl (s1.1 65 8)] s1) fun s6 =>
        u_bv (u_c 309 [.inr (.inr 67)] s6) fun s7 =>
        some (none, s7)
      else
        u_bv (u_c 176 [.inr (.inr 67), .inl (Int32.ofInt 1), .inl (li 2)] s1) fun s8 =>
        u_bv (u_c 309 [.inr (.inr 67)] s8) fun s9 =>
        some (none, s9) := (u_E (5, 17, 5, 5) [2, 53, 101, 138] 120 g_t316 138 _ _ _).trans rfl
/-! 317 GoodbyeQuayModel.untell(I)Z -/
set_option maxRecDepth 4000 in
theorem b_317 (p1 : Int32) (s : u_H) : u_c 317 [.inr (.inr 67), .inl p1] s =
  u_bi (u_c 230 [.inl p1, .inl (Int32.ofInt 0), .inl ((s.1 65 78) - (Int32.ofInt 1))] s) fun x2 s1 =>
  if x2 = 0 then
    some (some (.inl (Int32.ofInt 0)), s1)
  else
    if u_in p1 30 = true then
      if (s1.1 99 (p1.toNatClampNeg)) < 0 then
        if u_in p1 30 = true then
          some (some (.inl (Int32.ofInt 1)), ((y_u s1.1 99 (p1.toNatClampNeg) (s1.1 65 79)), s1.2))
        else
          none
      else
        some (some (.inl (Int32.ofInt 0)), s1)
    else
      none := (u_cE (t := g_t317) rfl _ _).trans ((u_E (5, 17, 5, 5) [] 120 g_t317 0 _ _ _).trans rfl)
/-! 318 GoodbyeQuayModel.want(J)V -/
set_option maxRecDepth 4000 in
theorem b_318 (l1 : Int64) (s : u_H) : u_c 318 [.inr (.inr 67), .inr (.inl l1)] s =
  if 0 < (s.1 65 2) then
    some (none, s)
  else
    u_bi (u_c 238 [.inr (.inr 67), .inr (.inl l1)] s) fun x2 s1 =>
    if x2 = 0 then
      u_bv (u_c 324 [.inr (.inr 67), .inl (Int32.ofInt 2)] s1) fun s3 =>
      some (none, s3)
    else
      u_bv (u_c 309 [.inr (.inr 67)] s1) fun s4 =>
      some (none, s4) := (u_cE (t := g_t318) rfl _ _).trans ((u_E (5, 17, 5, 5) [] 120 g_t318 0 _ _ _).trans rfl)
/-! 319 GoodbyeQuayModel.waves()I -/
set_option maxRecDepth 4000 in
theorem b_319 (s : u_H) : u_c 319 [.inr (.inr 67)] s =
  some (some (.inl (s.1 85 25)), s) := (u_cE (t := g_t319) rfl _ _).trans ((u_E (5, 17, 5, 5) [] 120 g_t319 0 _ _ _).trans rfl)
/-! 320 GoodbyeQuayModel.will(III)I -/
set_option maxRecDepth 4000 in
theorem b_320 (p1 : Int32) (p2 : Int32) (p3 : Int32) (s : u_H) : u_c 320 [.inr (.inr 67), .inl p1, .inl p2, .inl p3] s =
  u_bi (u_c 234 [.inr (.inr 67), .inl p1] s) fun x2 s1 =>
  if x2 = 0 then
    some (some (.inl (u_k (-1))), s1)
  else
    u_bi (u_c 230 [.inl p2, .inl (Int32.ofInt 0), .inl (u_k 400)] s1) fun x4 s3 =>
    if x4 = 0 then
      some (some (.inl (u_k (-1))), s3)
    else
      u_bi (u_c 230 [.inl p3, .inl (Int32.ofInt 0), .inl (Int32.ofInt 1)] s3) fun x6 s5 =>
      if x6 = 0 then
        some (some (.inl (u_k (-1))), s5)
      else
        u_bv (u_c 203 [.inr (.inr 67)] s5) fun s7 =>
        u g_t320 37 ((u_l1 (u_l1 (u_l1 (u_l1 u_z1 1 p1) 2 p2) 3 p3) 4 (Int32.ofInt 0)), u_z2, [(0, 67)]) [] s7 := (u_cE (t := g_t320) rfl _ _).trans ((u_E (5, 17, 5, 5) [37] 120 g_t320 0 _ _ _).trans rfl)
set_option maxRecDepth 4000 in
theorem b_320_37 (li : Nat → Int32) (ll : Nat → Int64) (s : u_H) : u g_t320 37 (li, ll, [(0, 67)]) [] s =
  if (li 4) < (li 2) then
    u_bi (u_c 226 [.inr (.inr 67)] s) fun x2 s1 =>
    if x2 = 0 then
      if (li 3) = (Int32.ofInt 1) then
        u_bi (u_c 212 [.inr (.inr 67), .inl (Int32.ofInt 1)] s1) fun x4 s3 =>
        u g_t320 37 ((u_l1 li 4 ((li 4) + (Int32.ofInt 1))), ll, [(0, 67)]) [] s3
      else
        u_bi (u_c 212 [.inr (.inr 67), .inl (Int32.ofInt 0)] s1) fun x6 s5 =>
        u g_t320 37 ((u_l1 li 4 ((li 4) + (Int32.ofInt 1))), ll, [(0, 67)]) [] s5
    else
      if u_in ((Int32.ofInt 9) + (li 1)) 28 = true then
        some (some (.inl (s1.1 86 (((Int32.ofInt 9) + (li 1)).toNatClampNeg))), s1)
      else
        none
  else
    if u_in ((Int32.ofInt 9) + (li 1)) 28 = true then
      some (some (.inl (s.1 86 (((Int32.ofInt 9) + (li 1)).toNatClampNeg))), s)
    else
      none := (u_E (5, 17, 5, 5) [37] 120 g_t320 37 _ _ _).trans rfl
/-! 321 GoodbyeQuayModel.wish(I)I -/
set_option maxRecDepth 4000 in
theorem b_321 (p1 : Int32) (s : u_H) : u_c 321 [.inr (.inr 67), .inl p1] s =
  u_bi (u_c 235 [.inr (.inr 67), .inl p1] s) fun x2 s1 =>
  if x2 = 0 then
    some (some (.inl (u_k (-1))), s1)
  else
    u_bi (u_c 278 [.inr (.inr 67)] s1) fun x4 s3 =>
    u_bi (u_c 322 [.inr (.inr 67), .inl p1, .inl x4] s3) fun x6 s5 =>
    some (some (.inl x6), s5) := (u_cE (t := g_t321) rfl _ _).trans ((u_E (5, 17, 5, 5) [] 120 g_t321 0 _ _ _).trans rfl)
/-! 322 GoodbyeQuayModel.wishOf(II)I -/
set_option maxRecDepth 4000 in
theorem b_322 (p1 : Int32) (p2 : Int32) (s : u_H) : u_c 322 [.inr (.inr 67), .inl p1, .inl p2] s =
  u g_t322 18 ((u_l1 (u_l1 (u_l1 (u_l1 (u_l1 u_z1 1 p1) 2 p2) 3 (u_k (-1))) 4 (u_kv 1000000)) 5 ((s.1 85 8) - (Int32.ofInt 1))), u_z2, [(0, 67)]) [] s := (u_cE (t := g_t322) rfl _ _).trans ((u_E (5, 17, 5, 5) [18] 120 g_t322 0 _ _ _).trans rfl)
set_option maxRecDepth 4000 in
theorem b_322_18 (li : Nat → Int32) (ll : Nat → Int64) (s : u_H) : u g_t322 18 (li, ll, [(0, 67)]) [] s =
  if (li 5) < 0 then
    u_bv (u_c 203 [.inr (.inr 67)] s) fun s1 =>
    if (li 3) < 0 then
      u_bi (u_c 272 [.inr (.inr 67), .inl (li 1)] s1) fun x3 s2 =>
      some (some (.inl x3), s2)
    else
      some (some (.inl (li 3)), s1)
  else
    if u_in (li 5) 28 = true then
      u_bi (u_c 216 [.inl (li 2), .inl (s.1 85 ((li 5).toNatClampNeg))] s) fun x5 s4 =>
      if x5 = 0 then
        u g_t322 18 ((u_l1 li 5 ((li 5) + (u_k (-1)))), ll, [(0, 67)]) [] s4
      else
        u_bv (u_c 203 [.inr (.inr 67)] s4) fun s6 =>
        if u_in (li 5) 28 = true then
          u_bv (u_c 186 [.inr (.inr 67), .inl (li 1), .inl (s6.1 85 ((li 5).toNatClampNeg))] s6) fun s7 =>
          u_bv (u_c 213 [.inr (.inr 67)] s7) fun s8 =>
          u_bi (u_c 288 [.inr (.inr 67), .inl (li 1)] s8) fun x10 s9 =>
          if x10 < (li 4) then
            u_bi (u_c 288 [.inr (.inr 67), .inl (li 1)] s9) fun x12 s11 =>
            u g_t322 18 ((u_l1 (u_l1 (u_l1 li 3 (li 5)) 4 x12) 5 ((li 5) + (u_k (-1)))), ll, [(0, 67)]) [] s11
          else
            u g_t322 18 ((u_l1 li 5 ((li 5) + (u_k (-1)))), ll, [(0, 67)]) [] s9
        else
          none
    else
      none := (u_E (5, 17, 5, 5) [18] 120 g_t322 18 _ _ _).trans rfl
/-! 323 GoodbyeQuayModel.within(III)I -/
set_option maxRecDepth 4000 in
theorem b_323 (p1 : Int32) (p2 : Int32) (p3 : Int32) (s : u_H) : u_c 323 [.inl p1, .inl p2, .inl p3] s =
  if p1 < p2 then
    some (some (.inl p2), s)
  else
    if p3 < p1 then
      some (some (.inl p3), s)
    else
      some (some (.inl p1), s) := (u_cE (t := g_t323) rfl _ _).trans ((u_E (5, 17, 5, 5) [] 120 g_t323 0 _ _ _).trans rfl)
/-! 324 GoodbyeQuayModel.wrong(I)V -/
set_option maxRecDepth 4000 in
theorem b_324 (p1 : Int32) (s : u_H) : u_c 324 [.inr (.inr 67), .inl p1] s =
  if 0 < (s.1 65 2) then
    some (none, s)
  else
    if (s.1 65 6) = (Int32.ofInt 3) then
      some (none, ((y_u (y_u s.1 65 2 (Int32.ofInt 1)) 65 3 (s.1 65 7)), s.2))
    else
      some (none, ((y_u (y_u s.1 65 2 p1) 65 3 (s.1 65 7)), s.2)) := (u_cE (t := g_t324) rfl _ _).trans ((u_E (5, 17, 5, 5) [] 120 g_t324 0 _ _ _).trans rfl)
/-! 325 java/lang/Integer.bitCount(I)I -/
set_option maxRecDepth 4000 in
theorem b_325 (p1 : Int32) (s : u_H) : u_c 325 [.inl p1] s =
  some (some (.inl ((((((((p1 - (((p1.toUInt32 >>> ((Int32.ofInt 1).toUInt32 &&& Int32.toUInt32 31)).toInt32) &&& (u_kv 1431655765))) &&& (u_kv 858993459)) + ((((p1 - (((p1.toUInt32 >>> ((Int32.ofInt 1).toUInt32 &&& Int32.toUInt32 31)).toInt32) &&& (u_kv 1431655765))).toUInt32 >>> ((Int32.ofInt 2).toUInt32 &&& Int32.toUInt32 31)).toInt32) &&& (u_kv 858993459))) + (((((p1 - (((p1.toUInt32 >>> ((Int32.ofInt 1).toUInt32 &&& Int32.toUInt32 31)).toInt32) &&& (u_kv 1431655765))) &&& (u_kv 858993459)) + ((((p1 - (((p1.toUInt32 >>> ((Int32.ofInt 1).toUInt32 &&& Int32.toUInt32 31)).toInt32) &&& (u_kv 1431655765))).toUInt32 >>> ((Int32.ofInt 2).toUInt32 &&& Int32.toUInt32 31)).toInt32) &&& (u_kv 858993459))).toUInt32 >>> ((Int32.ofInt 4).toUInt32 &&& Int32.toUInt32 31)).toInt32)) &&& (u_kv 252645135)) + (((((((p1 - (((p1.toUInt32 >>> ((Int32.ofInt 1).toUInt32 &&& Int32.toUInt32 31)).toInt32) &&& (u_kv 1431655765))) &&& (u_kv 858993459)) + ((((p1 - (((p1.toUInt32 >>> ((Int32.ofInt 1).toUInt32 &&& Int32.toUInt32 31)).toInt32) &&& (u_kv 1431655765))).toUInt32 >>> ((Int32.ofInt 2).toUInt32 &&& Int32.toUInt32 31)).toInt32) &&& (u_kv 858993459))) + (((((p1 - (((p1.toUInt32 >>> ((Int32.ofInt 1).toUInt32 &&& Int32.toUInt32 31)).toInt32) &&& (u_kv 1431655765))) &&& (u_kv 858993459)) + ((((p1 - (((p1.toUInt32 >>> ((Int32.ofInt 1).toUInt32 &&& Int32.toUInt32 31)).toInt32) &&& (u_kv 1431655765))).toUInt32 >>> ((Int32.ofInt 2).toUInt32 &&& Int32.toUInt32 31)).toInt32) &&& (u_kv 858993459))).toUInt32 >>> ((Int32.ofInt 4).toUInt32 &&& Int32.toUInt32 31)).toInt32)) &&& (u_kv 252645135)).toUInt32 >>> ((Int32.ofInt 8).toUInt32 &&& Int32.toUInt32 31)).toInt32)) + ((((((((p1 - (((p1.toUInt32 >>> ((Int32.ofInt 1).toUInt32 &&& Int32.toUInt32 31)).toInt32) &&& (u_kv 1431655765))) &&& (u_kv 858993459)) + ((((p1 - (((p1.toUInt32 >>> ((Int32.ofInt 1).toUInt32 &&& Int32.toUInt32 31)).toInt32) &&& (u_kv 1431655765))).toUInt32 >>> ((Int32.ofInt 2).toUInt32 &&& Int32.toUInt32 31)).toInt32) &&& (u_kv 858993459))) + (((((p1 - (((p1.toUInt32 >>> ((Int32.ofInt 1).toUInt32 &&& Int32.toUInt32 31)).toInt32) &&& (u_kv 1431655765))) &&& (u_kv 858993459)) + ((((p1 - (((p1.toUInt32 >>> ((Int32.ofInt 1).toUInt32 &&& Int32.toUInt32 31)).toInt32) &&& (u_kv 1431655765))).toUInt32 >>> ((Int32.ofInt 2).toUInt32 &&& Int32.toUInt32 31)).toInt32) &&& (u_kv 858993459))).toUInt32 >>> ((Int32.ofInt 4).toUInt32 &&& Int32.toUInt32 31)).toInt32)) &&& (u_kv 252645135)) + (((((((p1 - (((p1.toUInt32 >>> ((Int32.ofInt 1).toUInt32 &&& Int32.toUInt32 31)).toInt32) &&& (u_kv 1431655765))) &&& (u_kv 858993459)) + ((((p1 - (((p1.toUInt32 >>> ((Int32.ofInt 1).toUInt32 &&& Int32.toUInt32 31)).toInt32) &&& (u_kv 1431655765))).toUInt32 >>> ((Int32.ofInt 2).toUInt32 &&& Int32.toUInt32 31)).toInt32) &&& (u_kv 858993459))) + (((((p1 - (((p1.toUInt32 >>> ((Int32.ofInt 1).toUInt32 &&& Int32.toUInt32 31)).toInt32) &&& (u_kv 1431655765))) &&& (u_kv 858993459)) + ((((p1 - (((p1.toUInt32 >>> ((Int32.ofInt 1).toUInt32 &&& Int32.toUInt32 31)).toInt32) &&& (u_kv 1431655765))).toUInt32 >>> ((Int32.ofInt 2).toUInt32 &&& Int32.toUInt32 31)).toInt32) &&& (u_kv 858993459))).toUInt32 >>> ((Int32.ofInt 4).toUInt32 &&& Int32.toUInt32 31)).toInt32)) &&& (u_kv 252645135)).toUInt32 >>> ((Int32.ofInt 8).toUInt32 &&& Int32.toUInt32 31)).toInt32)).toUInt32 >>> ((Int32.ofInt 16).toUInt32 &&& Int32.toUInt32 31)).toInt32)) &&& (Int32.ofInt 63))), s) := (u_cE (t := g_t325) rfl _ _).trans ((u_E (5, 17, 5, 5) [] 120 g_t325 0 _ _ _).trans rfl)
