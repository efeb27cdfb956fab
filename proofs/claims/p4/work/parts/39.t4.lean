/-! what the methods do (printed by wip/gen/ug.py) -/
/-! GoodbyeQuay$Trial.take -/
theorem b_172 (p1 : Int32) (p2 : Int32) (p3 : Int32) (s : u_H) : u_c 172 [.inr (.inr 38), .inl p1, .inl p2, .inl p3] s =
  if u_in p2 3 = true then
    if u_in p1 8 = true then
      u_bi (u_c 167 [.inr (.inr 38), .inl p1] ((y_u s.1 43 (p1.toNatClampNeg) (s.1 42 (p2.toNatClampNeg))), s.2)) fun x2 s1 =>
      if (s.1 42 (p2.toNatClampNeg)) < x2 then
        u_bi (u_c 162 [.inr (.inr 38), .inl p1, .inl p3, .inl (s.1 42 (p2.toNatClampNeg))] s1) fun x4 s3 =>
        if 0 < (s3.1 36 8) then
          u_bi (u_c 50 [.inl (s3.1 36 9)] s3) fun x6 s5 =>
          u_bi (u_c 56 [.inl x6, .inl (s5.1 36 8)] ((y_u s5.1 36 9 x6), s5.2)) fun x8 s7 =>
          u g_t172 92 ((u_l1 (u_l1 (u_l1 (u_l1 (u_l1 (u_l1 u_z1 1 p1) 2 p2) 3 p3) 4 (s.1 42 (p2.toNatClampNeg))) 5 x4) 5 (x4 + x8)), u_z2, [(0, 38)]) [] s7
        else
          u g_t172 92 ((u_l1 (u_l1 (u_l1 (u_l1 (u_l1 u_z1 1 p1) 2 p2) 3 p3) 4 (s.1 42 (p2.toNatClampNeg))) 5 x4), u_z2, [(0, 38)]) [] s3
      else
        if u_in p1 8 = true then
          some (some (.inl (Int32.ofInt 0)), ((y_u (y_u s1.1 44 (p1.toNatClampNeg) (s.1 42 (p2.toNatClampNeg))) 36 17 ((s1.1 36 17) ||| ((Int32.ofInt 1) <<< (p1 &&& 31)))), s1.2))
        else
          none
    else
      none
  else
    none := (u_cE (t := g_t172) rfl _ _).trans ((u_E (5, 17, 5, 5) [92] 120 g_t172 0 _ _ _).trans rfl)
theorem b_172_92 (li : Nat → Int32) (ll : Nat → Int64) (s : u_H) : u g_t172 92 (li, ll, [(0, 38)]) [] s =
  u_bi (u_c 170 [.inr (.inr 38), .inl (li 1), .inl ((li 4) + (li 5))] s) fun x2 s1 =>
  if u_in (li 1) 8 = true then
    if u_in (li 2) 3 = true then
      if q_ib x2 = true then some (some (.inl x2), ((y_u s1.1 42 ((li 2).toNatClampNeg) (s1.1 44 ((li 1).toNatClampNeg))), s1.2)) else none
    else
      none
  else
    none := (u_E (5, 17, 5, 5) [92] 120 g_t172 92 _ _ _).trans rfl
/-! GoodbyeQuay$State.placeOf -/
theorem b_147 (p1 : Int32) (s : u_H) : u_c 147 [.inr (.inr 30), .inl p1] s =
  u g_t147 2 ((u_l1 (u_l1 u_z1 1 p1) 2 (Int32.ofInt 0)), u_z2, [(0, 30)]) [] s := (u_cE (t := g_t147) rfl _ _).trans ((u_E (5, 17, 5, 5) [2] 120 g_t147 0 _ _ _).trans rfl)
theorem b_147_2 (li : Nat → Int32) (ll : Nat → Int64) (s : u_H) : u g_t147 2 (li, ll, [(0, 30)]) [] s =
  if (li 2) < (s.1 28 1) then
    if u_in (li 2) 7 = true then
      if (s.1 29 ((li 2).toNatClampNeg)) = (li 1) then
        some (some (.inl (li 2)), s)
      else
        u g_t147 2 ((u_l1 li 2 ((li 2) + (Int32.ofInt 1))), ll, [(0, 30)]) [] s
    else
      none
  else
    some (some (.inl (Int32.ofInt (-1))), s) := (u_E (5, 17, 5, 5) [2] 120 g_t147 2 _ _ _).trans rfl
/-! GoodbyeQuay$Trial.lengthOf -/
theorem b_162 {W : Nat} (hW : W = 5 ∨ W = 17) (p1 : Int32) (p2 : Int32) (p3 : Int32) (s : u_H) : u_c 162 [.inr (.inr 38), .inl p1, .inl p2, .inl p3] s =
  if u_in p1 8 = true then
    if s.2.2.2.2.2 = W then
      if 0 < (s.1 (W + 6) 3) then
        if p1 = (Int32.ofInt 7) then
          u g_t162 47 ((u_l1 (u_l1 (u_l1 (u_l1 u_z1 1 p1) 2 p2) 3 p3) 4 (if (s.1 36 7) < (s.1 38 (p1.toNatClampNeg)) then (s.1 36 7) else (s.1 38 (p1.toNatClampNeg)))), u_z2, [(0, 38)]) [.inl (Int32.ofInt 1)] s
        else
          if s.2.2.2.2.2 = W then
            if u_in p1 7 = true then
              u g_t162 47 ((u_l1 (u_l1 (u_l1 (u_l1 u_z1 1 p1) 2 p2) 3 p3) 4 (if (s.1 36 7) < (s.1 38 (p1.toNatClampNeg)) then (s.1 36 7) else (s.1 38 (p1.toNatClampNeg)))), u_z2, [(0, 38)]) [.inl (s.1 (W + 5) (p1.toNatClampNeg))] s
            else
              none
          else
            u g_t162 42 ((u_l1 (u_l1 (u_l1 (u_l1 u_z1 1 p1) 2 p2) 3 p3) 4 (if (s.1 36 7) < (s.1 38 (p1.toNatClampNeg)) then (s.1 36 7) else (s.1 38 (p1.toNatClampNeg)))), u_z2, [(0, 38)]) [.inr (.inr s.2.2.2.2.2)] s
      else
        u g_t162 90 ((u_l1 (u_l1 (u_l1 (u_l1 u_z1 1 p1) 2 p2) 3 p3) 4 (if (s.1 36 7) < (s.1 38 (p1.toNatClampNeg)) then (s.1 36 7) else (s.1 38 (p1.toNatClampNeg)))), u_z2, [(0, 38)]) [] s
    else
      u g_t162 19 ((u_l1 (u_l1 (u_l1 (u_l1 u_z1 1 p1) 2 p2) 3 p3) 4 (if (s.1 36 7) < (s.1 38 (p1.toNatClampNeg)) then (s.1 36 7) else (s.1 38 (p1.toNatClampNeg)))), u_z2, [(0, 38)]) [.inr (.inr s.2.2.2.2.2)] s
  else
    none := by
  rcases hW with rfl | rfl
  · exact (u_cE (t := g_t162) rfl _ _).trans ((u_E (5, 17, 5, 5) [47, 90] 120 g_t162 0 _ _ _).trans rfl)
  · exact (u_cE (t := g_t162) rfl _ _).trans ((u_E (17, 5, 17, 17) [47, 90] 120 g_t162 0 _ _ _).trans rfl)
theorem b_162_47 {W : Nat} (hW : W = 5 ∨ W = 17) (v0 : Int32) (li : Nat → Int32) (ll : Nat → Int64) (s : u_H) : u g_t162 47 (li, ll, [(0, 38)]) [.inl v0] s =
  u_bi (u_c 167 [.inr (.inr 38), .inl (li 1)] s) fun x2 s1 =>
  if s1.2.2.2.2.2 = W then
    if u_in (li 1) 8 = true then
      u_bi (u_c 86 [.inr (.inr (W + 8)), .inl (s1.1 38 ((li 1).toNatClampNeg)), .inl v0, .inl (s1.1 36 7), .inl (li 2), .inl (if (Int32.ofInt 0) < (x2 - (li 3)) then (x2 - (li 3)) else (Int32.ofInt 0)), .inl (li 3)] s1) fun x4 s3 =>
      u g_t162 90 ((u_l1 (u_l1 (u_l1 li 5 v0) 6 (if (Int32.ofInt 0) < (x2 - (li 3)) then (x2 - (li 3)) else (Int32.ofInt 0))) 4 x4), ll, [(0, 38)]) [] s3
    else
      none
  else
    u g_t162 66 ((u_l1 (u_l1 li 5 v0) 6 (if (Int32.ofInt 0) < (x2 - (li 3)) then (x2 - (li 3)) else (Int32.ofInt 0))), ll, [(0, 38)]) [.inr (.inr s1.2.2.2.2.2)] s1 := by
  rcases hW with rfl | rfl
  · exact (u_E (5, 17, 5, 5) [47, 90] 120 g_t162 47 _ _ _).trans rfl
  · exact (u_E (17, 5, 17, 17) [47, 90] 120 g_t162 47 _ _ _).trans rfl
theorem b_162_90 (li : Nat → Int32) (ll : Nat → Int64) (s : u_H) : u g_t162 90 (li, ll, [(0, 38)]) [] s =
  u_bi (u_c 28 [.inl (s.1 36 6), .inl (li 1)] s) fun x2 s1 =>
  if x2 = 0 then
    some (some (.inl (if (Int32.ofInt 1) < (if (li 4) < (Int32.ofInt 60) then (li 4) else (Int32.ofInt 60)) then (if (li 4) < (Int32.ofInt 60) then (li 4) else (Int32.ofInt 60)) else (Int32.ofInt 1))), s1)
  else
    some (some (.inl (if (Int32.ofInt 1) < ((if (Int32.ofInt 1) < (if (li 4) < (Int32.ofInt 60) then (li 4) else (Int32.ofInt 60)) then (if (li 4) < (Int32.ofInt 60) then (li 4) else (Int32.ofInt 60)) else (Int32.ofInt 1)) / (Int32.ofInt 2)) then ((if (Int32.ofInt 1) < (if (li 4) < (Int32.ofInt 60) then (li 4) else (Int32.ofInt 60)) then (if (li 4) < (Int32.ofInt 60) then (li 4) else (Int32.ofInt 60)) else (Int32.ofInt 1)) / (Int32.ofInt 2)) else (Int32.ofInt 1))), s1) := (u_E (5, 17, 5, 5) [47, 90] 120 g_t162 90 _ _ _).trans rfl
/-! GoodbyeQuay$Reader.advance -/
theorem b_105 (s : u_H) : u_c 105 [.inr (.inr 29)] s =
  u g_t105 2 ((u_l1 u_z1 1 (Int32.ofInt 0)), u_z2, [(0, 29)]) [] s := (u_cE (t := g_t105) rfl _ _).trans ((u_E (5, 17, 5, 5) [2, 42] 120 g_t105 0 _ _ _).trans rfl)
theorem b_105_2 (li : Nat → Int32) (ll : Nat → Int64) (s : u_H) : u g_t105 2 (li, ll, [(0, 29)]) [] s =
  if (li 1) < (Int32.ofInt 1600) then
    u_bi (u_c 151 [.inr (.inr 3), .inl (s.1 27 2)] s) fun x2 s1 =>
    u_bi (u_c 108 [.inl x2] s1) fun x4 s3 =>
    if x4 = 0 then
      u g_t105 42 (li, ll, [(0, 29)]) [] s3
    else
      u g_t105 2 ((u_l1 li 1 ((li 1) + (Int32.ofInt 1))), ll, [(0, 29)]) [] ((y_u s3.1 27 2 ((s3.1 27 2) + (Int32.ofInt 1))), s3.2)
  else
    u g_t105 42 (li, ll, [(0, 29)]) [] s := (u_E (5, 17, 5, 5) [2, 42] 120 g_t105 2 _ _ _).trans rfl
theorem b_105_42 (li : Nat → Int32) (ll : Nat → Int64) (s : u_H) : u g_t105 42 (li, ll, [(0, 29)]) [] s =
  u_bi (u_c 151 [.inr (.inr 3), .inl (s.1 27 2)] ((y_u s.1 27 3 (s.1 27 2)), s.2)) fun x2 s1 =>
  if x2 = (Int32.ofInt (-1)) then
    some (none, ((y_u s1.1 27 4 (Int32.ofInt 275)), s1.2))
  else
    u_bi (u_c 110 [.inl x2] s1) fun x4 s3 =>
    if x4 = 0 then
      u_bi (u_c 109 [.inl x2] s3) fun x6 s5 =>
      if x6 = 0 then
        u_bo (q_o1 5 x2) none fun x7 =>
        if x7 < 0 then
          u_bv (u_c 127 [.inr (.inr 29), .inl (Int32.ofInt 1)] s5) fun s8 =>
          some (none, s8)
        else
          some (none, ((y_u (y_u s5.1 27 4 x2) 27 2 ((s5.1 27 2) + (Int32.ofInt 1))), s5.2))
      else
        u_bv (u_c 128 [.inr (.inr 29)] s5) fun s9 =>
        some (none, s9)
    else
      u_bv (u_c 129 [.inr (.inr 29)] s3) fun s10 =>
      if (s10.1 27 4) = (Int32.ofInt 273) then
        u_bi (u_c 112 [.inr (.inr 29)] s10) fun x12 s11 =>
        some (none, ((y_u s11.1 27 4 x12), s11.2))
      else
        some (none, ((y_u s10.1 27 4 (s10.1 27 4)), s10.2)) := (u_E (5, 17, 5, 5) [2, 42] 120 g_t105 42 _ _ _).trans rfl
/-! GoodbyeQuayModel.token -/
theorem b_309 (s : u_H) : u_c 309 [.inr (.inr 67)] s =
  u_bi (u_c 219 [.inr (.inr 67), .inl (Int32.ofInt 0)] s) fun x2 s1 =>
  if x2 = (Int32.ofInt 32) then
    u g_t309 0 (u_z1, u_z2, [(0, 67)]) [] ((y_u s1.1 65 4 ((s1.1 65 4) + (Int32.ofInt 1))), s1.2)
  else
    u_bi (u_c 219 [.inr (.inr 67), .inl (Int32.ofInt 0)] s1) fun x4 s3 =>
    if x4 = (Int32.ofInt 10) then
      u g_t309 0 (u_z1, u_z2, [(0, 67)]) [] ((y_u s3.1 65 4 ((s3.1 65 4) + (Int32.ofInt 1))), s3.2)
    else
      u_bi (u_c 219 [.inr (.inr 67), .inl (Int32.ofInt 0)] ((y_u s3.1 65 7 (s3.1 65 4)), s3.2)) fun x6 s5 =>
      if x6 < 0 then
        if (Int32.ofInt 0) = (Int32.ofInt 3) then
          some (none, ((y_u (y_u s5.1 65 8 (Int32.ofInt 0)) 65 6 (Int32.ofInt 0)), (y_u s5.2.1 65 9 (Int64.ofNat 0)), s5.2.2))
        else
          some (none, ((y_u (y_u (y_u s5.1 65 8 (Int32.ofInt 0)) 65 6 (Int32.ofInt 0)) 65 4 ((s5.1 65 4) + (Int32.ofInt 0))), (y_u s5.2.1 65 9 (Int64.ofNat 0)), s5.2.2))
      else
        u_bi (u_c 231 [.inl x6] ((y_u s5.1 65 8 (Int32.ofInt 0)), (y_u s5.2.1 65 9 (Int64.ofNat 0)), s5.2.2)) fun x8 s7 =>
        if x8 = 0 then
          u_bi (u_c 225 [.inl x6] s7) fun x10 s9 =>
          if x10 = 0 then
            u_bi (u_c 237 [.inl x6] s9) fun x12 s11 =>
            if x12 = 0 then
              if (Int32.ofInt 3) = (Int32.ofInt 3) then
                some (none, ((y_u s11.1 65 6 (Int32.ofInt 3)), s11.2))
              else
                some (none, ((y_u (y_u s11.1 65 6 (Int32.ofInt 3)) 65 4 ((s11.1 65 4) + (Int32.ofInt 1))), s11.2))
            else
              if x6 = (Int32.ofInt 3) then
                some (none, ((y_u s11.1 65 6 x6), s11.2))
              else
                some (none, ((y_u (y_u s11.1 65 6 x6) 65 4 ((s11.1 65 4) + (Int32.ofInt 1))), s11.2))
          else
            u g_t309 144 ((u_l1 (u_l1 u_z1 1 x6) 2 (Int32.ofInt 0)), u_z2, [(0, 67)]) [] s9
        else
          u g_t309 78 ((u_l1 (u_l1 u_z1 1 x6) 2 (Int32.ofInt 0)), u_z2, [(0, 67)]) [] s7 := (u_cE (t := g_t309) rfl _ _).trans ((u_E (5, 17, 5, 5) [0, 78, 144, 203] 120 g_t309 0 _ _ _).trans rfl)
theorem b_309_0 (s : u_H) : u g_t309 0 (li, ll, [(0, 67)]) [] s =
  u_bi (u_c 219 [.inr (.inr 67), .inl (Int32.ofInt 0)] s) fun x2 s1 =>
  if x2 = (Int32.ofInt 32) then
    u g_t309 0 (li, ll, [(0, 67)]) [] ((y_u s1.1 65 4 ((s1.1 65 4) + (Int32.ofInt 1))), s1.2)
  else
    u_bi (u_c 219 [.inr (.inr 67), .inl (Int32.ofInt 0)] s1) fun x4 s3 =>
    if x4 = (Int32.ofInt 10) then
      u g_t309 0 (li, ll, [(0, 67)]) [] ((y_u s3.1 65 4 ((s3.1 65 4) + (Int32.ofInt 1))), s3.2)
    else
      u_bi (u_c 219 [.inr (.inr 67), .inl (Int32.ofInt 0)] ((y_u s3.1 65 7 (s3.1 65 4)), s3.2)) fun x6 s5 =>
      if x6 < 0 then
        if (Int32.ofInt 0) = (Int32.ofInt 3) then
          some (none, ((y_u (y_u s5.1 65 8 (Int32.ofInt 0)) 65 6 (Int32.ofInt 0)), (y_u s5.2.1 65 9 (Int64.ofNat 0)), s5.2.2))
        else
          some (none, ((y_u (y_u (y_u s5.1 65 8 (Int32.ofInt 0)) 65 6 (Int32.ofInt 0)) 65 4 ((s5.1 65 4) + (Int32.ofInt 0))), (y_u s5.2.1 65 9 (Int64.ofNat 0)), s5.2.2))
      else
        u_bi (u_c 231 [.inl x6] ((y_u s5.1 65 8 (Int32.ofInt 0)), (y_u s5.2.1 65 9 (Int64.ofNat 0)), s5.2.2)) fun x8 s7 =>
        if x8 = 0 then
          u_bi (u_c 225 [.inl x6] s7) fun x10 s9 =>
          if x10 = 0 then
            u_bi (u_c 237 [.inl x6] s9) fun x12 s11 =>
            if x12 = 0 then
              if (Int32.ofInt 3) = (Int32.ofInt 3) then
                some (none, ((y_u s11.1 65 6 (Int32.ofInt 3)), s11.2))
              else
                some (none, ((y_u (y_u s11.1 65 6 (Int32.ofInt 3)) 65 4 ((s11.1 65 4) + (Int32.ofInt 1))), s11.2))
            else
              if x6 = (Int32.ofInt 3) then
                some (none, ((y_u s11.1 65 6 x6), s11.2))
              else
                some (none, ((y_u (y_u s11.1 65 6 x6) 65 4 ((s11.1 65 4) + (Int32.ofInt 1))), s11.2))
          else
            u g_t309 144 ((u_l1 (u_l1 li 1 x6) 2 (Int32.ofInt 0)), ll, [(0, 67)]) [] s9
        else
          u g_t309 78 ((u_l1 (u_l1 li 1 x6) 2 (Int32.ofInt 0)), ll, [(0, 67)]) [] s7 := (u_cE (t := g_t309) rfl _ _).trans ((u_E (5, 17, 5, 5) [0, 78, 144, 203] 120 g_t309 0 _ _ _).trans rfl)
theorem b_309_78 (li : Nat → Int32) (ll : Nat → Int64) (s : u_H) : u g_t309 78 (li, ll, [(0, 67)]) [] s =
  u_bi (u_c 219 [.inr (.inr 67), .inl (li 2)] s) fun x2 s1 =>
  u_bi (u_c 231 [.inl x2] s1) fun x4 s3 =>
  if x4 = 0 then
    if (Int32.ofInt 8) < (li 2) then
      if (Int32.ofInt 3) = (Int32.ofInt 3) then
        some (none, ((y_u s3.1 65 6 (Int32.ofInt 3)), s3.2))
      else
        some (none, ((y_u (y_u s3.1 65 6 (Int32.ofInt 3)) 65 4 ((s3.1 65 4) + (li 2))), s3.2))
    else
      if (Int32.ofInt 1) = (Int32.ofInt 3) then
        some (none, ((y_u s3.1 65 6 (Int32.ofInt 1)), s3.2))
      else
        some (none, ((y_u (y_u s3.1 65 6 (Int32.ofInt 1)) 65 4 ((s3.1 65 4) + (li 2))), s3.2))
  else
    if (li 2) < (Int32.ofInt 8) then
      u_bi (u_c 219 [.inr (.inr 67), .inl (li 2)] s3) fun x6 s5 =>
      u g_t309 78 ((u_l1 li 2 ((li 2) + (Int32.ofInt 1))), ll, [(0, 67)]) [] (s5.1, (y_u s5.2.1 65 9 (((s3.2.1 65 9) <<< ((Int32.ofInt 8).toInt64 &&& 63)) ||| x6.toInt64)), s5.2.2)
    else
      u g_t309 78 ((u_l1 li 2 ((li 2) + (Int32.ofInt 1))), ll, [(0, 67)]) [] s3 := (u_E (5, 17, 5, 5) [0, 78, 144, 203] 120 g_t309 78 _ _ _).trans rfl
theorem b_309_144 (li : Nat → Int32) (ll : Nat → Int64) (s : u_H) : u g_t309 144 (li, ll, [(0, 67)]) [] s =
  u_bi (u_c 219 [.inr (.inr 67), .inl (li 2)] s) fun x2 s1 =>
  u_bi (u_c 225 [.inl x2] s1) fun x4 s3 =>
  if x4 = 0 then
    if (Int32.ofInt 4) < (li 2) then
      u g_t309 203 (li, ll, [(0, 67)]) [.inr (.inr 67)] s3
    else
      u_bi (u_c 219 [.inr (.inr 67), .inl (li 2)] s3) fun x6 s5 =>
      u_bi (u_c 231 [.inl x6] s5) fun x8 s7 =>
      if x8 = 0 then
        if (Int32.ofInt 2) = (Int32.ofInt 3) then
          some (none, ((y_u s7.1 65 6 (Int32.ofInt 2)), s7.2))
        else
          some (none, ((y_u (y_u s7.1 65 6 (Int32.ofInt 2)) 65 4 ((s7.1 65 4) + (li 2))), s7.2))
      else
        u g_t309 203 (li, ll, [(0, 67)]) [.inr (.inr 67)] s7
  else
    if (li 2) < (Int32.ofInt 4) then
      u_bi (u_c 219 [.inr (.inr 67), .inl (li 2)] s3) fun x10 s9 =>
      u g_t309 144 ((u_l1 li 2 ((li 2) + (Int32.ofInt 1))), ll, [(0, 67)]) [] ((y_u s9.1 65 8 ((((Int32.ofInt 10) * (s3.1 65 8)) + x10) - (Int32.ofInt 48))), s9.2)
    else
      u g_t309 144 ((u_l1 li 2 ((li 2) + (Int32.ofInt 1))), ll, [(0, 67)]) [] s3 := (u_E (5, 17, 5, 5) [0, 78, 144, 203] 120 g_t309 144 _ _ _).trans rfl
theorem b_309_203 (li : Nat → Int32) (ll : Nat → Int64) (s : u_H) : u g_t309 203 (li, ll, [(0, 67)]) [.inr (.inr 67)] s =
  if (Int32.ofInt 3) = (Int32.ofInt 3) then
    some (none, ((y_u s.1 65 6 (Int32.ofInt 3)), s.2))
  else
    some (none, ((y_u (y_u s.1 65 6 (Int32.ofInt 3)) 65 4 ((s.1 65 4) + (li 2))), s.2)) := (u_E (5, 17, 5, 5) [0, 78, 144, 203] 120 g_t309 203 _ _ _).trans rfl
