/-! what the methods do (printed by wip/gen/allb.py) -/
/-! 200 GoodbyeQuayModel.exchangeInRow(II)V -/
set_option maxRecDepth 4000 in
theorem b_200 (p1 : Int32) (p2 : Int32) (s : u_H) : u_c 200 [.inr (.inr 67), .inl p1, .inl p2] s =
  if u_in p1 7 = true then
    if u_in p2 7 = true then
      if u_in p1 7 = true then
        if u_in p2 7 = true then
          some (none, ((y_u (y_u s.1 93 (p1.toNatClampNeg) (s.1 93 (p2.toNatClampNeg))) 93 (p2.toNatClampNeg) (s.1 93 (p1.toNatClampNeg))), s.2))
        else
          none
      else
        none
    else
      none
  else
    none := (u_cE (t := g_t200) rfl _ _).trans ((u_E (5, 17, 5, 5) [] 120 g_t200 0 _ _ _).trans rfl)
/-! 201 GoodbyeQuayModel.fault(I)I -/
set_option maxRecDepth 4000 in
theorem b_201 (p1 : Int32) (s : u_H) : u_c 201 [.inr (.inr 67), .inl p1] s =
  if p1 = 0 then
    some (some (.inl (s.1 65 2)), s)
  else
    if p1 = (Int32.ofInt 1) then
      some (some (.inl (s.1 65 3)), s)
    else
      some (some (.inl (u_k (-1))), s) := (u_cE (t := g_t201) rfl _ _).trans ((u_E (5, 17, 5, 5) [] 120 g_t201 0 _ _ _).trans rfl)
/-! 202 GoodbyeQuayModel.feed(IIIII)I -/
set_option maxRecDepth 4000 in
theorem b_202 (p1 : Int32) (p2 : Int32) (p3 : Int32) (p4 : Int32) (p5 : Int32) (s : u_H) : u_c 202 [.inr (.inr 67), .inl p1, .inl p2, .inl p3, .inl p4, .inl p5] s =
  if (u_k 1600) < ((s.1 65 1) + (Int32.ofInt 20)) then
    some (some (.inl (u_k (-1))), s)
  else
    u_bv (u_c 209 [.inr (.inr 67), .inl p1] s) fun s1 =>
    u_bv (u_c 209 [.inr (.inr 67), .inl p2] s1) fun s2 =>
    u_bv (u_c 209 [.inr (.inr 67), .inl p3] s2) fun s3 =>
    u_bv (u_c 209 [.inr (.inr 67), .inl p4] s3) fun s4 =>
    u_bv (u_c 209 [.inr (.inr 67), .inl p5] s4) fun s5 =>
    some (some (.inl (s5.1 65 1)), s5) := (u_cE (t := g_t202) rfl _ _).trans ((u_E (5, 17, 5, 5) [] 120 g_t202 0 _ _ _).trans rfl)
/-! 203 GoodbyeQuayModel.fill()V -/
set_option maxRecDepth 4000 in
theorem b_203 (s : u_H) : u_c 203 [.inr (.inr 67)] s =
  u g_t203 2 ((u_l1 u_z1 1 (Int32.ofInt 0)), u_z2, [(0, 67)]) [] s := (u_cE (t := g_t203) rfl _ _).trans ((u_E (5, 17, 5, 5) [2] 120 g_t203 0 _ _ _).trans rfl)
set_option maxRecDepth 4000 in
theorem b_203_2 (li : Nat → Int32) (ll : Nat → Int64) (s : u_H) : u g_t203 2 (li, ll, [(0, 67)]) [] s =
  if (li 1) < (Int32.ofInt 28) then
    if u_in (li 1) 28 = true then
      if u_in (li 1) 28 = true then
        u g_t203 2 ((u_l1 li 1 ((li 1) + (Int32.ofInt 1))), ll, [(0, 67)]) [] ((y_u s.1 86 ((li 1).toNatClampNeg) (s.1 85 ((li 1).toNatClampNeg))), s.2)
      else
        none
    else
      none
  else
    u_bv (u_c 177 [.inr (.inr 67)] s) fun s1 =>
    some (none, s1) := (u_E (5, 17, 5, 5) [2] 120 g_t203 2 _ _ _).trans rfl
/-! 204 GoodbyeQuayModel.find(II)I -/
set_option maxRecDepth 4000 in
theorem b_204 (p1 : Int32) (p2 : Int32) (s : u_H) : u_c 204 [.inr (.inr 67), .inl p1, .inl p2] s =
  u g_t204 5 ((u_l1 (u_l1 (u_l1 (u_l1 u_z1 1 p1) 2 p2) 3 (u_k (-1))) 4 (Int32.ofInt 0)), u_z2, [(0, 67)]) [] s := (u_cE (t := g_t204) rfl _ _).trans ((u_E (5, 17, 5, 5) [5] 120 g_t204 0 _ _ _).trans rfl)
set_option maxRecDepth 4000 in
theorem b_204_5 (li : Nat → Int32) (ll : Nat → Int64) (s : u_H) : u g_t204 5 (li, ll, [(0, 67)]) [] s =
  if (li 4) < (li 2) then
    if u_in ((li 1) + (li 4)) 12 = true then
      if (lg_cmp (s.2.1 67 (((li 1) + (li 4)).toNatClampNeg)) (s.2.1 65 9)) = 0 then
        u g_t204 5 ((u_l1 (u_l1 li 3 (li 4)) 4 ((li 4) + (Int32.ofInt 1))), ll, [(0, 67)]) [] s
      else
        u g_t204 5 ((u_l1 (u_l1 li 3 (li 3)) 4 ((li 4) + (Int32.ofInt 1))), ll, [(0, 67)]) [] s
    else
      none
  else
    some (some (.inl (li 3)), s) := (u_E (5, 17, 5, 5) [5] 120 g_t204 5 _ _ _).trans rfl
/-! 205 GoodbyeQuayModel.fits(I)I -/
set_option maxRecDepth 4000 in
theorem b_205 (p1 : Int32) (s : u_H) : u_c 205 [.inr (.inr 67), .inl p1] s =
  u_bi (u_c 244 [.inr (.inr 67), .inl p1] s) fun x2 s1 =>
  some (some (.inl x2), s1) := (u_cE (t := g_t205) rfl _ _).trans ((u_E (5, 17, 5, 5) [] 120 g_t205 0 _ _ _).trans rfl)
/-! 206 GoodbyeQuayModel.fitsNeeds(II)Z -/
set_option maxRecDepth 4000 in
theorem b_206 (p1 : Int32) (p2 : Int32) (s : u_H) : u_c 206 [.inr (.inr 67), .inl p1, .inl p2] s =
  u g_t206 5 ((u_l1 (u_l1 (u_l1 (u_l1 u_z1 1 p1) 2 p2) 3 (Int32.ofInt 1)) 4 (Int32.ofInt 0)), u_z2, [(0, 67)]) [] s := (u_cE (t := g_t206) rfl _ _).trans ((u_E (5, 17, 5, 5) [5, 53, 85] 120 g_t206 0 _ _ _).trans rfl)
set_option maxRecDepth 4000 in
theorem b_206_5 (li : Nat → Int32) (ll : Nat → Int64) (s : u_H) : u g_t206 5 (li, ll, [(0, 67)]) [] s =
  if (li 4) < (s.1 65 78) then
    if (li 3) = 0 then
      if q_ib (li 3) = true then some (some (.inl (li 3)), s) else none
    else
      if u_in (li 4) 30 = true then
        if (li 2) < (s.1 98 ((li 4).toNatClampNeg)) then
          u g_t206 5 ((u_l1 li 4 ((li 4) + (Int32.ofInt 1))), ll, [(0, 67)]) [] s
        else
          if u_in (li 4) 30 = true then
            if (s.1 99 ((li 4).toNatClampNeg)) < 0 then
              u g_t206 53 (li, ll, [(0, 67)]) [] s
            else
              if u_in (li 4) 30 = true then
                if (li 2) < (s.1 99 ((li 4).toNatClampNeg)) then
                  u g_t206 53 (li, ll, [(0, 67)]) [] s
                else
                  u g_t206 5 ((u_l1 li 4 ((li 4) + (Int32.ofInt 1))), ll, [(0, 67)]) [] s
              else
                none
          else
            none
      else
        none
  else
    if q_ib (li 3) = true then some (some (.inl (li 3)), s) else none := (u_E (5, 17, 5, 5) [5, 53, 85] 120 g_t206 5 _ _ _).trans rfl
set_option maxRecDepth 4000 in
theorem b_206_53 (li : Nat → Int32) (ll : Nat → Int64) (s : u_H) : u g_t206 53 (li, ll, [(0, 67)]) [] s =
  if u_in (li 4) 30 = true then
    if u_in (((Int32.ofInt 61) * (li 1)) + (s.1 96 ((li 4).toNatClampNeg))) 1891 = true then
      if u_in (li 4) 30 = true then
        if (s.1 101 ((((Int32.ofInt 61) * (li 1)) + (s.1 96 ((li 4).toNatClampNeg))).toNatClampNeg)) < (s.1 97 ((li 4).toNatClampNeg)) then
          u g_t206 85 (li, ll, [(0, 67)]) [.inl (Int32.ofInt 0)] s
        else
          u g_t206 85 (li, ll, [(0, 67)]) [.inl (Int32.ofInt 1)] s
      else
        none
    else
      none
  else
    none := (u_E (5, 17, 5, 5) [5, 53, 85] 120 g_t206 53 _ _ _).trans rfl
set_option maxRecDepth 4000 in
theorem b_206_85 (v0 : Int32) (li : Nat → Int32) (ll : Nat → Int64) (s : u_H) : u g_t206 85 (li, ll, [(0, 67)]) [.inl v0] s =
  if u_in (li 4) 30 = true then
    if v0 = (s.1 100 ((li 4).toNatClampNeg)) then
      u g_t206 5 ((u_l1 (u_l1 li 3 (Int32.ofInt 1)) 4 ((li 4) + (Int32.ofInt 1))), ll, [(0, 67)]) [] s
    else
      u g_t206 5 ((u_l1 (u_l1 li 3 (Int32.ofInt 0)) 4 ((li 4) + (Int32.ofInt 1))), ll, [(0, 67)]) [] s
  else
    none := (u_E (5, 17, 5, 5) [5, 53, 85] 120 g_t206 85 _ _ _).trans rfl
/-! 207 GoodbyeQuayModel.fondest()I -/
set_option maxRecDepth 4000 in
theorem b_207 (s : u_H) : u_c 207 [.inr (.inr 67)] s =
  u g_t207 4 ((u_l1 (u_l1 u_z1 1 (u_k (-1))) 2 (Int32.ofInt 0)), u_z2, [(0, 67)]) [] s := (u_cE (t := g_t207) rfl _ _).trans ((u_E (5, 17, 5, 5) [4] 120 g_t207 0 _ _ _).trans rfl)
set_option maxRecDepth 4000 in
theorem b_207_4 (li : Nat → Int32) (ll : Nat → Int64) (s : u_H) : u g_t207 4 (li, ll, [(0, 67)]) [] s =
  if (li 2) < (s.1 85 8) then
    if (li 1) < 0 then
      if u_in (li 2) 28 = true then
        u g_t207 4 ((u_l1 (u_l1 li 1 (s.1 85 ((li 2).toNatClampNeg))) 2 ((li 2) + (Int32.ofInt 1))), ll, [(0, 67)]) [] s
      else
        none
    else
      if u_in (li 2) 28 = true then
        if u_in (s.1 85 ((li 2).toNatClampNeg)) 8 = true then
          if u_in (li 1) 8 = true then
            if (s.1 84 ((li 1).toNatClampNeg)) < (s.1 84 ((s.1 85 ((li 2).toNatClampNeg)).toNatClampNeg)) then
              if u_in (li 2) 28 = true then
                u g_t207 4 ((u_l1 (u_l1 li 1 (s.1 85 ((li 2).toNatClampNeg))) 2 ((li 2) + (Int32.ofInt 1))), ll, [(0, 67)]) [] s
              else
                none
            else
              u g_t207 4 ((u_l1 li 2 ((li 2) + (Int32.ofInt 1))), ll, [(0, 67)]) [] s
          else
            none
        else
          none
      else
        none
  else
    some (some (.inl (li 1)), s) := (u_E (5, 17, 5, 5) [4] 120 g_t207 4 _ _ _).trans rfl
/-! 208 GoodbyeQuayModel.formula()V -/
set_option maxRecDepth 4000 in
theorem b_208 (s : u_H) : u_c 208 [.inr (.inr 67)] s =
  u_bv (u_c 309 [.inr (.inr 67)] s) fun s1 =>
  u_bv (u_c 316 [.inr (.inr 67)] ((y_u (y_u (y_u (y_u (y_u s1.1 65 24 (Int32.ofInt 1)) 65 17 (Int32.ofInt 0)) 65 19 (Int32.ofInt 0)) 65 23 (Int32.ofInt 0)) 65 22 (Int32.ofInt 0)), s1.2)) fun s2 =>
  u g_t208 35 ((u_l1 u_z1 1 (Int32.ofInt 1)), u_z2, [(0, 67)]) [] s2 := (u_cE (t := g_t208) rfl _ _).trans ((u_E (5, 17, 5, 5) [35, 99, 118, 162] 120 g_t208 0 _ _ _).trans rfl)
set_option maxRecDepth 4000 in
theorem b_208_35 (li : Nat → Int32) (ll : Nat → Int64) (s : u_H) : u g_t208 35 (li, ll, [(0, 67)]) [] s =
  if (li 1) = 0 then
    u g_t208 162 (li, ll, [(0, 67)]) [] s
  else
    if (s.1 65 2) = 0 then
      u_bi (u_c 300 [.inr (.inr 67)] s) fun x2 s1 =>
      if (s1.1 65 6) = (Int32.ofInt 41) then
        u_bi (u_c 217 [.inr (.inr 67)] s1) fun x4 s3 =>
        if x4 = 0 then
          u g_t208 99 ((u_l1 li 2 x2), ll, [(0, 67)]) [] s3
        else
          u_bv (u_c 187 [.inr (.inr 67), .inl (Int32.ofInt 0)] s3) fun s5 =>
          u_bv (u_c 309 [.inr (.inr 67)] ((y_u (y_u s5.1 65 19 ((s5.1 65 19) - (Int32.ofInt 1))) 65 23 ((s5.1 65 23) - (Int32.ofInt 1))), s5.2)) fun s6 =>
          u g_t208 35 ((u_l1 li 2 x2), ll, [(0, 67)]) [] s6
      else
        u g_t208 99 ((u_l1 li 2 x2), ll, [(0, 67)]) [] s1
    else
      u g_t208 162 (li, ll, [(0, 67)]) [] s := (u_E (5, 17, 5, 5) [35, 99, 118, 162] 120 g_t208 35 _ _ _).trans rfl
set_option maxRecDepth 4000 in
theorem b_208_99 (li : Nat → Int32) (ll : Nat → Int64) (s : u_H) : u g_t208 99 (li, ll, [(0, 67)]) [] s =
  if (li 2) = 0 then
    u g_t208 35 ((u_l1 li 1 (Int32.ofInt 0)), ll, [(0, 67)]) [] s
  else
    u_bi (u_c 308 [.inl (li 2)] s) fun x2 s1 =>
    if x2 = (Int32.ofInt 4) then
      u_bi (u_c 218 [.inr (.inr 67)] s1) fun x4 s3 =>
      if x4 = 0 then
        u g_t208 118 (li, ll, [(0, 67)]) [] s3
      else
        u g_t208 35 ((u_l1 li 1 (Int32.ofInt 0)), ll, [(0, 67)]) [] s3
    else
      u g_t208 118 (li, ll, [(0, 67)]) [] s1 := (u_E (5, 17, 5, 5) [35, 99, 118, 162] 120 g_t208 99 _ _ _).trans rfl
set_option maxRecDepth 4000 in
theorem b_208_118 (li : Nat → Int32) (ll : Nat → Int64) (s : u_H) : u g_t208 118 (li, ll, [(0, 67)]) [] s =
  u_bi (u_c 308 [.inl (li 2)] s) fun x2 s1 =>
  u_bv (u_c 187 [.inr (.inr 67), .inl x2] s1) fun s3 =>
  if u_in (s3.1 65 19) 160 = true then
    u_bv (u_c 309 [.inr (.inr 67)] ((y_u (y_u s3.1 72 ((s3.1 65 19).toNatClampNeg) (li 2)) 65 19 ((s3.1 65 19) + (Int32.ofInt 1))), s3.2)) fun s4 =>
    u_bv (u_c 316 [.inr (.inr 67)] s4) fun s5 =>
    u g_t208 35 (li, ll, [(0, 67)]) [] s5
  else
    none := (u_E (5, 17, 5, 5) [35, 99, 118, 162] 120 g_t208 118 _ _ _).trans rfl
set_option maxRecDepth 4000 in
theorem b_208_162 (li : Nat → Int32) (ll : Nat → Int64) (s : u_H) : u g_t208 162 (li, ll, [(0, 67)]) [] s =
  if (s.1 65 2) = 0 then
    u_bi (u_c 217 [.inr (.inr 67)] s) fun x2 s1 =>
    if x2 = 0 then
      if (s1.1 65 2) = 0 then
        u_bv (u_c 187 [.inr (.inr 67), .inl (Int32.ofInt 0)] s1) fun s3 =>
        some (none, s3)
      else
        some (none, s1)
    else
      u_bv (u_c 324 [.inr (.inr 67), .inl (Int32.ofInt 2)] s1) fun s4 =>
      if (s4.1 65 2) = 0 then
        u_bv (u_c 187 [.inr (.inr 67), .inl (Int32.ofInt 0)] s4) fun s5 =>
        some (none, s5)
      else
        some (none, s4)
  else
    if (s.1 65 2) = 0 then
      u_bv (u_c 187 [.inr (.inr 67), .inl (Int32.ofInt 0)] s) fun s6 =>
      some (none, s6)
    else
      some (none, s) := (u_E (5, 17, 5, 5) [35, 99, 118, 162] 120 g_t208 162 _ _ _).trans rfl
/-! 209 GoodbyeQuayModel.four(I)V -/
set_option maxRecDepth 4000 in
theorem b_209 (p1 : Int32) (s : u_H) : u_c 209 [.inr (.inr 67), .inl p1] s =
  u g_t209 3 ((u_l1 (u_l1 u_z1 1 p1) 2 (Int32.ofInt 24)), u_z2, [(0, 67)]) [] s := (u_cE (t := g_t209) rfl _ _).trans ((u_E (5, 17, 5, 5) [3] 120 g_t209 0 _ _ _).trans rfl)
set_option maxRecDepth 4000 in
theorem b_209_3 (li : Nat → Int32) (ll : Nat → Int64) (s : u_H) : u g_t209 3 (li, ll, [(0, 67)]) [] s =
  if (li 2) < 0 then
    some (none, s)
  else
    if u_in (s.1 65 1) 1600 = true then
      u g_t209 3 ((u_l1 li 2 ((li 2) + (u_k (-8)))), ll, [(0, 67)]) [] ((y_u (y_u s.1 66 ((s.1 65 1).toNatClampNeg) (((li 1) >>> ((li 2) &&& 31)) &&& (u_k 255))) 65 1 ((s.1 65 1) + (Int32.ofInt 1))), s.2)
    else
      none := (u_E (5, 17, 5, 5) [3] 120 g_t209 3 _ _ _).trans rfl
/-! 210 GoodbyeQuayModel.frees(I)V -/
set_option maxRecDepth 4000 in
theorem b_210 (p1 : Int32) (s : u_H) : u_c 210 [.inr (.inr 67), .inl p1] s =
  if u_in ((Int32.ofInt 18) + p1) 28 = true then
    if u_in ((Int32.ofInt 21) + p1) 28 = true then
      if u_in p1 3 = true then
        if (s.1 88 (p1.toNatClampNeg)) = 0 then
          if u_in p1 3 = true then
            some (none, ((y_u (y_u (y_u s.1 86 (((Int32.ofInt 18) + p1).toNatClampNeg) (u_k (-1))) 86 (((Int32.ofInt 21) + p1).toNatClampNeg) (Int32.ofInt 0)) 88 (p1.toNatClampNeg) (Int32.ofInt 0)), s.2))
          else
            none
        else
          if u_in p1 3 = true then
            if u_in p1 3 = true then
              some (none, ((y_u (y_u (y_u (y_u s.1 86 (((Int32.ofInt 18) + p1).toNatClampNeg) (u_k (-1))) 86 (((Int32.ofInt 21) + p1).toNatClampNeg) (Int32.ofInt 0)) 87 (p1.toNatClampNeg) (s.1 65 59)) 88 (p1.toNatClampNeg) (Int32.ofInt 0)), s.2))
            else
              none
          else
            none
      else
        none
    else
      none
  else
    none := (u_cE (t := g_t210) rfl _ _).trans ((u_E (5, 17, 5, 5) [] 120 g_t210 0 _ _ _).trans rfl)
/-! 211 GoodbyeQuayModel.giveUp(I)I -/
set_option maxRecDepth 4000 in
theorem b_211 (p1 : Int32) (s : u_H) : u_c 211 [.inr (.inr 67), .inl p1] s =
  u_bi (u_c 235 [.inr (.inr 67), .inl p1] s) fun x2 s1 =>
  if x2 = 0 then
    some (some (.inl (u_k (-1))), s1)
  else
    u_bv (u_c 175 [.inr (.inr 67)] s1) fun s3 =>
    u_bi (u_c 272 [.inr (.inr 67), .inl p1] s3) fun x5 s4 =>
    u_bi (u_c 307 [.inr (.inr 67), .inl x5] s4) fun x7 s6 =>
    if u_in ((Int32.ofInt 9) + p1) 28 = true then
      u_bv (u_c 240 [.inr (.inr 67)] ((y_u s6.1 86 (((Int32.ofInt 9) + p1).toNatClampNeg) (Int32.ofInt 4)), s6.2)) fun s8 =>
      some (some (.inl (s8.1 85 8)), s8)
    else
      none := (u_cE (t := g_t211) rfl _ _).trans ((u_E (5, 17, 5, 5) [] 120 g_t211 0 _ _ _).trans rfl)
/-! 212 GoodbyeQuayModel.goMinute(Z)I -/
set_option maxRecDepth 4000 in
theorem b_212 (p1 : Int32) (s : u_H) : u_c 212 [.inr (.inr 67), .inl p1] s =
  u g_t212 4 ((u_l1 (u_l1 (u_l1 u_z1 1 p1) 2 (Int32.ofInt 0)) 3 (Int32.ofInt 0)), u_z2, [(0, 67)]) [] s := (u_cE (t := g_t212) rfl _ _).trans ((u_E (5, 17, 5, 5) [4, 74, 185] 120 g_t212 0 _ _ _).trans rfl)
set_option maxRecDepth 4000 in
theorem b_212_4 (li : Nat → Int32) (ll : Nat → Int64) (s : u_H) : u g_t212 4 (li, ll, [(0, 67)]) [] s =
  if (li 3) < (s.1 65 28) then
    u_bi (u_c 227 [.inr (.inr 67), .inl (li 3)] s) fun x2 s1 =>
    if x2 = 0 then
      u_bi (u_c 227 [.inr (.inr 67), .inl (li 3)] s1) fun x4 s3 =>
      if x4 = 0 then
        u g_t212 4 ((u_l1 li 3 ((li 3) + (Int32.ofInt 1))), ll, [(0, 67)]) [] s3
      else
        u_bv (u_c 304 [.inr (.inr 67), .inl (li 3), .inl (li 1)] s3) fun s5 =>
        u g_t212 4 ((u_l1 li 3 ((li 3) + (Int32.ofInt 1))), ll, [(0, 67)]) [] s5
    else
      if u_in (li 3) 3 = true then
        if 0 < (s1.1 87 ((li 3).toNatClampNeg)) then
          if u_in (li 3) 3 = true then
            if u_in (li 3) 3 = true then
              u g_t212 4 ((u_l1 li 3 ((li 3) + (Int32.ofInt 1))), ll, [(0, 67)]) [] ((y_u s1.1 87 ((li 3).toNatClampNeg) ((s1.1 87 ((li 3).toNatClampNeg)) - (Int32.ofInt 1))), s1.2)
            else
              none
          else
            none
        else
          u_bi (u_c 227 [.inr (.inr 67), .inl (li 3)] s1) fun x7 s6 =>
          if x7 = 0 then
            u g_t212 4 ((u_l1 li 3 ((li 3) + (Int32.ofInt 1))), ll, [(0, 67)]) [] s6
          else
            u_bv (u_c 304 [.inr (.inr 67), .inl (li 3), .inl (li 1)] s6) fun s8 =>
            u g_t212 4 ((u_l1 li 3 ((li 3) + (Int32.ofInt 1))), ll, [(0, 67)]) [] s8
      else
        none
  else
    u g_t212 74 ((u_l1 li 3 (Int32.ofInt 0)), ll, [(0, 67)]) [] ((y_u s.1 65 62 ((s.1 65 62) + (Int32.ofInt 1))), s.2) := (u_E (5, 17, 5, 5) [4, 74, 185] 120 g_t212 4 _ _ _).trans rfl
set_option maxRecDepth 4000 in
theorem b_212_74 (li : Nat → Int32) (ll : Nat → Int64) (s : u_H) : u g_t212 74 (li, ll, [(0, 67)]) [] s =
  if (li 3) < (s.1 65 28) then
    u_bi (u_c 227 [.inr (.inr 67), .inl (li 3)] s) fun x2 s1 =>
    if x2 = 0 then
      if u_in ((Int32.ofInt 21) + (li 3)) 28 = true then
        if u_in ((Int32.ofInt 21) + (li 3)) 28 = true then
          if u_in ((Int32.ofInt 21) + (li 3)) 28 = true then
            if 0 < ((y_u s1.1 86 (((Int32.ofInt 21) + (li 3)).toNatClampNeg) ((s1.1 86 (((Int32.ofInt 21) + (li 3)).toNatClampNeg)) - (Int32.ofInt 1))) 86 (((Int32.ofInt 21) + (li 3)).toNatClampNeg)) then
              u g_t212 74 ((u_l1 li 3 ((li 3) + (Int32.ofInt 1))), ll, [(0, 67)]) [] ((y_u s1.1 86 (((Int32.ofInt 21) + (li 3)).toNatClampNeg) ((s1.1 86 (((Int32.ofInt 21) + (li 3)).toNatClampNeg)) - (Int32.ofInt 1))), s1.2)
            else
              if u_in ((Int32.ofInt 18) + (li 3)) 28 = true then
                if u_in ((Int32.ofInt 9) + ((y_u s1.1 86 (((Int32.ofInt 21) + (li 3)).toNatClampNeg) ((s1.1 86 (((Int32.ofInt 21) + (li 3)).toNatClampNeg)) - (Int32.ofInt 1))) 86 (((Int32.ofInt 18) + (li 3)).toNatClampNeg))) 28 = true then
                  if u_in ((y_u s1.1 86 (((Int32.ofInt 21) + (li 3)).toNatClampNeg) ((s1.1 86 (((Int32.ofInt 21) + (li 3)).toNatClampNeg)) - (Int32.ofInt 1))) 86 (((Int32.ofInt 18) + (li 3)).toNatClampNeg)) 8 = true then
                    u_bv (u_c 210 [.inr (.inr 67), .inl (li 3)] ((y_u (y_u (y_u s1.1 86 (((Int32.ofInt 21) + (li 3)).toNatClampNeg) ((s1.1 86 (((Int32.ofInt 21) + (li 3)).toNatClampNeg)) - (Int32.ofInt 1))) 86 (((Int32.ofInt 9) + ((y_u s1.1 86 (((Int32.ofInt 21) + (li 3)).toNatClampNeg) ((s1.1 86 (((Int32.ofInt 21) + (li 3)).toNatClampNeg)) - (Int32.ofInt 1))) 86 (((Int32.ofInt 18) + (li 3)).toNatClampNeg))).toNatClampNeg) (Int32.ofInt 2)) 89 (((y_u s1.1 86 (((Int32.ofInt 21) + (li 3)).toNatClampNeg) ((s1.1 86 (((Int32.ofInt 21) + (li 3)).toNatClampNeg)) - (Int32.ofInt 1))) 86 (((Int32.ofInt 18) + (li 3)).toNatClampNeg)).toNatClampNeg) (s1.1 65 62)), s1.2)) fun s3 =>
                    u g_t212 74 ((u_l1 (u_l1 (u_l1 li 4 ((y_u s1.1 86 (((Int32.ofInt 21) + (li 3)).toNatClampNeg) ((s1.1 86 (((Int32.ofInt 21) + (li 3)).toNatClampNeg)) - (Int32.ofInt 1))) 86 (((Int32.ofInt 18) + (li 3)).toNatClampNeg))) 2 ((li 2) ||| ((Int32.ofInt 1) <<< (((y_u s1.1 86 (((Int32.ofInt 21) + (li 3)).toNatClampNeg) ((s1.1 86 (((Int32.ofInt 21) + (li 3)).toNatClampNeg)) - (Int32.ofInt 1))) 86 (((Int32.ofInt 18) + (li 3)).toNatClampNeg)) &&& 31)))) 3 ((li 3) + (Int32.ofInt 1))), ll, [(0, 67)]) [] s3
                  else
                    none
                else
                  none
              else
                none
          else
            none
        else
          none
      else
        none
    else
      u g_t212 74 ((u_l1 li 3 ((li 3) + (Int32.ofInt 1))), ll, [(0, 67)]) [] s1
  else
    u g_t212 185 ((u_l1 li 3 (Int32.ofInt 0)), ll, [(0, 67)]) [] ((y_u s.1 86 26 ((s.1 86 26) + (Int32.ofInt 1))), s.2) := (u_E (5, 17, 5, 5) [4, 74, 185] 120 g_t212 74 _ _ _).trans rfl
set_option maxRecDepth 4000 in
theorem b_212_185 (li : Nat → Int32) (ll : Nat → Int64) (s : u_H) : u g_t212 185 (li, ll, [(0, 67)]) [] s =
  if (li 3) < (s.1 65 28) then
    u_bi (u_c 227 [.inr (.inr 67), .inl (li 3)] s) fun x2 s1 =>
    if x2 = 0 then
      if u_in ((Int32.ofInt 18) + (li 3)) 28 = true then
        if u_in (s1.1 86 (((Int32.ofInt 18) + (li 3)).toNatClampNeg)) 8 = true then
          u_bi (u_c 229 [.inr (.inr 67), .inl (s1.1 82 ((s1.1 86 (((Int32.ofInt 18) + (li 3)).toNatClampNeg)).toNatClampNeg))] s1) fun x4 s3 =>
          if x4 = 0 then
            u g_t212 185 ((u_l1 li 3 ((li 3) + (Int32.ofInt 1))), ll, [(0, 67)]) [] s3
          else
            if u_in ((Int32.ofInt 18) + (li 3)) 28 = true then
              u_bv (u_c 261 [.inr (.inr 67), .inl (s3.1 86 (((Int32.ofInt 18) + (li 3)).toNatClampNeg))] s3) fun s5 =>
              u_bv (u_c 210 [.inr (.inr 67), .inl (li 3)] s5) fun s6 =>
              u g_t212 185 ((u_l1 li 3 ((li 3) + (Int32.ofInt 1))), ll, [(0, 67)]) [] s6
            else
              none
        else
          none
      else
        none
    else
      u g_t212 185 ((u_l1 li 3 ((li 3) + (Int32.ofInt 1))), ll, [(0, 67)]) [] s1
  else
    some (some (.inl (li 2)), s) := (u_E (5, 17, 5, 5) [4, 74, 185] 120 g_t212 185 _ _ _).trans rfl
/-! 213 GoodbyeQuayModel.goOn()V -/
set_option maxRecDepth 4000 in
theorem b_213 (s : u_H) : u_c 213 [.inr (.inr 67)] s =
  u g_t213 0 (u_z1, u_z2, [(0, 67)]) [] s := u_cE (t := g_t213) rfl _ _
set_option maxRecDepth 4000 in
theorem b_213_0 (li : Nat → Int32) (ll : Nat → Int64) (s : u_H) : u g_t213 0 (li, ll, [(0, 67)]) [] s =
  u_bi (u_c 226 [.inr (.inr 67)] s) fun x2 s1 =>
  if x2 = 0 then
    u_bi (u_c 212 [.inr (.inr 67), .inl (Int32.ofInt 0)] s1) fun x4 s3 =>
    u g_t213 0 (li, ll, [(0, 67)]) [] s3
  else
    some (none, s1) := (u_E (5, 17, 5, 5) [0] 120 g_t213 0 _ _ _).trans rfl
/-! 214 GoodbyeQuayModel.greater(II)I -/
set_option maxRecDepth 4000 in
theorem b_214 (p1 : Int32) (p2 : Int32) (s : u_H) : u_c 214 [.inl p1, .inl p2] s =
  if p2 < p1 then
    some (some (.inl p1), s)
  else
    some (some (.inl p2), s) := (u_cE (t := g_t214) rfl _ _).trans ((u_E (5, 17, 5, 5) [] 120 g_t214 0 _ _ _).trans rfl)
/-! 215 GoodbyeQuayModel.grudge(I)I -/
set_option maxRecDepth 4000 in
theorem b_215 (p1 : Int32) (s : u_H) : u_c 215 [.inr (.inr 67), .inl p1] s =
  u_bi (u_c 235 [.inr (.inr 67), .inl p1] s) fun x2 s1 =>
  if x2 = 0 then
    some (some (.inl (u_k (-1))), s1)
  else
    u_bi (u_c 293 [.inr (.inr 67), .inl p1] s1) fun x4 s3 =>
    if x4 < (u_kv 1000000) then
      some (some (.inl (u_k (-1))), s3)
    else
      u g_t215 25 ((u_l1 (u_l1 (u_l1 u_z1 1 p1) 2 (Int32.ofInt 0)) 3 (Int32.ofInt 0)), u_z2, [(0, 67)]) [] s3 := (u_cE (t := g_t215) rfl _ _).trans ((u_E (5, 17, 5, 5) [25] 120 g_t215 0 _ _ _).trans rfl)
set_option maxRecDepth 4000 in
theorem b_215_25 (li : Nat → Int32) (ll : Nat → Int64) (s : u_H) : u g_t215 25 (li, ll, [(0, 67)]) [] s =
  if (li 3) < (s.1 65 48) then
    if (li 3) = (li 1) then
      u_bi (u_c 313 [.inl (Int32.ofInt 0)] s) fun x2 s1 =>
      u g_t215 25 ((u_l1 (u_l1 li 2 ((li 2) ||| (x2 <<< ((li 3) &&& 31)))) 3 ((li 3) + (Int32.ofInt 1))), ll, [(0, 67)]) [] s1
    else
      u_bi (u_c 235 [.inr (.inr 67), .inl (li 3)] s) fun x4 s3 =>
      if x4 = 0 then
        u_bi (u_c 313 [.inl (Int32.ofInt 0)] s3) fun x6 s5 =>
        u g_t215 25 ((u_l1 (u_l1 li 2 ((li 2) ||| (x6 <<< ((li 3) &&& 31)))) 3 ((li 3) + (Int32.ofInt 1))), ll, [(0, 67)]) [] s5
      else
        u_bi (u_c 294 [.inr (.inr 67), .inl (li 1), .inl (li 3)] s3) fun x8 s7 =>
        if x8 < (u_kv 1000000) then
          u_bi (u_c 313 [.inl (Int32.ofInt 1)] s7) fun x10 s9 =>
          u g_t215 25 ((u_l1 (u_l1 li 2 ((li 2) ||| (x10 <<< ((li 3) &&& 31)))) 3 ((li 3) + (Int32.ofInt 1))), ll, [(0, 67)]) [] s9
        else
          u_bi (u_c 313 [.inl (Int32.ofInt 0)] s7) fun x12 s11 =>
          u g_t215 25 ((u_l1 (u_l1 li 2 ((li 2) ||| (x12 <<< ((li 3) &&& 31)))) 3 ((li 3) + (Int32.ofInt 1))), ll, [(0, 67)]) [] s11
  else
    some (some (.inl (li 2)), s) := (u_E (5, 17, 5, 5) [25] 120 g_t215 25 _ _ _).trans rfl
/-! 216 GoodbyeQuayModel.has(II)Z -/
set_option maxRecDepth 4000 in
theorem b_216 (p1 : Int32) (p2 : Int32) (s : u_H) : u_c 216 [.inl p1, .inl p2] s =
  if ((p1 >>> (p2 &&& 31)) &&& (Int32.ofInt 1)) = (Int32.ofInt 1) then
    some (some (.inl (Int32.ofInt 1)), s)
  else
    some (some (.inl (Int32.ofInt 0)), s) := (u_cE (t := g_t216) rfl _ _).trans ((u_E (5, 17, 5, 5) [] 120 g_t216 0 _ _ _).trans rfl)
/-! 217 GoodbyeQuayModel.hasBracket()Z -/
set_option maxRecDepth 4000 in
theorem b_217 (s : u_H) : u_c 217 [.inr (.inr 67)] s =
  u g_t217 4 ((u_l1 (u_l1 u_z1 1 (Int32.ofInt 0)) 2 (Int32.ofInt 0)), u_z2, [(0, 67)]) [] s := (u_cE (t := g_t217) rfl _ _).trans ((u_E (5, 17, 5, 5) [4] 120 g_t217 0 _ _ _).trans rfl)
set_option maxRecDepth 4000 in
theorem b_217_4 (li : Nat → Int32) (ll : Nat → Int64) (s : u_H) : u g_t217 4 (li, ll, [(0, 67)]) [] s =
  if (li 2) < (s.1 65 19) then
    if (li 1) = 0 then
      if u_in (li 2) 160 = true then
        if (s.1 72 ((li 2).toNatClampNeg)) = (Int32.ofInt 20) then
          u g_t217 4 ((u_l1 (u_l1 li 1 (Int32.ofInt 1)) 2 ((li 2) + (Int32.ofInt 1))), ll, [(0, 67)]) [] s
        else
          u g_t217 4 ((u_l1 (u_l1 li 1 (Int32.ofInt 0)) 2 ((li 2) + (Int32.ofInt 1))), ll, [(0, 67)]) [] s
      else
        none
    else
      u g_t217 4 ((u_l1 (u_l1 li 1 (Int32.ofInt 1)) 2 ((li 2) + (Int32.ofInt 1))), ll, [(0, 67)]) [] s
  else
    if q_ib (li 1) = true then some (some (.inl (li 1)), s) else none := (u_E (5, 17, 5, 5) [4] 120 g_t217 4 _ _ _).trans rfl
/-! 218 GoodbyeQuayModel.hasRelation()Z -/
set_option maxRecDepth 4000 in
theorem b_218 (s : u_H) : u_c 218 [.inr (.inr 67)] s =
  u g_t218 7 ((u_l1 u_z1 1 ((s.1 65 19) - (Int32.ofInt 1))), u_z2, [(0, 67)]) [] s := (u_cE (t := g_t218) rfl _ _).trans ((u_E (5, 17, 5, 5) [7, 41] 120 g_t218 0 _ _ _).trans rfl)
set_option maxRecDepth 4000 in
theorem b_218_7 (li : Nat → Int32) (ll : Nat → Int64) (s : u_H) : u g_t218 7 (li, ll, [(0, 67)]) [] s =
  if (li 1) < 0 then
    u g_t218 41 (li, ll, [(0, 67)]) [] s
  else
    if u_in (li 1) 160 = true then
      if (s.1 72 ((li 1).toNatClampNeg)) = (Int32.ofInt 20) then
        u g_t218 41 (li, ll, [(0, 67)]) [] s
      else
        if u_in (li 1) 160 = true then
          u_bi (u_c 308 [.inl (s.1 72 ((li 1).toNatClampNeg))] s) fun x2 s1 =>
          if (Int32.ofInt 4) < x2 then
            u g_t218 7 ((u_l1 li 1 ((li 1) + (u_k (-1)))), ll, [(0, 67)]) [] s1
          else
            u g_t218 41 (li, ll, [(0, 67)]) [] s1
        else
          none
    else
      none := (u_E (5, 17, 5, 5) [7, 41] 120 g_t218 7 _ _ _).trans rfl
set_option maxRecDepth 4000 in
theorem b_218_41 (li : Nat → Int32) (ll : Nat → Int64) (s : u_H) : u g_t218 41 (li, ll, [(0, 67)]) [] s =
  if (li 1) < 0 then
    some (some (.inl (Int32.ofInt 0)), s)
  else
    if u_in (li 1) 160 = true then
      if (s.1 72 ((li 1).toNatClampNeg)) = (Int32.ofInt 20) then
        some (some (.inl (Int32.ofInt 0)), s)
      else
        if u_in (li 1) 160 = true then
          u_bi (u_c 308 [.inl (s.1 72 ((li 1).toNatClampNeg))] s) fun x2 s1 =>
          if x2 = (Int32.ofInt 4) then
            some (some (.inl (Int32.ofInt 1)), s1)
          else
            some (some (.inl (Int32.ofInt 0)), s1)
        else
          none
    else
      none := (u_E (5, 17, 5, 5) [7, 41] 120 g_t218 41 _ _ _).trans rfl
/-! 219 GoodbyeQuayModel.here(I)I -/
set_option maxRecDepth 4000 in
theorem b_219 (p1 : Int32) (s : u_H) : u_c 219 [.inr (.inr 67), .inl p1] s =
  if ((s.1 65 4) + p1) < (s.1 65 5) then
    if u_in ((s.1 65 4) + p1) 1600 = true then
      some (some (.inl (s.1 66 (((s.1 65 4) + p1).toNatClampNeg))), s)
    else
      none
  else
    some (some (.inl (u_k (-1))), s) := (u_cE (t := g_t219) rfl _ _).trans ((u_E (5, 17, 5, 5) [] 120 g_t219 0 _ _ _).trans rfl)
/-! 220 GoodbyeQuayModel.hold(I)I -/
set_option maxRecDepth 4000 in
theorem b_220 (p1 : Int32) (s : u_H) : u_c 220 [.inr (.inr 67), .inl p1] s =
  u_bv (u_c 203 [.inr (.inr 67)] s) fun s1 =>
  u_bi (u_c 236 [.inr (.inr 67), .inl p1] s1) fun x3 s2 =>
  if x3 = 0 then
    some (some (.inl (u_k (-1))), s2)
  else
    u_bi (u_c 229 [.inr (.inr 67), .inl p1] s2) fun x5 s4 =>
    if x5 = 0 then
      u g_t220 26 ((u_l1 (u_l1 (u_l1 u_z1 1 p1) 2 (Int32.ofInt 0)) 3 (Int32.ofInt 0)), u_z2, [(0, 67)]) [] s4
    else
      some (some (.inl (u_k (-1))), s4) := (u_cE (t := g_t220) rfl _ _).trans ((u_E (5, 17, 5, 5) [26, 81] 120 g_t220 0 _ _ _).trans rfl)
set_option maxRecDepth 4000 in
theorem b_220_26 (li : Nat → Int32) (ll : Nat → Int64) (s : u_H) : u g_t220 26 (li, ll, [(0, 67)]) [] s =
  if (li 3) < (s.1 65 48) then
    if u_in (li 3) 8 = true then
      if (s.1 82 ((li 3).toNatClampNeg)) = (li 1) then
        u_bi (u_c 278 [.inr (.inr 67)] s) fun x2 s1 =>
        u_bi (u_c 280 [.inr (.inr 67)] s1) fun x4 s3 =>
        u_bi (u_c 216 [.inl (x2 ||| x4), .inl (li 3)] s3) fun x6 s5 =>
        if x6 = 0 then
          u_bi (u_c 313 [.inl (Int32.ofInt 0)] s5) fun x8 s7 =>
          u g_t220 26 ((u_l1 (u_l1 li 2 ((li 2) ||| (x8 <<< ((li 3) &&& 31)))) 3 ((li 3) + (Int32.ofInt 1))), ll, [(0, 67)]) [] s7
        else
          u_bi (u_c 313 [.inl (Int32.ofInt 1)] s5) fun x10 s9 =>
          u g_t220 26 ((u_l1 (u_l1 li 2 ((li 2) ||| (x10 <<< ((li 3) &&& 31)))) 3 ((li 3) + (Int32.ofInt 1))), ll, [(0, 67)]) [] s9
      else
        u_bi (u_c 313 [.inl (Int32.ofInt 0)] s) fun x12 s11 =>
        u g_t220 26 ((u_l1 (u_l1 li 2 ((li 2) ||| (x12 <<< ((li 3) &&& 31)))) 3 ((li 3) + (Int32.ofInt 1))), ll, [(0, 67)]) [] s11
    else
      none
  else
    u g_t220 81 ((u_l1 li 3 (Int32.ofInt 0)), ll, [(0, 67)]) [] s := (u_E (5, 17, 5, 5) [26, 81] 120 g_t220 26 _ _ _).trans rfl
set_option maxRecDepth 4000 in
theorem b_220_81 (li : Nat → Int32) (ll : Nat → Int64) (s : u_H) : u g_t220 81 (li, ll, [(0, 67)]) [] s =
  if (u_k 240) < (li 3) then
    some (some (.inl (u_k (-1))), s)
  else
    u_bv (u_c 203 [.inr (.inr 67)] s) fun s1 =>
    u_bi (u_c 195 [.inr (.inr 67), .inl (li 2)] ((y_u (y_u s1.1 65 29 (li 1)) 65 30 (li 3)), s1.2)) fun x3 s2 =>
    if x3 = 0 then
      u g_t220 81 ((u_l1 li 3 ((li 3) + (Int32.ofInt 1))), ll, [(0, 67)]) [] s2
    else
      some (some (.inl (li 3)), s2) := (u_E (5, 17, 5, 5) [26, 81] 120 g_t220 81 _ _ _).trans rfl
/-! 221 GoodbyeQuayModel.howMany(I)I -/
set_option maxRecDepth 4000 in
theorem b_221 (p1 : Int32) (s : u_H) : u_c 221 [.inr (.inr 67), .inl p1] s =
  u g_t221 4 ((u_l1 (u_l1 (u_l1 u_z1 1 p1) 2 (Int32.ofInt 0)) 3 (Int32.ofInt 0)), u_z2, [(0, 67)]) [] s := (u_cE (t := g_t221) rfl _ _).trans ((u_E (5, 17, 5, 5) [4] 120 g_t221 0 _ _ _).trans rfl)
set_option maxRecDepth 4000 in
theorem b_221_4 (li : Nat → Int32) (ll : Nat → Int64) (s : u_H) : u g_t221 4 (li, ll, [(0, 67)]) [] s =
  if (li 3) < (s.1 65 48) then
    if u_in ((Int32.ofInt 9) + (li 3)) 28 = true then
      if (s.1 85 (((Int32.ofInt 9) + (li 3)).toNatClampNeg)) = (li 1) then
        u_bi (u_c 313 [.inl (Int32.ofInt 1)] s) fun x2 s1 =>
        u g_t221 4 ((u_l1 (u_l1 li 2 ((li 2) ||| (x2 <<< ((li 3) &&& 31)))) 3 ((li 3) + (Int32.ofInt 1))), ll, [(0, 67)]) [] s1
      else
        u_bi (u_c 313 [.inl (Int32.ofInt 0)] s) fun x4 s3 =>
        u g_t221 4 ((u_l1 (u_l1 li 2 ((li 2) ||| (x4 <<< ((li 3) &&& 31)))) 3 ((li 3) + (Int32.ofInt 1))), ll, [(0, 67)]) [] s3
    else
      none
  else
    some (some (.inl (li 2)), s) := (u_E (5, 17, 5, 5) [4] 120 g_t221 4 _ _ _).trans rfl
/-! 222 GoodbyeQuayModel.image(I)I -/
set_option maxRecDepth 4000 in
theorem b_222 (p1 : Int32) (s : u_H) : u_c 222 [.inr (.inr 67), .inl p1] s =
  u_bi (u_c 224 [.inl p1] s) fun x2 s1 =>
  if x2 = 0 then
    some (some (.inl (u_k (-1))), s1)
  else
    if u_in p1 3 = true then
      u g_t222 18 ((u_l1 (u_l1 u_z1 1 p1) 2 (Int32.ofInt 0)), u_z2, [(0, 67)]) [] ((y_u s1.1 104 (p1.toNatClampNeg) (Int32.ofInt 1)), s1.2)
    else
      none := (u_cE (t := g_t222) rfl _ _).trans ((u_E (5, 17, 5, 5) [18] 120 g_t222 0 _ _ _).trans rfl)
set_option maxRecDepth 4000 in
theorem b_222_18 (li : Nat → Int32) (ll : Nat → Int64) (s : u_H) : u g_t222 18 (li, ll, [(0, 67)]) [] s =
  if (li 2) < (Int32.ofInt 28) then
    if u_in (li 2) 28 = true then
      if u_in (((Int32.ofInt 28) * (li 1)) + (li 2)) 84 = true then
        u g_t222 18 ((u_l1 li 2 ((li 2) + (Int32.ofInt 1))), ll, [(0, 67)]) [] ((y_u s.1 105 ((((Int32.ofInt 28) * (li 1)) + (li 2)).toNatClampNeg) (s.1 85 ((li 2).toNatClampNeg))), s.2)
      else
        none
    else
      none
  else
    some (some (.inl (s.1 85 26)), s) := (u_E (5, 17, 5, 5) [18] 120 g_t222 18 _ _ _).trans rfl
/-! 223 GoodbyeQuayModel.insist(I)I -/
set_option maxRecDepth 4000 in
theorem b_223 (p1 : Int32) (s : u_H) : u_c 223 [.inr (.inr 67), .inl p1] s =
  u_bi (u_c 235 [.inr (.inr 67), .inl p1] s) fun x2 s1 =>
  if x2 = 0 then
    some (some (.inl (u_k (-1))), s1)
  else
    u_bi (u_c 216 [.inl (s1.1 85 17), .inl p1] s1) fun x4 s3 =>
    if x4 = 0 then
      some (some (.inl (u_k (-1))), s3)
    else
      u_bi (u_c 314 [.inr (.inr 67), .inl p1] s3) fun x6 s5 =>
      some (some (.inl x6), s5) := (u_cE (t := g_t223) rfl _ _).trans ((u_E (5, 17, 5, 5) [] 120 g_t223 0 _ _ _).trans rfl)
/-! 224 GoodbyeQuayModel.isBox(I)Z -/
set_option maxRecDepth 4000 in
theorem b_224 (p1 : Int32) (s : u_H) : u_c 224 [.inl p1] s =
  if p1 < 0 then
    some (some (.inl (Int32.ofInt 0)), s)
  else
    if p1 < (Int32.ofInt 3) then
      some (some (.inl (Int32.ofInt 1)), s)
    else
      some (some (.inl (Int32.ofInt 0)), s) := (u_cE (t := g_t224) rfl _ _).trans ((u_E (5, 17, 5, 5) [] 120 g_t224 0 _ _ _).trans rfl)
/-! 225 GoodbyeQuayModel.isDigit(I)Z -/
set_option maxRecDepth 4000 in
theorem b_225 (p1 : Int32) (s : u_H) : u_c 225 [.inl p1] s =
  if p1 < (Int32.ofInt 48) then
    some (some (.inl (Int32.ofInt 0)), s)
  else
    if (Int32.ofInt 57) < p1 then
      some (some (.inl (Int32.ofInt 0)), s)
    else
      some (some (.inl (Int32.ofInt 1)), s) := (u_cE (t := g_t225) rfl _ _).trans ((u_E (5, 17, 5, 5) [] 120 g_t225 0 _ _ _).trans rfl)
/-! 226 GoodbyeQuayModel.isEmpty()Z -/
set_option maxRecDepth 4000 in
theorem b_226 (s : u_H) : u_c 226 [.inr (.inr 67)] s =
  u_bi (u_c 277 [.inr (.inr 67)] s) fun x2 s1 =>
  if x2 = 0 then
    u g_t226 15 ((u_l1 (u_l1 u_z1 1 (Int32.ofInt 1)) 2 (Int32.ofInt 0)), u_z2, [(0, 67)]) [] s1
  else
    u g_t226 15 ((u_l1 (u_l1 u_z1 1 (Int32.ofInt 0)) 2 (Int32.ofInt 0)), u_z2, [(0, 67)]) [] s1 := (u_cE (t := g_t226) rfl _ _).trans ((u_E (5, 17, 5, 5) [15] 120 g_t226 0 _ _ _).trans rfl)
set_option maxRecDepth 4000 in
theorem b_226_15 (li : Nat → Int32) (ll : Nat → Int64) (s : u_H) : u g_t226 15 (li, ll, [(0, 67)]) [] s =
  if (li 2) < (s.1 65 28) then
    if (li 1) = 0 then
      u g_t226 15 ((u_l1 (u_l1 li 1 (Int32.ofInt 0)) 2 ((li 2) + (Int32.ofInt 1))), ll, [(0, 67)]) [] s
    else
      u_bi (u_c 227 [.inr (.inr 67), .inl (li 2)] s) fun x2 s1 =>
      if x2 = 0 then
        u g_t226 15 ((u_l1 (u_l1 li 1 (Int32.ofInt 0)) 2 ((li 2) + (Int32.ofInt 1))), ll, [(0, 67)]) [] s1
      else
        u g_t226 15 ((u_l1 (u_l1 li 1 (Int32.ofInt 1)) 2 ((li 2) + (Int32.ofInt 1))), ll, [(0, 67)]) [] s1
  else
    if q_ib (li 1) = true then some (some (.inl (li 1)), s) else none := (u_E (5, 17, 5, 5) [15] 120 g_t226 15 _ _ _).trans rfl
/-! 227 GoodbyeQuayModel.isFree(I)Z -/
set_option maxRecDepth 4000 in
theorem b_227 (p1 : Int32) (s : u_H) : u_c 227 [.inr (.inr 67), .inl p1] s =
  if u_in ((Int32.ofInt 18) + p1) 28 = true then
    if (s.1 86 (((Int32.ofInt 18) + p1).toNatClampNeg)) < 0 then
      some (some (.inl (Int32.ofInt 1)), s)
    else
      some (some (.inl (Int32.ofInt 0)), s)
  else
    none := (u_cE (t := g_t227) rfl _ _).trans ((u_E (5, 17, 5, 5) [] 120 g_t227 0 _ _ _).trans rfl)
/-! 228 GoodbyeQuayModel.isFull()Z -/
set_option maxRecDepth 4000 in
theorem b_228 (s : u_H) : u_c 228 [.inr (.inr 67)] s =
  if (s.1 65 20) = (Int32.ofInt 60) then
    some (some (.inl (Int32.ofInt 1)), s)
  else
    if (s.1 65 22) = (Int32.ofInt 30) then
      some (some (.inl (Int32.ofInt 1)), s)
    else
      some (some (.inl (Int32.ofInt 0)), s) := (u_cE (t := g_t228) rfl _ _).trans ((u_E (5, 17, 5, 5) [] 120 g_t228 0 _ _ _).trans rfl)
/-! 229 GoodbyeQuayModel.isGone(I)Z -/
set_option maxRecDepth 4000 in
theorem b_229 (p1 : Int32) (s : u_H) : u_c 229 [.inr (.inr 67), .inl p1] s =
  u_bi (u_c 291 [.inr (.inr 67), .inl p1] s) fun x2 s1 =>
  if (s.1 86 26) < x2 then
    some (some (.inl (Int32.ofInt 0)), s1)
  else
    some (some (.inl (Int32.ofInt 1)), s1) := (u_cE (t := g_t229) rfl _ _).trans ((u_E (5, 17, 5, 5) [] 120 g_t229 0 _ _ _).trans rfl)
/-! 230 GoodbyeQuayModel.isIn(III)Z -/
set_option maxRecDepth 4000 in
theorem b_230 (p1 : Int32) (p2 : Int32) (p3 : Int32) (s : u_H) : u_c 230 [.inl p1, .inl p2, .inl p3] s =
  if p1 < p2 then
    some (some (.inl (Int32.ofInt 0)), s)
  else
    if p3 < p1 then
      some (some (.inl (Int32.ofInt 0)), s)
    else
      some (some (.inl (Int32.ofInt 1)), s) := (u_cE (t := g_t230) rfl _ _).trans ((u_E (5, 17, 5, 5) [] 120 g_t230 0 _ _ _).trans rfl)
/-! 231 GoodbyeQuayModel.isLetter(I)Z -/
set_option maxRecDepth 4000 in
theorem b_231 (p1 : Int32) (s : u_H) : u_c 231 [.inl p1] s =
  if p1 < (Int32.ofInt 97) then
    some (some (.inl (Int32.ofInt 0)), s)
  else
    if (Int32.ofInt 122) < p1 then
      some (some (.inl (Int32.ofInt 0)), s)
    else
      some (some (.inl (Int32.ofInt 1)), s) := (u_cE (t := g_t231) rfl _ _).trans ((u_E (5, 17, 5, 5) [] 120 g_t231 0 _ _ _).trans rfl)
/-! 232 GoodbyeQuayModel.isName()Z -/
set_option maxRecDepth 4000 in
theorem b_232 (s : u_H) : u_c 232 [.inr (.inr 67)] s =
  if (s.1 65 6) = (Int32.ofInt 1) then
    u_bi (u_c 233 [.inr (.inr 67)] s) fun x2 s1 =>
    if x2 = 0 then
      some (some (.inl (Int32.ofInt 1)), s1)
    else
      some (some (.inl (Int32.ofInt 0)), s1)
  else
    some (some (.inl (Int32.ofInt 0)), s) := (u_cE (t := g_t232) rfl _ _).trans ((u_E (5, 17, 5, 5) [] 120 g_t232 0 _ _ _).trans rfl)
/-! 233 GoodbyeQuayModel.isOwn()Z -/
set_option maxRecDepth 4000 in
theorem b_233 (s : u_H) : u_c 233 [.inr (.inr 67)] s =
  if (lg_cmp (s.2.1 65 9) (u_k6 1936222576)) = 0 then
    some (some (.inl (Int32.ofInt 1)), s)
  else
    if (lg_cmp (s.2.1 65 9) (u_k6 495555538035)) = 0 then
      some (some (.inl (Int32.ofInt 1)), s)
    else
      if (lg_cmp (s.2.1 65 9) (u_k6 512735409267)) = 0 then
        some (some (.inl (Int32.ofInt 1)), s)
      else
        if (lg_cmp (s.2.1 65 9) (u_k6 1885432178)) = 0 then
          some (some (.inl (Int32.ofInt 1)), s)
        else
          if (lg_cmp (s.2.1 65 9) (u_k6 474147546227)) = 0 then
            some (some (.inl (Int32.ofInt 1)), s)
          else
            if (lg_cmp (s.2.1 65 9) (u_k6 1819244133)) = 0 then
              some (some (.inl (Int32.ofInt 1)), s)
            else
              if (lg_cmp (s.2.1 65 9) (u_k6 109356099333997)) = 0 then
                some (some (.inl (Int32.ofInt 1)), s)
              else
                if (lg_cmp (s.2.1 65 9) (u_k6 491260570739)) = 0 then
                  some (some (.inl (Int32.ofInt 1)), s)
                else
                  if (lg_cmp (s.2.1 65 9) (u_k6 465491424371)) = 0 then
                    some (some (.inl (Int32.ofInt 1)), s)
                  else
                    if (lg_cmp (s.2.1 65 9) (u_k6 8175547842734419059)) = 0 then
                      some (some (.inl (Int32.ofInt 1)), s)
                    else
                      if (lg_cmp (s.2.1 65 9) (u_k6 1685217655)) = 0 then
                        some (some (.inl (Int32.ofInt 1)), s)
                      else
                        if (lg_cmp (s.2.1 65 9) (u_k6 108187682958948)) = 0 then
                          some (some (.inl (Int32.ofInt 1)), s)
                        else
                          if (lg_cmp (s.2.1 65 9) (u_k6 1818584692)) = 0 then
                            some (some (.inl (Int32.ofInt 1)), s)
                          else
                            if (lg_cmp (s.2.1 65 9) (u_k6 120299592184933)) = 0 then
                              some (some (.inl (Int32.ofInt 1)), s)
                            else
                              if (lg_cmp (s.2.1 65 9) (u_k6 6385252)) = 0 then
                                some (some (.inl (Int32.ofInt 1)), s)
                              else
                                if (lg_cmp (s.2.1 65 9) (u_k6 28530)) = 0 then
                                  some (some (.inl (Int32.ofInt 1)), s)
                                else
                                  if (lg_cmp (s.2.1 65 9) (u_k6 7237492)) = 0 then
                                    some (some (.inl (Int32.ofInt 1)), s)
                                  else
                                    some (some (.inl (Int32.ofInt 0)), s) := (u_cE (t := g_t233) rfl _ _).trans ((u_E (5, 17, 5, 5) [] 120 g_t233 0 _ _ _).trans rfl)
/-! 234 GoodbyeQuayModel.isPair(I)Z -/
set_option maxRecDepth 4000 in
theorem b_234 (p1 : Int32) (s : u_H) : u_c 234 [.inr (.inr 67), .inl p1] s =
  u_bi (u_c 230 [.inl p1, .inl (Int32.ofInt 0), .inl ((s.1 65 48) - (Int32.ofInt 1))] s) fun x2 s1 =>
  if q_ib x2 = true then some (some (.inl x2), s1) else none := (u_cE (t := g_t234) rfl _ _).trans ((u_E (5, 17, 5, 5) [] 120 g_t234 0 _ _ _).trans rfl)
/-! 235 GoodbyeQuayModel.isQueued(I)Z -/
set_option maxRecDepth 4000 in
theorem b_235 (p1 : Int32) (s : u_H) : u_c 235 [.inr (.inr 67), .inl p1] s =
  u_bi (u_c 234 [.inr (.inr 67), .inl p1] s) fun x2 s1 =>
  if x2 = 0 then
    some (some (.inl (Int32.ofInt 0)), s1)
  else
    if u_in ((Int32.ofInt 9) + p1) 28 = true then
      if (s1.1 85 (((Int32.ofInt 9) + p1).toNatClampNeg)) = 0 then
        some (some (.inl (Int32.ofInt 1)), s1)
      else
        some (some (.inl (Int32.ofInt 0)), s1)
    else
      none := (u_cE (t := g_t235) rfl _ _).trans ((u_E (5, 17, 5, 5) [] 120 g_t235 0 _ _ _).trans rfl)
/-! 236 GoodbyeQuayModel.isShip(I)Z -/
set_option maxRecDepth 4000 in
theorem b_236 (p1 : Int32) (s : u_H) : u_c 236 [.inr (.inr 67), .inl p1] s =
  u_bi (u_c 230 [.inl p1, .inl (Int32.ofInt 0), .inl ((s.1 65 47) - (Int32.ofInt 1))] s) fun x2 s1 =>
  if q_ib x2 = true then some (some (.inl x2), s1) else none := (u_cE (t := g_t236) rfl _ _).trans ((u_E (5, 17, 5, 5) [] 120 g_t236 0 _ _ _).trans rfl)
/-! 237 GoodbyeQuayModel.isSign(I)Z -/
set_option maxRecDepth 4000 in
theorem b_237 (p1 : Int32) (s : u_H) : u_c 237 [.inl p1] s =
  if p1 = (Int32.ofInt 59) then
    some (some (.inl (Int32.ofInt 1)), s)
  else
    if p1 = (Int32.ofInt 40) then
      some (some (.inl (Int32.ofInt 1)), s)
    else
      if p1 = (Int32.ofInt 41) then
        some (some (.inl (Int32.ofInt 1)), s)
      else
        if p1 = (Int32.ofInt 60) then
          some (some (.inl (Int32.ofInt 1)), s)
        else
          if p1 = (Int32.ofInt 62) then
            some (some (.inl (Int32.ofInt 1)), s)
          else
            if p1 = (Int32.ofInt 61) then
              some (some (.inl (Int32.ofInt 1)), s)
            else
              if p1 = (Int32.ofInt 43) then
                some (some (.inl (Int32.ofInt 1)), s)
              else
                if p1 = (Int32.ofInt 45) then
                  some (some (.inl (Int32.ofInt 1)), s)
                else
                  if p1 = (Int32.ofInt 42) then
                    some (some (.inl (Int32.ofInt 1)), s)
                  else
                    if p1 = (Int32.ofInt 47) then
                      some (some (.inl (Int32.ofInt 1)), s)
                    else
                      if p1 = (Int32.ofInt 37) then
                        some (some (.inl (Int32.ofInt 1)), s)
                      else
                        some (some (.inl (Int32.ofInt 0)), s) := (u_cE (t := g_t237) rfl _ _).trans ((u_E (5, 17, 5, 5) [] 120 g_t237 0 _ _ _).trans rfl)
/-! 238 GoodbyeQuayModel.isWord(J)Z -/
set_option maxRecDepth 4000 in
theorem b_238 (l1 : Int64) (s : u_H) : u_c 238 [.inr (.inr 67), .inr (.inl l1)] s =
  if (s.1 65 6) = (Int32.ofInt 1) then
    if (lg_cmp (s.2.1 65 9) l1) = 0 then
      some (some (.inl (Int32.ofInt 1)), s)
    else
      some (some (.inl (Int32.ofInt 0)), s)
  else
    some (some (.inl (Int32.ofInt 0)), s) := (u_cE (t := g_t238) rfl _ _).trans ((u_E (5, 17, 5, 5) [] 120 g_t238 0 _ _ _).trans rfl)
/-! 239 GoodbyeQuayModel.join(I)I -/
set_option maxRecDepth 4000 in
theorem b_239 (p1 : Int32) (s : u_H) : u_c 239 [.inr (.inr 67), .inl p1] s =
  u_bv (u_c 203 [.inr (.inr 67)] s) fun s1 =>
  u_bi (u_c 234 [.inr (.inr 67), .inl p1] s1) fun x3 s2 =>
  if x3 = 0 then
    some (some (.inl (u_k (-1))), s2)
  else
    if u_in ((Int32.ofInt 9) + p1) 28 = true then
      if (s2.1 85 (((Int32.ofInt 9) + p1).toNatClampNeg)) = (Int32.ofInt 4) then
        u g_t239 38 ((u_l1 u_z1 1 p1), u_z2, [(0, 67)]) [] s2
      else
        if u_in ((Int32.ofInt 9) + p1) 28 = true then
          if (s2.1 85 (((Int32.ofInt 9) + p1).toNatClampNeg)) = (Int32.ofInt 3) then
            u g_t239 38 ((u_l1 u_z1 1 p1), u_z2, [(0, 67)]) [] s2
          else
            some (some (.inl (u_k (-1))), s2)
        else
          none
    else
      none := (u_cE (t := g_t239) rfl _ _).trans ((u_E (5, 17, 5, 5) [38] 120 g_t239 0 _ _ _).trans rfl)
set_option maxRecDepth 4000 in
theorem b_239_38 (li : Nat → Int32) (ll : Nat → Int64) (s : u_H) : u g_t239 38 (li, ll, [(0, 67)]) [] s =
  if u_in (li 1) 8 = true then
    u_bi (u_c 229 [.inr (.inr 67), .inl (s.1 82 ((li 1).toNatClampNeg))] s) fun x2 s1 =>
    if x2 = 0 then
      u_bv (u_c 175 [.inr (.inr 67)] s1) fun s3 =>
      u_bv (u_c 274 [.inr (.inr 67), .inl (li 1)] s3) fun s4 =>
      u_bv (u_c 240 [.inr (.inr 67)] s4) fun s5 =>
      some (some (.inl ((s5.1 85 8) - (Int32.ofInt 1))), s5)
    else
      some (some (.inl (u_k (-1))), s1)
  else
    none := (u_E (5, 17, 5, 5) [38] 120 g_t239 38 _ _ _).trans rfl
/-! 240 GoodbyeQuayModel.keepAir()V -/
set_option maxRecDepth 4000 in
theorem b_240 (s : u_H) : u_c 240 [.inr (.inr 67)] s =
  u g_t240 2 ((u_l1 u_z1 1 (Int32.ofInt 0)), u_z2, [(0, 67)]) [] s := (u_cE (t := g_t240) rfl _ _).trans ((u_E (5, 17, 5, 5) [2] 120 g_t240 0 _ _ _).trans rfl)
set_option maxRecDepth 4000 in
theorem b_240_2 (li : Nat → Int32) (ll : Nat → Int64) (s : u_H) : u g_t240 2 (li, ll, [(0, 67)]) [] s =
  if (li 1) < (Int32.ofInt 28) then
    if u_in (li 1) 28 = true then
      if u_in (li 1) 28 = true then
        u g_t240 2 ((u_l1 li 1 ((li 1) + (Int32.ofInt 1))), ll, [(0, 67)]) [] ((y_u s.1 85 ((li 1).toNatClampNeg) (s.1 86 ((li 1).toNatClampNeg))), s.2)
      else
        none
    else
      none
  else
    some (none, s) := (u_E (5, 17, 5, 5) [2] 120 g_t240 2 _ _ _).trans rfl
/-! 241 GoodbyeQuayModel.last(II)I -/
set_option maxRecDepth 4000 in
theorem b_241 (p1 : Int32) (p2 : Int32) (s : u_H) : u_c 241 [.inr (.inr 67), .inl p1, .inl p2] s =
  u_bi (u_c 236 [.inr (.inr 67), .inl p1] s) fun x2 s1 =>
  if x2 = 0 then
    some (some (.inl (u_k (-1))), s1)
  else
    u_bi (u_c 230 [.inl p2, .inl (Int32.ofInt 1), .inl (Int32.ofInt 30)] s1) fun x4 s3 =>
    if x4 = 0 then
      some (some (.inl (u_k (-1))), s3)
    else
      u g_t241 48 ((u_l1 (u_l1 (u_l1 u_z1 1 p1) 2 p2) 3 (u_k 240)), u_z2, [(0, 67)]) [] ((y_u (y_u (y_u s3.1 82 7 p1) 83 7 p2) 84 7 (Int32.ofInt 1)), s3.2) := (u_cE (t := g_t241) rfl _ _).trans ((u_E (5, 17, 5, 5) [48, 59] 120 g_t241 0 _ _ _).trans rfl)
set_option maxRecDepth 4000 in
theorem b_241_48 (li : Nat → Int32) (ll : Nat → Int64) (s : u_H) : u g_t241 48 (li, ll, [(0, 67)]) [] s =
  if (li 3) < 0 then
    some (some (.inl (u_k (-1))), s)
  else
    u_bv (u_c 203 [.inr (.inr 67)] s) fun s1 =>
    u g_t241 59 ((u_l1 li 4 (Int32.ofInt 0)), ll, [(0, 67)]) [] s1 := (u_E (5, 17, 5, 5) [48, 59] 120 g_t241 48 _ _ _).trans rfl
set_option maxRecDepth 4000 in
theorem b_241_59 (li : Nat → Int32) (ll : Nat → Int64) (s : u_H) : u g_t241 59 (li, ll, [(0, 67)]) [] s =
  if (li 4) < (li 3) then
    u_bi (u_c 212 [.inr (.inr 67), .inl (Int32.ofInt 0)] s) fun x2 s1 =>
    u g_t241 59 ((u_l1 li 4 ((li 4) + (Int32.ofInt 1))), ll, [(0, 67)]) [] s1
  else
    u_bi (u_c 229 [.inr (.inr 67), .inl (li 1)] s) fun x4 s3 =>
    if x4 = 0 then
      u_bv (u_c 274 [.inr (.inr 67), .inl (Int32.ofInt 7)] s3) fun s5 =>
      u_bv (u_c 213 [.inr (.inr 67)] s5) fun s6 =>
      if (s6.1 86 16) = (Int32.ofInt 2) then
        some (some (.inl (li 3)), s6)
      else
        u g_t241 48 ((u_l1 li 3 ((li 3) + (u_k (-1)))), ll, [(0, 67)]) [] s6
    else
      u g_t241 48 ((u_l1 li 3 ((li 3) + (u_k (-1)))), ll, [(0, 67)]) [] s3 := (u_E (5, 17, 5, 5) [48, 59] 120 g_t241 59 _ _ _).trans rfl
/-! 242 GoodbyeQuayModel.later(I)I -/
set_option maxRecDepth 4000 in
theorem b_242 (p1 : Int32) (s : u_H) : u_c 242 [.inr (.inr 67), .inl p1] s =
  if p1 < 0 then
    some (some (.inl (u_k (-1))), s)
  else
    if (u_k 1000) < p1 then
      some (some (.inl (u_k (-1))), s)
    else
      if (u_kv 100000) < ((s.1 65 79) + p1) then
        some (some (.inl (u_k (-1))), s)
      else
        some (some (.inl ((s.1 65 79) + p1)), ((y_u s.1 65 79 ((s.1 65 79) + p1)), s.2)) := (u_cE (t := g_t242) rfl _ _).trans ((u_E (5, 17, 5, 5) [] 120 g_t242 0 _ _ _).trans rfl)
/-! 243 GoodbyeQuayModel.law(I)I -/
set_option maxRecDepth 4000 in
theorem b_243 (p1 : Int32) (s : u_H) : u_c 243 [.inr (.inr 67), .inl p1] s =
  u_bi (u_c 230 [.inl p1, .inl (Int32.ofInt 1), .inl (Int32.ofInt 60)] s) fun x2 s1 =>
  if x2 = 0 then
    some (some (.inl (u_k (-1))), s1)
  else
    u_bv (u_c 203 [.inr (.inr 67)] s1) fun s3 =>
    u_bi (u_c 189 [.inr (.inr 67)] ((y_u s3.1 65 27 p1), s3.2)) fun x5 s4 =>
    some (some (.inl x5), s4) := (u_cE (t := g_t243) rfl _ _).trans ((u_E (5, 17, 5, 5) [] 120 g_t243 0 _ _ _).trans rfl)
/-! 244 GoodbyeQuayModel.layFits(I)I -/
set_option maxRecDepth 4000 in
theorem b_244 (p1 : Int32) (s : u_H) : u_c 244 [.inr (.inr 67), .inl p1] s =
  if (s.1 65 48) = 0 then
    some (some (.inl (Int32.ofInt 0)), s)
  else
    if u_in ((s.1 65 48) - (Int32.ofInt 1)) 8 = true then
      u g_t244 26 ((u_l1 (u_l1 (u_l1 (u_l1 u_z1 1 p1) 2 (Int32.ofInt 0)) 3 (s.1 83 (((s.1 65 48) - (Int32.ofInt 1)).toNatClampNeg))) 4 (Int32.ofInt 1)), u_z2, [(0, 67)]) [] s
    else
      none := (u_cE (t := g_t244) rfl _ _).trans ((u_E (5, 17, 5, 5) [26, 53] 120 g_t244 0 _ _ _).trans rfl)
set_option maxRecDepth 4000 in
theorem b_244_26 (li : Nat → Int32) (ll : Nat → Int64) (s : u_H) : u g_t244 26 (li, ll, [(0, 67)]) [] s =
  if (Int32.ofInt 30) < (li 4) then
    if u_in ((s.1 65 48) - (Int32.ofInt 1)) 8 = true then
      some (some (.inl (li 2)), ((y_u s.1 83 (((s.1 65 48) - (Int32.ofInt 1)).toNatClampNeg) (li 3)), s.2))
    else
      none
  else
    if u_in ((s.1 65 48) - (Int32.ofInt 1)) 8 = true then
      u_bv (u_c 245 [.inr (.inr 67)] ((y_u s.1 83 (((s.1 65 48) - (Int32.ofInt 1)).toNatClampNeg) (li 4)), s.2)) fun s1 =>
      u g_t244 53 ((u_l1 li 5 (Int32.ofInt 0)), ll, [(0, 67)]) [] s1
    else
      none := (u_E (5, 17, 5, 5) [26, 53] 120 g_t244 26 _ _ _).trans rfl
set_option maxRecDepth 4000 in
theorem b_244_53 (li : Nat → Int32) (ll : Nat → Int64) (s : u_H) : u g_t244 53 (li, ll, [(0, 67)]) [] s =
  if (Int32.ofInt 60) < (li 5) then
    u_bi (u_c 206 [.inr (.inr 67), .inl (li 4), .inl (li 1)] s) fun x2 s1 =>
    if u_in (li 4) 31 = true then
      if q_ib x2 = true then
        if u_in (li 4) 31 = true then
          u_bi (u_c 313 [.inl ((y_u s1.1 103 ((li 4).toNatClampNeg) x2) 103 ((li 4).toNatClampNeg))] ((y_u s1.1 103 ((li 4).toNatClampNeg) x2), s1.2)) fun x4 s3 =>
          u g_t244 26 ((u_l1 (u_l1 li 2 ((li 2) + x4)) 4 ((li 4) + (Int32.ofInt 1))), ll, [(0, 67)]) [] s3
        else
          none
      else
        none
    else
      none
  else
    u_bi (u_c 277 [.inr (.inr 67)] s) fun x6 s5 =>
    if u_in (((Int32.ofInt 61) * (li 4)) + (li 5)) 1891 = true then
      u_bi (u_c 226 [.inr (.inr 67)] ((y_u s5.1 101 ((((Int32.ofInt 61) * (li 4)) + (li 5)).toNatClampNeg) ((s.1 65 48) - x6)), s5.2)) fun x8 s7 =>
      if x8 = 0 then
        u_bi (u_c 212 [.inr (.inr 67), .inl (Int32.ofInt 0)] s7) fun x10 s9 =>
        u g_t244 53 ((u_l1 li 5 ((li 5) + (Int32.ofInt 1))), ll, [(0, 67)]) [] s9
      else
        u g_t244 53 ((u_l1 li 5 ((li 5) + (Int32.ofInt 1))), ll, [(0, 67)]) [] s7
    else
      none := (u_E (5, 17, 5, 5) [26, 53] 120 g_t244 53 _ _ _).trans rfl
/-! 245 GoodbyeQuayModel.layTold()V -/
set_option maxRecDepth 4000 in
theorem b_245 (s : u_H) : u_c 245 [.inr (.inr 67)] s =
  u g_t245 2 ((u_l1 u_z1 1 (Int32.ofInt 0)), u_z2, [(0, 67)]) [] s := (u_cE (t := g_t245) rfl _ _).trans ((u_E (5, 17, 5, 5) [2, 23, 46] 120 g_t245 0 _ _ _).trans rfl)
set_option maxRecDepth 4000 in
theorem b_245_2 (li : Nat → Int32) (ll : Nat → Int64) (s : u_H) : u g_t245 2 (li, ll, [(0, 67)]) [] s =
  if (li 1) < (Int32.ofInt 28) then
    if u_in (li 1) 28 = true then
      u g_t245 2 ((u_l1 li 1 ((li 1) + (Int32.ofInt 1))), ll, [(0, 67)]) [] ((y_u s.1 86 ((li 1).toNatClampNeg) (Int32.ofInt 0)), s.2)
    else
      none
  else
    u g_t245 23 ((u_l1 li 1 (Int32.ofInt 0)), ll, [(0, 67)]) [] s := (u_E (5, 17, 5, 5) [2, 23, 46] 120 g_t245 2 _ _ _).trans rfl
set_option maxRecDepth 4000 in
theorem b_245_23 (li : Nat → Int32) (ll : Nat → Int64) (s : u_H) : u g_t245 23 (li, ll, [(0, 67)]) [] s =
  if (li 1) < (s.1 65 48) then
    if u_in (li 1) 28 = true then
      u g_t245 23 ((u_l1 li 1 ((li 1) + (Int32.ofInt 1))), ll, [(0, 67)]) [] ((y_u s.1 86 ((li 1).toNatClampNeg) (li 1)), s.2)
    else
      none
  else
    u g_t245 46 ((u_l1 li 1 (Int32.ofInt 0)), ll, [(0, 67)]) [] s := (u_E (5, 17, 5, 5) [2, 23, 46] 120 g_t245 23 _ _ _).trans rfl
set_option maxRecDepth 4000 in
theorem b_245_46 (li : Nat → Int32) (ll : Nat → Int64) (s : u_H) : u g_t245 46 (li, ll, [(0, 67)]) [] s =
  if (li 1) < (Int32.ofInt 3) then
    if u_in ((Int32.ofInt 18) + (li 1)) 28 = true then
      u g_t245 46 ((u_l1 li 1 ((li 1) + (Int32.ofInt 1))), ll, [(0, 67)]) [] ((y_u s.1 86 (((Int32.ofInt 18) + (li 1)).toNatClampNeg) (u_k (-1))), s.2)
    else
      none
  else
    u_bv (u_c 177 [.inr (.inr 67)] ((y_u (y_u s.1 86 8 (s.1 65 48)) 86 27 (s.1 65 52)), s.2)) fun s1 =>
    some (none, s1) := (u_E (5, 17, 5, 5) [2, 23, 46] 120 g_t245 46 _ _ _).trans rfl
/-! 246 GoodbyeQuayModel.leavesOnly(I)V -/
set_option maxRecDepth 4000 in
theorem b_246 (p1 : Int32) (s : u_H) : u_c 246 [.inr (.inr 67), .inl p1] s =
  u g_t246 2 ((u_l1 (u_l1 u_z1 1 p1) 2 (Int32.ofInt 0)), u_z2, [(0, 67)]) [] s := (u_cE (t := g_t246) rfl _ _).trans ((u_E (5, 17, 5, 5) [2] 120 g_t246 0 _ _ _).trans rfl)
set_option maxRecDepth 4000 in
theorem b_246_2 (li : Nat → Int32) (ll : Nat → Int64) (s : u_H) : u g_t246 2 (li, ll, [(0, 67)]) [] s =
  if (li 2) < (s.1 65 48) then
    u_bi (u_c 235 [.inr (.inr 67), .inl (li 2)] s) fun x2 s1 =>
    if x2 = 0 then
      u g_t246 2 ((u_l1 li 2 ((li 2) + (Int32.ofInt 1))), ll, [(0, 67)]) [] s1
    else
      u_bi (u_c 216 [.inl (li 1), .inl (li 2)] s1) fun x4 s3 =>
      if x4 = 0 then
        u_bi (u_c 272 [.inr (.inr 67), .inl (li 2)] s3) fun x6 s5 =>
        u_bi (u_c 307 [.inr (.inr 67), .inl x6] s5) fun x8 s7 =>
        if u_in ((Int32.ofInt 9) + x8) 28 = true then
          u g_t246 2 ((u_l1 li 2 ((li 2) + (Int32.ofInt 1))), ll, [(0, 67)]) [] ((y_u s7.1 86 (((Int32.ofInt 9) + x8).toNatClampNeg) (Int32.ofInt 4)), s7.2)
        else
          none
      else
        u g_t246 2 ((u_l1 li 2 ((li 2) + (Int32.ofInt 1))), ll, [(0, 67)]) [] s3
  else
    some (none, s) := (u_E (5, 17, 5, 5) [2] 120 g_t246 2 _ _ _).trans rfl
/-! 247 GoodbyeQuayModel.leftBy(I)I -/
set_option maxRecDepth 4000 in
theorem b_247 (p1 : Int32) (s : u_H) : u_c 247 [.inr (.inr 67), .inl p1] s =
  u g_t247 2 ((u_l1 (u_l1 u_z1 1 p1) 2 (Int32.ofInt 0)), u_z2, [(0, 67)]) [] s := (u_cE (t := g_t247) rfl _ _).trans ((u_E (5, 17, 5, 5) [2, 25] 120 g_t247 0 _ _ _).trans rfl)
set_option maxRecDepth 4000 in
theorem b_247_2 (li : Nat → Int32) (ll : Nat → Int64) (s : u_H) : u g_t247 2 (li, ll, [(0, 67)]) [] s =
  if (Int32.ofInt 7) < (li 2) then
    u g_t247 25 ((u_l1 (u_l1 li 2 (Int32.ofInt 0)) 3 (Int32.ofInt 1)), ll, [(0, 67)]) [] s
  else
    if u_in (li 2) 8 = true then
      u g_t247 2 ((u_l1 li 2 ((li 2) + (Int32.ofInt 1))), ll, [(0, 67)]) [] ((y_u s.1 102 ((li 2).toNatClampNeg) (Int32.ofInt 0)), s.2)
    else
      none := (u_E (5, 17, 5, 5) [2, 25] 120 g_t247 2 _ _ _).trans rfl
set_option maxRecDepth 4000 in
theorem b_247_25 (li : Nat → Int32) (ll : Nat → Int64) (s : u_H) : u g_t247 25 (li, ll, [(0, 67)]) [] s =
  if (Int32.ofInt 30) < (li 3) then
    some (some (.inl (li 2)), s)
  else
    if u_in (li 3) 31 = true then
      if (s.1 103 ((li 3).toNatClampNeg)) = 0 then
        u g_t247 25 ((u_l1 li 3 ((li 3) + (Int32.ofInt 1))), ll, [(0, 67)]) [] s
      else
        if u_in (((Int32.ofInt 61) * (li 3)) + (li 1)) 1891 = true then
          if u_in (s.1 101 ((((Int32.ofInt 61) * (li 3)) + (li 1)).toNatClampNeg)) 8 = true then
            if u_in (s.1 101 ((((Int32.ofInt 61) * (li 3)) + (li 1)).toNatClampNeg)) 8 = true then
              if u_in (s.1 101 ((((Int32.ofInt 61) * (li 3)) + (li 1)).toNatClampNeg)) 8 = true then
                u_bi (u_c 214 [.inl (li 2), .inl ((y_u s.1 102 ((s.1 101 ((((Int32.ofInt 61) * (li 3)) + (li 1)).toNatClampNeg)).toNatClampNeg) ((s.1 102 ((s.1 101 ((((Int32.ofInt 61) * (li 3)) + (li 1)).toNatClampNeg)).toNatClampNeg)) + (Int32.ofInt 1))) 102 ((s.1 101 ((((Int32.ofInt 61) * (li 3)) + (li 1)).toNatClampNeg)).toNatClampNeg))] ((y_u s.1 102 ((s.1 101 ((((Int32.ofInt 61) * (li 3)) + (li 1)).toNatClampNeg)).toNatClampNeg) ((s.1 102 ((s.1 101 ((((Int32.ofInt 61) * (li 3)) + (li 1)).toNatClampNeg)).toNatClampNeg)) + (Int32.ofInt 1))), s.2)) fun x2 s1 =>
                u g_t247 25 ((u_l1 (u_l1 (u_l1 li 4 (s.1 101 ((((Int32.ofInt 61) * (li 3)) + (li 1)).toNatClampNeg))) 2 x2) 3 ((li 3) + (Int32.ofInt 1))), ll, [(0, 67)]) [] s1
              else
                none
            else
              none
          else
            none
        else
          none
    else
      none := (u_E (5, 17, 5, 5) [2, 25] 120 g_t247 25 _ _ _).trans rfl
/-! 248 GoodbyeQuayModel.length(I)I -/
set_option maxRecDepth 4000 in
theorem b_248 (p1 : Int32) (s : u_H) : u_c 248 [.inr (.inr 67), .inl p1] s =
  u_bi (u_c 235 [.inr (.inr 67), .inl p1] s) fun x2 s1 =>
  if x2 = 0 then
    some (some (.inl (u_k (-1))), s1)
  else
    u_bi (u_c 249 [.inr (.inr 67), .inl p1] s1) fun x4 s3 =>
    some (some (.inl x4), s3) := (u_cE (t := g_t248) rfl _ _).trans ((u_E (5, 17, 5, 5) [] 120 g_t248 0 _ _ _).trans rfl)
/-! 249 GoodbyeQuayModel.lengthNow(I)I -/
set_option maxRecDepth 4000 in
theorem b_249 (p1 : Int32) (s : u_H) : u_c 249 [.inr (.inr 67), .inl p1] s =
  u_bv (u_c 203 [.inr (.inr 67)] s) fun s1 =>
  u_bi (u_c 277 [.inr (.inr 67)] s1) fun x3 s2 =>
  u_bi (u_c 272 [.inr (.inr 67), .inl p1] s2) fun x5 s4 =>
  u_bi (u_c 250 [.inr (.inr 67), .inl p1, .inl ((x3 - (Int32.ofInt 1)) - x5)] s4) fun x7 s6 =>
  some (some (.inl x7), s6) := (u_cE (t := g_t249) rfl _ _).trans ((u_E (5, 17, 5, 5) [] 120 g_t249 0 _ _ _).trans rfl)
/-! 250 GoodbyeQuayModel.lengthOf(II)I -/
set_option maxRecDepth 4000 in
theorem b_250 (p1 : Int32) (p2 : Int32) (s : u_H) : u_c 250 [.inr (.inr 67), .inl p1, .inl p2] s =
  if u_in p1 8 = true then
    if u_in p1 8 = true then
      if u_in p1 8 = true then
        u_bi (u_c 291 [.inr (.inr 67), .inl (s.1 82 (p1.toNatClampNeg))] ((y_u (y_u (y_u (y_u s.1 74 0 (s.1 83 (p1.toNatClampNeg))) 74 1 (s.1 84 (p1.toNatClampNeg))) 74 2 (s.1 65 27)) 74 3 p2), s.2)) fun x2 s1 =>
        if u_in p1 8 = true then
          u_bi (u_c 251 [.inl (s1.1 83 (p1.toNatClampNeg)), .inl (s1.1 65 27)] ((y_u (y_u s1.1 74 4 (x2 - (s1.1 86 26))) 74 5 (s1.1 86 26)), s1.2)) fun x4 s3 =>
          u g_t250 98 ((u_l1 (u_l1 (u_l1 (u_l1 (u_l1 u_z1 1 p1) 2 p2) 3 x4) 4 (Int32.ofInt 0)) 5 (Int32.ofInt 0)), u_z2, [(0, 67)]) [] s3
        else
          none
      else
        none
    else
      none
  else
    none := (u_cE (t := g_t250) rfl _ _).trans ((u_E (5, 17, 5, 5) [98, 128, 274] 120 g_t250 0 _ _ _).trans rfl)
set_option maxRecDepth 4000 in
theorem b_250_98 (li : Nat → Int32) (ll : Nat → Int64) (s : u_H) : u g_t250 98 (li, ll, [(0, 67)]) [] s =
  if (li 5) < (s.1 65 18) then
    if u_in (li 5) 320 = true then
      if (s.1 70 ((li 5).toNatClampNeg)) = 0 then
        u g_t250 128 (li, ll, [(0, 67)]) [] s
      else
        if u_in (li 5) 320 = true then
          if (s.1 70 ((li 5).toNatClampNeg)) = (Int32.ofInt 1) then
            u g_t250 128 (li, ll, [(0, 67)]) [] s
          else
            if u_in (li 5) 320 = true then
              if (s.1 70 ((li 5).toNatClampNeg)) = (Int32.ofInt 2) then
                if u_in ((li 4) - (Int32.ofInt 1)) 64 = true then
                  if (s.1 73 (((li 4) - (Int32.ofInt 1)).toNatClampNeg)) = 0 then
                    u_bi (u_c 313 [.inl (Int32.ofInt 1)] s) fun x2 s1 =>
                    if u_in ((li 4) - (Int32.ofInt 1)) 64 = true then
                      u g_t250 98 ((u_l1 li 5 ((li 5) + (Int32.ofInt 1))), ll, [(0, 67)]) [] ((y_u s1.1 73 (((li 4) - (Int32.ofInt 1)).toNatClampNeg) x2), s1.2)
                    else
                      none
                  else
                    u_bi (u_c 313 [.inl (Int32.ofInt 0)] s) fun x4 s3 =>
                    if u_in ((li 4) - (Int32.ofInt 1)) 64 = true then
                      u g_t250 98 ((u_l1 li 5 ((li 5) + (Int32.ofInt 1))), ll, [(0, 67)]) [] ((y_u s3.1 73 (((li 4) - (Int32.ofInt 1)).toNatClampNeg) x4), s3.2)
                    else
                      none
                else
                  none
              else
                if u_in (li 5) 320 = true then
                  if u_in (((li 4) + (u_k (-1))) - (Int32.ofInt 1)) 64 = true then
                    if u_in ((li 4) + (u_k (-1))) 64 = true then
                      u_bi (u_c 196 [.inl (s.1 71 ((li 5).toNatClampNeg)), .inl (s.1 73 ((((li 4) + (u_k (-1))) - (Int32.ofInt 1)).toNatClampNeg)), .inl (s.1 73 (((li 4) + (u_k (-1))).toNatClampNeg))] s) fun x6 s5 =>
                      if u_in (((li 4) + (u_k (-1))) - (Int32.ofInt 1)) 64 = true then
                        u g_t250 98 ((u_l1 (u_l1 li 4 ((li 4) + (u_k (-1)))) 5 ((li 5) + (Int32.ofInt 1))), ll, [(0, 67)]) [] ((y_u s5.1 73 ((((li 4) + (u_k (-1))) - (Int32.ofInt 1)).toNatClampNeg) x6), s5.2)
                      else
                        none
                    else
                      none
                  else
                    none
                else
                  none
            else
              none
        else
          none
    else
      none
  else
    if (s.1 65 25) = 0 then
      u g_t250 274 (li, ll, [(0, 67)]) [] s
    else
      u g_t250 274 ((u_l1 li 3 (s.1 73 0)), ll, [(0, 67)]) [] s := (u_E (5, 17, 5, 5) [98, 128, 274] 120 g_t250 98 _ _ _).trans rfl
set_option maxRecDepth 4000 in
theorem b_250_128 (li : Nat → Int32) (ll : Nat → Int64) (s : u_H) : u g_t250 128 (li, ll, [(0, 67)]) [] s =
  if u_in (li 5) 320 = true then
    if (s.1 70 ((li 5).toNatClampNeg)) = 0 then
      if u_in (li 5) 320 = true then
        if u_in (li 4) 64 = true then
          u g_t250 98 ((u_l1 (u_l1 li 4 ((li 4) + (Int32.ofInt 1))) 5 ((li 5) + (Int32.ofInt 1))), ll, [(0, 67)]) [] ((y_u s.1 73 ((li 4).toNatClampNeg) (s.1 71 ((li 5).toNatClampNeg))), s.2)
        else
          none
      else
        none
    else
      if u_in (li 5) 320 = true then
        if u_in (s.1 71 ((li 5).toNatClampNeg)) 6 = true then
          if u_in (li 4) 64 = true then
            u g_t250 98 ((u_l1 (u_l1 li 4 ((li 4) + (Int32.ofInt 1))) 5 ((li 5) + (Int32.ofInt 1))), ll, [(0, 67)]) [] ((y_u s.1 73 ((li 4).toNatClampNeg) (s.1 74 ((s.1 71 ((li 5).toNatClampNeg)).toNatClampNeg))), s.2)
          else
            none
        else
          none
      else
        none
  else
    none := (u_E (5, 17, 5, 5) [98, 128, 274] 120 g_t250 128 _ _ _).trans rfl
set_option maxRecDepth 4000 in
theorem b_250_274 (li : Nat → Int32) (ll : Nat → Int64) (s : u_H) : u g_t250 274 (li, ll, [(0, 67)]) [] s =
  u_bi (u_c 323 [.inl (li 3), .inl (Int32.ofInt 1), .inl (Int32.ofInt 60)] s) fun x2 s1 =>
  u_bi (u_c 216 [.inl (s1.1 86 17), .inl (li 1)] s1) fun x4 s3 =>
  if x4 = 0 then
    some (some (.inl x2), s3)
  else
    u_bi (u_c 214 [.inl (Int32.ofInt 1), .inl (x2 / (Int32.ofInt 2))] s3) fun x6 s5 =>
    some (some (.inl x6), s5) := (u_E (5, 17, 5, 5) [98, 128, 274] 120 g_t250 274 _ _ _).trans rfl
/-! 251 GoodbyeQuayModel.lesser(II)I -/
set_option maxRecDepth 4000 in
theorem b_251 (p1 : Int32) (p2 : Int32) (s : u_H) : u_c 251 [.inl p1, .inl p2] s =
  if p1 < p2 then
    some (some (.inl p1), s)
  else
    some (some (.inl p2), s) := (u_cE (t := g_t251) rfl _ _).trans ((u_E (5, 17, 5, 5) [] 120 g_t251 0 _ _ _).trans rfl)
/-! 252 GoodbyeQuayModel.lets(I)I -/
set_option maxRecDepth 4000 in
theorem b_252 (p1 : Int32) (s : u_H) : u_c 252 [.inr (.inr 67), .inl p1] s =
  u_bi (u_c 230 [.inl p1, .inl (Int32.ofInt 0), .inl (Int32.ofInt 60)] s) fun x2 s1 =>
  if x2 = 0 then
    some (some (.inl (u_k (-1))), s1)
  else
    u_bi (u_c 289 [.inr (.inr 67), .inl p1] s1) fun x4 s3 =>
    some (some (.inl x4), s3) := (u_cE (t := g_t252) rfl _ _).trans ((u_E (5, 17, 5, 5) [] 120 g_t252 0 _ _ _).trans rfl)
/-! 253 GoodbyeQuayModel.lies(I)I -/
set_option maxRecDepth 4000 in
theorem b_253 (p1 : Int32) (s : u_H) : u_c 253 [.inr (.inr 67), .inl p1] s =
  u_bi (u_c 230 [.inl p1, .inl (Int32.ofInt 0), .inl ((s.1 65 70) - (Int32.ofInt 1))] s) fun x2 s1 =>
  if x2 = 0 then
    some (some (.inl (u_k (-2))), s1)
  else
    if u_in p1 7 = true then
      some (some (.inl (s1.1 92 (p1.toNatClampNeg))), s1)
    else
      none := (u_cE (t := g_t253) rfl _ _).trans ((u_E (5, 17, 5, 5) [] 120 g_t253 0 _ _ _).trans rfl)
/-! 254 GoodbyeQuayModel.litter()I -/
set_option maxRecDepth 4000 in
theorem b_254 (s : u_H) : u_c 254 [.inr (.inr 67)] s =
  u_bv (u_c 203 [.inr (.inr 67)] s) fun s1 =>
  u_bv (u_c 213 [.inr (.inr 67)] s1) fun s2 =>
  some (some (.inl (s2.1 86 25)), s2) := (u_cE (t := g_t254) rfl _ _).trans ((u_E (5, 17, 5, 5) [] 120 g_t254 0 _ _ _).trans rfl)
/-! 255 GoodbyeQuayModel.love()I -/
set_option maxRecDepth 4000 in
theorem b_255 (s : u_H) : u_c 255 [.inr (.inr 67)] s =
  u_bv (u_c 203 [.inr (.inr 67)] s) fun s1 =>
  u_bi (u_c 256 [.inr (.inr 67)] s1) fun x3 s2 =>
  some (some (.inl x3), s2) := (u_cE (t := g_t255) rfl _ _).trans ((u_E (5, 17, 5, 5) [] 120 g_t255 0 _ _ _).trans rfl)
/-! 256 GoodbyeQuayModel.loveHere()I -/
set_option maxRecDepth 4000 in
theorem b_256 (s : u_H) : u_c 256 [.inr (.inr 67)] s =
  u_bv (u_c 213 [.inr (.inr 67)] s) fun s1 =>
  u g_t256 8 ((u_l1 (u_l1 u_z1 1 (Int32.ofInt 0)) 2 (Int32.ofInt 0)), u_z2, [(0, 67)]) [] s1 := (u_cE (t := g_t256) rfl _ _).trans ((u_E (5, 17, 5, 5) [8] 120 g_t256 0 _ _ _).trans rfl)
set_option maxRecDepth 4000 in
theorem b_256_8 (li : Nat → Int32) (ll : Nat → Int64) (s : u_H) : u g_t256 8 (li, ll, [(0, 67)]) [] s =
  if (li 2) < (s.1 65 48) then
    if u_in ((Int32.ofInt 9) + (li 2)) 28 = true then
      if (s.1 86 (((Int32.ofInt 9) + (li 2)).toNatClampNeg)) = (Int32.ofInt 2) then
        if u_in (li 2) 8 = true then
          u g_t256 8 ((u_l1 (u_l1 li 1 ((li 1) + (s.1 84 ((li 2).toNatClampNeg)))) 2 ((li 2) + (Int32.ofInt 1))), ll, [(0, 67)]) [] s
        else
          none
      else
        u g_t256 8 ((u_l1 (u_l1 li 1 ((li 1) + (Int32.ofInt 0))) 2 ((li 2) + (Int32.ofInt 1))), ll, [(0, 67)]) [] s
    else
      none
  else
    some (some (.inl (li 1)), s) := (u_E (5, 17, 5, 5) [8] 120 g_t256 8 _ _ _).trans rfl
/-! 257 GoodbyeQuayModel.mayNot()Z -/
set_option maxRecDepth 4000 in
theorem b_257 (s : u_H) : u_c 257 [.inr (.inr 67)] s =
  if (s.1 65 19) = 0 then
    some (some (.inl (Int32.ofInt 1)), s)
  else
    if u_in ((s.1 65 19) - (Int32.ofInt 1)) 160 = true then
      if (s.1 72 (((s.1 65 19) - (Int32.ofInt 1)).toNatClampNeg)) = (Int32.ofInt 20) then
        some (some (.inl (Int32.ofInt 1)), s)
      else
        if u_in ((s.1 65 19) - (Int32.ofInt 1)) 160 = true then
          u_bi (u_c 308 [.inl (s.1 72 (((s.1 65 19) - (Int32.ofInt 1)).toNatClampNeg))] s) fun x2 s1 =>
          if x2 < (Int32.ofInt 4) then
            some (some (.inl (Int32.ofInt 1)), s1)
          else
            some (some (.inl (Int32.ofInt 0)), s1)
        else
          none
    else
      none := (u_cE (t := g_t257) rfl _ _).trans ((u_E (5, 17, 5, 5) [] 120 g_t257 0 _ _ _).trans rfl)
/-! 258 GoodbyeQuayModel.mayTell(JII)I -/
set_option maxRecDepth 4000 in
theorem b_258 (l1 : Int64) (p2 : Int32) (p3 : Int32) (s : u_H) : u_c 258 [.inr (.inr 67), .inr (.inl l1), .inl p2, .inl p3] s =
  if (s.1 65 2) = 0 then
    u_bi (u_c 238 [.inr (.inr 67), .inr (.inl l1)] s) fun x2 s1 =>
    if x2 = 0 then
      some (some (.inl p3), s1)
    else
      u_bi (u_c 310 [.inr (.inr 67), .inr (.inl l1), .inl (Int32.ofInt 0), .inl p2] s1) fun x4 s3 =>
      some (some (.inl x4), s3)
  else
    some (some (.inl p3), s) := (u_cE (t := g_t258) rfl _ _).trans ((u_E (5, 17, 5, 5) [] 120 g_t258 0 _ _ _).trans rfl)
/-! 259 GoodbyeQuayModel.members(I)I -/
set_option maxRecDepth 4000 in
theorem b_259 (p1 : Int32) (s : u_H) : u_c 259 [.inl p1] s =
  u g_t259 4 ((u_l1 (u_l1 (u_l1 u_z1 0 p1) 1 (Int32.ofInt 0)) 2 (Int32.ofInt 0)), u_z2, []) [] s := (u_cE (t := g_t259) rfl _ _).trans ((u_E (5, 17, 5, 5) [4] 120 g_t259 0 _ _ _).trans rfl)
set_option maxRecDepth 4000 in
theorem b_259_4 (li : Nat → Int32) (ll : Nat → Int64) (s : u_H) : u g_t259 4 (li, ll, []) [] s =
  if (Int32.ofInt 7) < (li 2) then
    some (some (.inl (li 1)), s)
  else
    u g_t259 4 ((u_l1 (u_l1 li 1 ((li 1) + (((li 0) >>> ((li 2) &&& 31)) &&& (Int32.ofInt 1)))) 2 ((li 2) + (Int32.ofInt 1))), ll, []) [] s := (u_E (5, 17, 5, 5) [4] 120 g_t259 4 _ _ _).trans rfl
/-! 260 GoodbyeQuayModel.minute()I -/
set_option maxRecDepth 4000 in
theorem b_260 (s : u_H) : u_c 260 [.inr (.inr 67)] s =
  u_bv (u_c 203 [.inr (.inr 67)] s) fun s1 =>
  u_bi (u_c 226 [.inr (.inr 67)] s1) fun x3 s2 =>
  if x3 = 0 then
    if (s2.1 85 26) = (u_k 999) then
      some (some (.inl (u_k (-1))), s2)
    else
      u_bv (u_c 175 [.inr (.inr 67)] s2) fun s4 =>
      u_bi (u_c 212 [.inr (.inr 67), .inl (Int32.ofInt 1)] s4) fun x6 s5 =>
      u_bv (u_c 240 [.inr (.inr 67)] s5) fun s7 =>
      some (some (.inl x6), s7)
  else
    some (some (.inl (u_k (-1))), s2) := (u_cE (t := g_t260) rfl _ _).trans ((u_E (5, 17, 5, 5) [] 120 g_t260 0 _ _ _).trans rfl)
/-! 261 GoodbyeQuayModel.misses(I)V -/
set_option maxRecDepth 4000 in
theorem b_261 (p1 : Int32) (s : u_H) : u_c 261 [.inr (.inr 67), .inl p1] s =
  if u_in ((Int32.ofInt 9) + p1) 28 = true then
    some (none, ((y_u (y_u s.1 86 (((Int32.ofInt 9) + p1).toNatClampNeg) (Int32.ofInt 3)) 86 25 (((y_u s.1 86 (((Int32.ofInt 9) + p1).toNatClampNeg) (Int32.ofInt 3)) 86 25) + (Int32.ofInt 1))), s.2))
  else
    none := (u_cE (t := g_t261) rfl _ _).trans ((u_E (5, 17, 5, 5) [] 120 g_t261 0 _ _ _).trans rfl)
/-! 262 GoodbyeQuayModel.missing()I -/
set_option maxRecDepth 4000 in
theorem b_262 (s : u_H) : u_c 262 [.inr (.inr 67)] s =
  u_bv (u_c 203 [.inr (.inr 67)] s) fun s1 =>
  u_bv (u_c 213 [.inr (.inr 67)] s1) fun s2 =>
  u g_t262 12 ((u_l1 (u_l1 u_z1 1 (Int32.ofInt 0)) 2 (Int32.ofInt 0)), u_z2, [(0, 67)]) [] s2 := (u_cE (t := g_t262) rfl _ _).trans ((u_E (5, 17, 5, 5) [12] 120 g_t262 0 _ _ _).trans rfl)
set_option maxRecDepth 4000 in
theorem b_262_12 (li : Nat → Int32) (ll : Nat → Int64) (s : u_H) : u g_t262 12 (li, ll, [(0, 67)]) [] s =
  if (li 2) < (s.1 65 48) then
    if u_in ((Int32.ofInt 9) + (li 2)) 28 = true then
      if (s.1 86 (((Int32.ofInt 9) + (li 2)).toNatClampNeg)) = (Int32.ofInt 3) then
        u_bi (u_c 313 [.inl (Int32.ofInt 1)] s) fun x2 s1 =>
        u g_t262 12 ((u_l1 (u_l1 li 1 ((li 1) ||| (x2 <<< ((li 2) &&& 31)))) 2 ((li 2) + (Int32.ofInt 1))), ll, [(0, 67)]) [] s1
      else
        u_bi (u_c 313 [.inl (Int32.ofInt 0)] s) fun x4 s3 =>
        u g_t262 12 ((u_l1 (u_l1 li 1 ((li 1) ||| (x4 <<< ((li 2) &&& 31)))) 2 ((li 2) + (Int32.ofInt 1))), ll, [(0, 67)]) [] s3
    else
      none
  else
    some (some (.inl (li 1)), s) := (u_E (5, 17, 5, 5) [12] 120 g_t262 12 _ _ _).trans rfl
/-! 263 GoodbyeQuayModel.newName(II)V -/
set_option maxRecDepth 4000 in
theorem b_263 (p1 : Int32) (p2 : Int32) (s : u_H) : u_c 263 [.inr (.inr 67), .inl p1, .inl p2] s =
  u_bv (u_c 309 [.inr (.inr 67)] s) fun s1 =>
  u_bi (u_c 232 [.inr (.inr 67)] s1) fun x3 s2 =>
  if x3 = 0 then
    u_bv (u_c 324 [.inr (.inr 67), .inl (Int32.ofInt 2)] s2) fun s4 =>
    u g_t263 33 ((u_l1 (u_l1 u_z1 1 p1) 2 p2), u_z2, [(0, 67)]) [] s4
  else
    u_bi (u_c 204 [.inr (.inr 67), .inl p1, .inl p2] s2) fun x6 s5 =>
    if x6 < 0 then
      u g_t263 33 ((u_l1 (u_l1 u_z1 1 p1) 2 p2), u_z2, [(0, 67)]) [] s5
    else
      u_bv (u_c 324 [.inr (.inr 67), .inl (Int32.ofInt 3)] s5) fun s7 =>
      u g_t263 33 ((u_l1 (u_l1 u_z1 1 p1) 2 p2), u_z2, [(0, 67)]) [] s7 := (u_cE (t := g_t263) rfl _ _).trans ((u_E (5, 17, 5, 5) [33] 120 g_t263 0 _ _ _).trans rfl)
set_option maxRecDepth 4000 in
theorem b_263_33 (li : Nat → Int32) (ll : Nat → Int64) (s : u_H) : u g_t263 33 (li, ll, [(0, 67)]) [] s =
  if 0 < (s.1 65 2) then
    some (none, s)
  else
    if u_in ((li 1) + (li 2)) 12 = true then
      u_bv (u_c 309 [.inr (.inr 67)] (s.1, (y_u s.2.1 67 (((li 1) + (li 2)).toNatClampNeg) (s.2.1 65 9)), s.2.2)) fun s1 =>
      some (none, s1)
    else
      none := (u_E (5, 17, 5, 5) [33] 120 g_t263 33 _ _ _).trans rfl
/-! 264 GoodbyeQuayModel.nextRow(I)Z -/
set_option maxRecDepth 4000 in
theorem b_264 (p1 : Int32) (s : u_H) : u_c 264 [.inr (.inr 67), .inl p1] s =
  u g_t264 4 ((u_l1 (u_l1 u_z1 1 p1) 2 (p1 - (Int32.ofInt 2))), u_z2, [(0, 67)]) [] s := (u_cE (t := g_t264) rfl _ _).trans ((u_E (5, 17, 5, 5) [4, 41, 78] 120 g_t264 0 _ _ _).trans rfl)
set_option maxRecDepth 4000 in
theorem b_264_4 (li : Nat → Int32) (ll : Nat → Int64) (s : u_H) : u g_t264 4 (li, ll, [(0, 67)]) [] s =
  if (li 2) < 0 then
    if (li 2) < 0 then
      some (some (.inl (Int32.ofInt 0)), s)
    else
      u g_t264 41 ((u_l1 li 3 ((li 1) - (Int32.ofInt 1))), ll, [(0, 67)]) [] s
  else
    if u_in (li 2) 7 = true then
      if u_in ((li 2) + (Int32.ofInt 1)) 7 = true then
        if (s.1 93 (((li 2) + (Int32.ofInt 1)).toNatClampNeg)) < (s.1 93 ((li 2).toNatClampNeg)) then
          u g_t264 4 ((u_l1 li 2 ((li 2) + (u_k (-1)))), ll, [(0, 67)]) [] s
        else
          if (li 2) < 0 then
            some (some (.inl (Int32.ofInt 0)), s)
          else
            u g_t264 41 ((u_l1 li 3 ((li 1) - (Int32.ofInt 1))), ll, [(0, 67)]) [] s
      else
        none
    else
      none := (u_E (5, 17, 5, 5) [4, 41, 78] 120 g_t264 4 _ _ _).trans rfl
set_option maxRecDepth 4000 in
theorem b_264_41 (li : Nat → Int32) (ll : Nat → Int64) (s : u_H) : u g_t264 41 (li, ll, [(0, 67)]) [] s =
  if u_in (li 3) 7 = true then
    if u_in (li 2) 7 = true then
      if (s.1 93 ((li 3).toNatClampNeg)) < (s.1 93 ((li 2).toNatClampNeg)) then
        u g_t264 41 ((u_l1 li 3 ((li 3) + (u_k (-1)))), ll, [(0, 67)]) [] s
      else
        u_bv (u_c 200 [.inr (.inr 67), .inl (li 2), .inl (li 3)] s) fun s1 =>
        u g_t264 78 ((u_l1 (u_l1 li 4 ((li 2) + (Int32.ofInt 1))) 5 ((li 1) - (Int32.ofInt 1))), ll, [(0, 67)]) [] s1
    else
      none
  else
    none := (u_E (5, 17, 5, 5) [4, 41, 78] 120 g_t264 41 _ _ _).trans rfl
set_option maxRecDepth 4000 in
theorem b_264_78 (li : Nat → Int32) (ll : Nat → Int64) (s : u_H) : u g_t264 78 (li, ll, [(0, 67)]) [] s =
  if (li 4) < (li 5) then
    u_bv (u_c 200 [.inr (.inr 67), .inl (li 4), .inl (li 5)] s) fun s1 =>
    u g_t264 78 ((u_l1 (u_l1 li 4 ((li 4) + (Int32.ofInt 1))) 5 ((li 5) + (u_k (-1)))), ll, [(0, 67)]) [] s1
  else
    some (some (.inl (Int32.ofInt 1)), s) := (u_E (5, 17, 5, 5) [4, 41, 78] 120 g_t264 78 _ _ _).trans rfl
/-! 265 GoodbyeQuayModel.odds(II)I -/
set_option maxRecDepth 4000 in
theorem b_265 (p1 : Int32) (p2 : Int32) (s : u_H) : u_c 265 [.inr (.inr 67), .inl p1, .inl p2] s =
  u_bi (u_c 230 [.inl p1, .inl (Int32.ofInt 0), .inl (Int32.ofInt 4)] s) fun x2 s1 =>
  if x2 = 0 then
    some (some (.inl (u_k (-1))), s1)
  else
    u_bi (u_c 230 [.inl p2, .inl (Int32.ofInt 0), .inl (Int32.ofInt 1)] s1) fun x4 s3 =>
    if x4 = 0 then
      some (some (.inl (u_k (-1))), s3)
    else
      u_bi (u_c 273 [.inl ((Int32.ofInt 100) - (s3.1 65 51)), .inl p1] s3) fun x6 s5 =>
      u_bi (u_c 273 [.inl (Int32.ofInt 100), .inl p1] s5) fun x8 s7 =>
      u_bi (u_c 194 [.inl x8, .inl x6] s7) fun x10 s9 =>
      if p2 = 0 then
        if x10 = 0 then
          none
        else
          some (some (.inl (x6 / x10)), s9)
      else
        if x10 = 0 then
          none
        else
          some (some (.inl (x8 / x10)), s9) := (u_cE (t := g_t265) rfl _ _).trans ((u_E (5, 17, 5, 5) [] 120 g_t265 0 _ _ _).trans rfl)
/-! 266 GoodbyeQuayModel.oldShip()I -/
set_option maxRecDepth 4000 in
theorem b_266 (s : u_H) : u_c 266 [.inr (.inr 67)] s =
  if 0 < (s.1 65 2) then
    some (some (.inl (Int32.ofInt 0)), s)
  else
    u_bi (u_c 232 [.inr (.inr 67)] s) fun x2 s1 =>
    if x2 = 0 then
      u_bv (u_c 324 [.inr (.inr 67), .inl (Int32.ofInt 2)] s1) fun s3 =>
      u g_t266 41 (u_z1, u_z2, [(0, 67)]) [] s3
    else
      u_bi (u_c 204 [.inr (.inr 67), .inl (Int32.ofInt 0), .inl (s1.1 65 41)] s1) fun x5 s4 =>
      if x5 < 0 then
        u_bv (u_c 324 [.inr (.inr 67), .inl (Int32.ofInt 5)] s4) fun s6 =>
        u g_t266 41 (u_z1, u_z2, [(0, 67)]) [] s6
      else
        u g_t266 41 (u_z1, u_z2, [(0, 67)]) [] s4 := (u_cE (t := g_t266) rfl _ _).trans ((u_E (5, 17, 5, 5) [41] 120 g_t266 0 _ _ _).trans rfl)
set_option maxRecDepth 4000 in
theorem b_266_41 (li : Nat → Int32) (ll : Nat → Int64) (s : u_H) : u g_t266 41 (li, ll, [(0, 67)]) [] s =
  if 0 < (s.1 65 2) then
    if (s.1 65 2) = 0 then
      u_bv (u_c 309 [.inr (.inr 67)] s) fun s1 =>
      some (some (.inl (Int32.ofInt 0)), s1)
    else
      some (some (.inl (Int32.ofInt 0)), s)
  else
    u_bi (u_c 204 [.inr (.inr 67), .inl (Int32.ofInt 0), .inl (s.1 65 41)] s) fun x3 s2 =>
    if (s2.1 65 2) = 0 then
      u_bv (u_c 309 [.inr (.inr 67)] s2) fun s4 =>
      some (some (.inl x3), s4)
    else
      some (some (.inl x3), s2) := (u_E (5, 17, 5, 5) [41] 120 g_t266 41 _ _ _).trans rfl
/-! 267 GoodbyeQuayModel.openUp(I)V -/
set_option maxRecDepth 4000 in
theorem b_267 (p1 : Int32) (s : u_H) : u_c 267 [.inr (.inr 67), .inl p1] s =
  if u_in (s.1 65 19) 160 = true then
    if (s.1 65 2) = 0 then
      u_bv (u_c 309 [.inr (.inr 67)] ((y_u (y_u (y_u s.1 72 ((s.1 65 19).toNatClampNeg) p1) 65 19 ((s.1 65 19) + (Int32.ofInt 1))) 65 23 ((s.1 65 23) + (Int32.ofInt 1))), s.2)) fun s1 =>
      some (none, s1)
    else
      some (none, ((y_u (y_u (y_u s.1 72 ((s.1 65 19).toNatClampNeg) p1) 65 19 ((s.1 65 19) + (Int32.ofInt 1))) 65 23 ((s.1 65 23) + (Int32.ofInt 1))), s.2))
  else
    none := (u_cE (t := g_t267) rfl _ _).trans ((u_E (5, 17, 5, 5) [] 120 g_t267 0 _ _ _).trans rfl)
/-! 268 GoodbyeQuayModel.orNone(I)I -/
set_option maxRecDepth 4000 in
theorem b_268 (p1 : Int32) (s : u_H) : u_c 268 [.inl p1] s =
  if p1 = (u_kv 1000000) then
    some (some (.inl (u_k (-1))), s)
  else
    some (some (.inl p1), s) := (u_cE (t := g_t268) rfl _ _).trans ((u_E (5, 17, 5, 5) [] 120 g_t268 0 _ _ _).trans rfl)
/-! 269 GoodbyeQuayModel.order()I -/
set_option maxRecDepth 4000 in
theorem b_269 (s : u_H) : u_c 269 [.inr (.inr 67)] s =
  u_bi (u_c 183 [.inr (.inr 67), .inl (Int32.ofInt 0)] s) fun x2 s1 =>
  some (some (.inl x2), s1) := (u_cE (t := g_t269) rfl _ _).trans ((u_E (5, 17, 5, 5) [] 120 g_t269 0 _ _ _).trans rfl)
/-! 270 GoodbyeQuayModel.orders(I)I -/
set_option maxRecDepth 4000 in
theorem b_270 (p1 : Int32) (s : u_H) : u_c 270 [.inl p1] s =
  u g_t270 4 ((u_l1 (u_l1 (u_l1 u_z1 0 p1) 1 (Int32.ofInt 1)) 2 (Int32.ofInt 2)), u_z2, []) [] s := (u_cE (t := g_t270) rfl _ _).trans ((u_E (5, 17, 5, 5) [4] 120 g_t270 0 _ _ _).trans rfl)
set_option maxRecDepth 4000 in
theorem b_270_4 (li : Nat → Int32) (ll : Nat → Int64) (s : u_H) : u g_t270 4 (li, ll, []) [] s =
  if (li 0) < (li 2) then
    some (some (.inl (li 1)), s)
  else
    u g_t270 4 ((u_l1 (u_l1 li 1 ((li 1) * (li 2))) 2 ((li 2) + (Int32.ofInt 1))), ll, []) [] s := (u_E (5, 17, 5, 5) [4] 120 g_t270 4 _ _ _).trans rfl
/-! 271 GoodbyeQuayModel.pair(II)I -/
set_option maxRecDepth 4000 in
theorem b_271 (p1 : Int32) (p2 : Int32) (s : u_H) : u_c 271 [.inr (.inr 67), .inl p1, .inl p2] s =
  u_bi (u_c 234 [.inr (.inr 67), .inl p1] s) fun x2 s1 =>
  if x2 = 0 then
    some (some (.inl (u_k (-1))), s1)
  else
    u_bv (u_c 203 [.inr (.inr 67)] s1) fun s3 =>
    if p2 = (Int32.ofInt 0) then
      if u_in p1 8 = true then
        some (some (.inl (s3.1 82 (p1.toNatClampNeg))), s3)
      else
        none
    else
      if p2 = (Int32.ofInt 1) then
        if u_in p1 8 = true then
          some (some (.inl (s3.1 83 (p1.toNatClampNeg))), s3)
        else
          none
      else
        if p2 = (Int32.ofInt 2) then
          if u_in p1 8 = true then
            some (some (.inl (s3.1 84 (p1.toNatClampNeg))), s3)
          else
            none
        else
          if p2 = (Int32.ofInt 3) then
            if u_in ((Int32.ofInt 9) + p1) 28 = true then
              some (some (.inl (s3.1 85 (((Int32.ofInt 9) + p1).toNatClampNeg))), s3)
            else
              none
          else
            if p2 = (Int32.ofInt 4) then
              u_bi (u_c 272 [.inr (.inr 67), .inl p1] s3) fun x5 s4 =>
              some (some (.inl x5), s4)
            else
              if p2 = (Int32.ofInt 5) then
                u_bi (u_c 216 [.inl (s3.1 85 17), .inl p1] s3) fun x7 s6 =>
                u_bi (u_c 313 [.inl x7] s6) fun x9 s8 =>
                some (some (.inl x9), s8)
              else
                some (some (.inl (u_k (-1))), s3) := (u_cE (t := g_t271) rfl _ _).trans ((u_E (5, 17, 5, 5) [] 120 g_t271 0 _ _ _).trans rfl)
/-! 272 GoodbyeQuayModel.placeOf(I)I -/
set_option maxRecDepth 4000 in
theorem b_272 (p1 : Int32) (s : u_H) : u_c 272 [.inr (.inr 67), .inl p1] s =
  u g_t272 4 ((u_l1 (u_l1 (u_l1 u_z1 1 p1) 2 (u_k (-1))) 3 (Int32.ofInt 0)), u_z2, [(0, 67)]) [] s := (u_cE (t := g_t272) rfl _ _).trans ((u_E (5, 17, 5, 5) [4] 120 g_t272 0 _ _ _).trans rfl)
set_option maxRecDepth 4000 in
theorem b_272_4 (li : Nat → Int32) (ll : Nat → Int64) (s : u_H) : u g_t272 4 (li, ll, [(0, 67)]) [] s =
  u_bi (u_c 277 [.inr (.inr 67)] s) fun x2 s1 =>
  if (li 3) < x2 then
    if u_in (li 3) 28 = true then
      if (s1.1 86 ((li 3).toNatClampNeg)) = (li 1) then
        u g_t272 4 ((u_l1 (u_l1 li 2 (li 3)) 3 ((li 3) + (Int32.ofInt 1))), ll, [(0, 67)]) [] s1
      else
        u g_t272 4 ((u_l1 (u_l1 li 2 (li 2)) 3 ((li 3) + (Int32.ofInt 1))), ll, [(0, 67)]) [] s1
    else
      none
  else
    some (some (.inl (li 2)), s1) := (u_E (5, 17, 5, 5) [4] 120 g_t272 4 _ _ _).trans rfl
/-! 273 GoodbyeQuayModel.power(II)I -/
set_option maxRecDepth 4000 in
theorem b_273 (p1 : Int32) (p2 : Int32) (s : u_H) : u_c 273 [.inl p1, .inl p2] s =
  u g_t273 4 ((u_l1 (u_l1 (u_l1 (u_l1 u_z1 0 p1) 1 p2) 2 (Int32.ofInt 1)) 3 (Int32.ofInt 0)), u_z2, []) [] s := (u_cE (t := g_t273) rfl _ _).trans ((u_E (5, 17, 5, 5) [4] 120 g_t273 0 _ _ _).trans rfl)
set_option maxRecDepth 4000 in
theorem b_273_4 (li : Nat → Int32) (ll : Nat → Int64) (s : u_H) : u g_t273 4 (li, ll, []) [] s =
  if (li 3) < (li 1) then
    u g_t273 4 ((u_l1 (u_l1 li 2 ((li 2) * (li 0))) 3 ((li 3) + (Int32.ofInt 1))), ll, []) [] s
  else
    some (some (.inl (li 2)), s) := (u_E (5, 17, 5, 5) [4] 120 g_t273 4 _ _ _).trans rfl
/-! 274 GoodbyeQuayModel.putLast(I)V -/
set_option maxRecDepth 4000 in
theorem b_274 (p1 : Int32) (s : u_H) : u_c 274 [.inr (.inr 67), .inl p1] s =
  u_bi (u_c 277 [.inr (.inr 67)] s) fun x2 s1 =>
  if u_in x2 28 = true then
    if u_in ((Int32.ofInt 9) + p1) 28 = true then
      some (none, ((y_u (y_u (y_u s1.1 86 (x2.toNatClampNeg) p1) 86 8 (((y_u s1.1 86 (x2.toNatClampNeg) p1) 86 8) + (Int32.ofInt 1))) 86 (((Int32.ofInt 9) + p1).toNatClampNeg) (Int32.ofInt 0)), s1.2))
    else
      none
  else
    none := (u_cE (t := g_t274) rfl _ _).trans ((u_E (5, 17, 5, 5) [] 120 g_t274 0 _ _ _).trans rfl)
/-! 275 GoodbyeQuayModel.quay()I -/
set_option maxRecDepth 4000 in
theorem b_275 (s : u_H) : u_c 275 [.inr (.inr 67)] s =
  u_bv (u_c 281 [.inr (.inr 67)] s) fun s1 =>
  if 0 < (s1.1 65 2) then
    some (some (.inl (u_k (-1))), s1)
  else
    if q_ib (s1.1 65 24) = true then
      if (s1.1 65 24) = 0 then
        u g_t275 98 ((u_l1 u_z1 1 (Int32.ofInt 0)), u_z2, [(0, 67)]) [] ((y_u (y_u (y_u (y_u (y_u (y_u (y_u (y_u (y_u s1.1 65 47 (s1.1 65 41)) 65 48 (s1.1 65 42)) 65 49 (s1.1 65 43)) 65 50 (s1.1 65 44)) 65 51 (s1.1 65 45)) 65 52 (s1.1 65 46)) 65 21 (s1.1 65 20)) 65 25 (s1.1 65 24)) 65 18 (Int32.ofInt 0)), s1.2)
      else
        u g_t275 98 ((u_l1 u_z1 1 (Int32.ofInt 0)), u_z2, [(0, 67)]) [] ((y_u (y_u (y_u (y_u (y_u (y_u (y_u (y_u (y_u s1.1 65 47 (s1.1 65 41)) 65 48 (s1.1 65 42)) 65 49 (s1.1 65 43)) 65 50 (s1.1 65 44)) 65 51 (s1.1 65 45)) 65 52 (s1.1 65 46)) 65 21 (s1.1 65 20)) 65 25 (s1.1 65 24)) 65 18 (s1.1 65 17)), s1.2)
    else
      none := (u_cE (t := g_t275) rfl _ _).trans ((u_E (5, 17, 5, 5) [98, 138, 178, 258] 120 g_t275 0 _ _ _).trans rfl)
set_option maxRecDepth 4000 in
theorem b_275_98 (li : Nat → Int32) (ll : Nat → Int64) (s : u_H) : u g_t275 98 (li, ll, [(0, 67)]) [] s =
  if (li 1) < (s.1 65 18) then
    if u_in (li 1) 320 = true then
      if u_in (li 1) 320 = true then
        if u_in (li 1) 320 = true then
          if u_in (li 1) 320 = true then
            u g_t275 98 ((u_l1 li 1 ((li 1) + (Int32.ofInt 1))), ll, [(0, 67)]) [] ((y_u (y_u s.1 70 ((li 1).toNatClampNeg) (s.1 68 ((li 1).toNatClampNeg))) 71 ((li 1).toNatClampNeg) (s.1 69 ((li 1).toNatClampNeg))), s.2)
          else
            none
        else
          none
      else
        none
    else
      none
  else
    u g_t275 138 ((u_l1 li 1 (Int32.ofInt 0)), ll, [(0, 67)]) [] s := (u_E (5, 17, 5, 5) [98, 138, 178, 258] 120 g_t275 98 _ _ _).trans rfl
set_option maxRecDepth 4000 in
theorem b_275_138 (li : Nat → Int32) (ll : Nat → Int64) (s : u_H) : u g_t275 138 (li, ll, [(0, 67)]) [] s =
  if (li 1) < (s.1 65 47) then
    if u_in (li 1) 5 = true then
      if u_in (li 1) 5 = true then
        if u_in (li 1) 5 = true then
          if u_in (li 1) 5 = true then
            u g_t275 138 ((u_l1 li 1 ((li 1) + (Int32.ofInt 1))), ll, [(0, 67)]) [] ((y_u (y_u s.1 80 ((li 1).toNatClampNeg) (s.1 75 ((li 1).toNatClampNeg))) 81 ((li 1).toNatClampNeg) (s.1 76 ((li 1).toNatClampNeg))), s.2)
          else
            none
        else
          none
      else
        none
    else
      none
  else
    u g_t275 178 ((u_l1 li 1 (Int32.ofInt 0)), ll, [(0, 67)]) [] s := (u_E (5, 17, 5, 5) [98, 138, 178, 258] 120 g_t275 138 _ _ _).trans rfl
set_option maxRecDepth 4000 in
theorem b_275_178 (li : Nat → Int32) (ll : Nat → Int64) (s : u_H) : u g_t275 178 (li, ll, [(0, 67)]) [] s =
  if (li 1) < (s.1 65 48) then
    if u_in (li 1) 7 = true then
      if u_in (li 1) 8 = true then
        if u_in (li 1) 7 = true then
          if u_in (li 1) 8 = true then
            if u_in (li 1) 7 = true then
              if u_in (li 1) 8 = true then
                u g_t275 178 ((u_l1 li 1 ((li 1) + (Int32.ofInt 1))), ll, [(0, 67)]) [] ((y_u (y_u (y_u s.1 82 ((li 1).toNatClampNeg) (s.1 77 ((li 1).toNatClampNeg))) 83 ((li 1).toNatClampNeg) (s.1 78 ((li 1).toNatClampNeg))) 84 ((li 1).toNatClampNeg) (s.1 79 ((li 1).toNatClampNeg))), s.2)
              else
                none
            else
              none
          else
            none
        else
          none
      else
        none
    else
      none
  else
    u_bv (u_c 245 [.inr (.inr 67)] s) fun s1 =>
    u_bv (u_c 240 [.inr (.inr 67)] s1) fun s2 =>
    u g_t275 258 ((u_l1 li 1 (Int32.ofInt 0)), ll, [(0, 67)]) [] ((y_u (y_u (y_u (y_u s2.1 65 66 (Int32.ofInt 0)) 65 67 (Int32.ofInt 0)) 65 78 (Int32.ofInt 0)) 65 70 (Int32.ofInt 0)), s2.2) := (u_E (5, 17, 5, 5) [98, 138, 178, 258] 120 g_t275 178 _ _ _).trans rfl
set_option maxRecDepth 4000 in
theorem b_275_258 (li : Nat → Int32) (ll : Nat → Int64) (s : u_H) : u g_t275 258 (li, ll, [(0, 67)]) [] s =
  if (li 1) < (Int32.ofInt 3) then
    if u_in (li 1) 3 = true then
      u g_t275 258 ((u_l1 li 1 ((li 1) + (Int32.ofInt 1))), ll, [(0, 67)]) [] ((y_u s.1 104 ((li 1).toNatClampNeg) (Int32.ofInt 0)), s.2)
    else
      none
  else
    some (some (.inl (s.1 65 48)), s) := (u_E (5, 17, 5, 5) [98, 138, 178, 258] 120 g_t275 258 _ _ _).trans rfl
/-! 276 GoodbyeQuayModel.queue(I)I -/
set_option maxRecDepth 4000 in
theorem b_276 (p1 : Int32) (s : u_H) : u_c 276 [.inr (.inr 67), .inl p1] s =
  u_bi (u_c 230 [.inl p1, .inl (Int32.ofInt 0), .inl ((s.1 85 8) - (Int32.ofInt 1))] s) fun x2 s1 =>
  if x2 = 0 then
    some (some (.inl (u_k (-1))), s1)
  else
    if u_in p1 28 = true then
      some (some (.inl (s1.1 85 (p1.toNatClampNeg))), s1)
    else
      none := (u_cE (t := g_t276) rfl _ _).trans ((u_E (5, 17, 5, 5) [] 120 g_t276 0 _ _ _).trans rfl)
/-! 277 GoodbyeQuayModel.queueMany()I -/
set_option maxRecDepth 4000 in
theorem b_277 (s : u_H) : u_c 277 [.inr (.inr 67)] s =
  some (some (.inl (s.1 86 8)), s) := (u_cE (t := g_t277) rfl _ _).trans ((u_E (5, 17, 5, 5) [] 120 g_t277 0 _ _ _).trans rfl)
/-! 278 GoodbyeQuayModel.queuedOnes()I -/
set_option maxRecDepth 4000 in
theorem b_278 (s : u_H) : u_c 278 [.inr (.inr 67)] s =
  u g_t278 4 ((u_l1 (u_l1 u_z1 1 (Int32.ofInt 0)) 2 (Int32.ofInt 0)), u_z2, [(0, 67)]) [] s := (u_cE (t := g_t278) rfl _ _).trans ((u_E (5, 17, 5, 5) [4] 120 g_t278 0 _ _ _).trans rfl)
set_option maxRecDepth 4000 in
theorem b_278_4 (li : Nat → Int32) (ll : Nat → Int64) (s : u_H) : u g_t278 4 (li, ll, [(0, 67)]) [] s =
  if (li 2) < (s.1 65 48) then
    u_bi (u_c 235 [.inr (.inr 67), .inl (li 2)] s) fun x2 s1 =>
    u_bi (u_c 313 [.inl x2] s1) fun x4 s3 =>
    u g_t278 4 ((u_l1 (u_l1 li 1 ((li 1) ||| (x4 <<< ((li 2) &&& 31)))) 2 ((li 2) + (Int32.ofInt 1))), ll, [(0, 67)]) [] s3
  else
    some (some (.inl (li 1)), s) := (u_E (5, 17, 5, 5) [4] 120 g_t278 4 _ _ _).trans rfl
