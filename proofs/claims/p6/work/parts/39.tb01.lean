/-! what the methods do (printed by wip/gen/allb.py) -/
/-! 86 GoodbyeQuay$Formula.valueFor(IIIIII)I -/
set_option maxRecDepth 4000 in
theorem b_86 {W : Nat} (hW : W = 5 ∨ W = 17) (p1 : Int32) (p2 : Int32) (p3 : Int32) (p4 : Int32) (p5 : Int32) (p6 : Int32) (s : u_H) : u_c 86 [.inr (.inr (W + 8)), .inl p1, .inl p2, .inl p3, .inl p4, .inl p5, .inl p6] s =
  u g_t86 51 ((u_l1 (u_l1 (u_l1 (u_l1 (u_l1 (u_l1 (u_l1 (u_l1 u_z1 1 p1) 2 p2) 3 p3) 4 p4) 5 p5) 6 p6) 7 (u_k (-1))) 8 (Int32.ofInt 0)), u_z2, [(0, (W + 8))]) [] ((y_u (y_u (y_u (y_u (y_u (y_u s.1 (W + 9) 0 p3) (W + 9) 1 p1) (W + 9) 2 p2) (W + 9) 3 p4) (W + 9) 4 p5) (W + 9) 5 p6), s.2) := by
  rcases hW with rfl | rfl
  · exact (u_cE (t := g_t86) rfl _ _).trans ((u_E (5, 17, 5, 5) [51, 155] 120 g_t86 0 _ _ _).trans rfl)
  · exact (u_cE (t := g_t86) rfl _ _).trans ((u_E (17, 5, 17, 17) [51, 155] 120 g_t86 0 _ _ _).trans rfl)
set_option maxRecDepth 4000 in
theorem b_86_51 {W : Nat} (hW : W = 5 ∨ W = 17) (li : Nat → Int32) (ll : Nat → Int64) (s : u_H) : u g_t86 51 (li, ll, [(0, (W + 8))]) [] s =
  if (li 8) < (s.1 (W + 6) 3) then
    if u_in (li 8) 270 = true then
      if (s.1 (W + 7) ((li 8).toNatClampNeg)) < (u_k 10000) then
        if (s.1 (W + 7) ((li 8).toNatClampNeg)) < 0 then
          if u_in ((u_k (-1)) - (s.1 (W + 7) ((li 8).toNatClampNeg))) 6 = true then
            if u_in (if (Int32.ofInt 29) < ((li 7) + (Int32.ofInt 1)) then (Int32.ofInt 29) else ((li 7) + (Int32.ofInt 1))) 30 = true then
              u g_t86 51 ((u_l1 (u_l1 (u_l1 li 9 (s.1 (W + 7) ((li 8).toNatClampNeg))) 7 (if (Int32.ofInt 29) < ((li 7) + (Int32.ofInt 1)) then (Int32.ofInt 29) else ((li 7) + (Int32.ofInt 1)))) 8 ((li 8) + (Int32.ofInt 1))), ll, [(0, (W + 8))]) [] ((y_u s.1 (W + 8) ((if (Int32.ofInt 29) < ((li 7) + (Int32.ofInt 1)) then (Int32.ofInt 29) else ((li 7) + (Int32.ofInt 1))).toNatClampNeg) (s.1 (W + 9) (((u_k (-1)) - (s.1 (W + 7) ((li 8).toNatClampNeg))).toNatClampNeg))), s.2)
            else
              none
          else
            none
        else
          if u_in (if (Int32.ofInt 29) < ((li 7) + (Int32.ofInt 1)) then (Int32.ofInt 29) else ((li 7) + (Int32.ofInt 1))) 30 = true then
            u g_t86 51 ((u_l1 (u_l1 (u_l1 li 9 (s.1 (W + 7) ((li 8).toNatClampNeg))) 7 (if (Int32.ofInt 29) < ((li 7) + (Int32.ofInt 1)) then (Int32.ofInt 29) else ((li 7) + (Int32.ofInt 1)))) 8 ((li 8) + (Int32.ofInt 1))), ll, [(0, (W + 8))]) [] ((y_u s.1 (W + 8) ((if (Int32.ofInt 29) < ((li 7) + (Int32.ofInt 1)) then (Int32.ofInt 29) else ((li 7) + (Int32.ofInt 1))).toNatClampNeg) (s.1 (W + 7) ((li 8).toNatClampNeg))), s.2)
          else
            none
      else
        if (s.1 (W + 7) ((li 8).toNatClampNeg)) = (u_k 10272) then
          if (li 7) < 0 then
            u g_t86 155 ((u_l1 li 9 (s.1 (W + 7) ((li 8).toNatClampNeg))), ll, [(0, (W + 8))]) [] s
          else
            if u_in (li 7) 30 = true then
              if (s.1 (W + 8) ((li 7).toNatClampNeg)) = 0 then
                if u_in (li 7) 30 = true then
                  u g_t86 51 ((u_l1 (u_l1 li 9 (s.1 (W + 7) ((li 8).toNatClampNeg))) 8 ((li 8) + (Int32.ofInt 1))), ll, [(0, (W + 8))]) [] ((y_u s.1 (W + 8) ((li 7).toNatClampNeg) (Int32.ofInt 1)), s.2)
                else
                  none
              else
                if u_in (li 7) 30 = true then
                  u g_t86 51 ((u_l1 (u_l1 li 9 (s.1 (W + 7) ((li 8).toNatClampNeg))) 8 ((li 8) + (Int32.ofInt 1))), ll, [(0, (W + 8))]) [] ((y_u s.1 (W + 8) ((li 7).toNatClampNeg) (Int32.ofInt 0)), s.2)
                else
                  none
            else
              none
        else
          u g_t86 155 ((u_l1 li 9 (s.1 (W + 7) ((li 8).toNatClampNeg))), ll, [(0, (W + 8))]) [] s
    else
      none
  else
    some (some (.inl (s.1 (W + 8) 0)), s) := by
  rcases hW with rfl | rfl
  · exact (u_E (5, 17, 5, 5) [51, 155] 120 g_t86 51 _ _ _).trans rfl
  · exact (u_E (17, 5, 17, 17) [51, 155] 120 g_t86 51 _ _ _).trans rfl
set_option maxRecDepth 4000 in
theorem b_86_155 {W : Nat} (hW : W = 5 ∨ W = 17) (li : Nat → Int32) (ll : Nat → Int64) (s : u_H) : u g_t86 155 (li, ll, [(0, (W + 8))]) [] s =
  if 0 < (li 7) then
    if u_in ((li 7) + (u_k (-1))) 30 = true then
      if u_in (((li 7) + (u_k (-1))) + (Int32.ofInt 1)) 30 = true then
        u_bi (u_c 85 [.inl ((li 9) - (u_k 10000)), .inl (s.1 (W + 8) (((li 7) + (u_k (-1))).toNatClampNeg)), .inl (s.1 (W + 8) ((((li 7) + (u_k (-1))) + (Int32.ofInt 1)).toNatClampNeg))] s) fun x2 s1 =>
        if u_in ((li 7) + (u_k (-1))) 30 = true then
          u g_t86 51 ((u_l1 (u_l1 li 7 ((li 7) + (u_k (-1)))) 8 ((li 8) + (Int32.ofInt 1))), ll, [(0, (W + 8))]) [] ((y_u s1.1 (W + 8) (((li 7) + (u_k (-1))).toNatClampNeg) x2), s1.2)
        else
          none
      else
        none
    else
      none
  else
    u g_t86 51 ((u_l1 li 8 ((li 8) + (Int32.ofInt 1))), ll, [(0, (W + 8))]) [] s := by
  rcases hW with rfl | rfl
  · exact (u_E (5, 17, 5, 5) [51, 155] 120 g_t86 155 _ _ _).trans rfl
  · exact (u_E (17, 5, 17, 17) [51, 155] 120 g_t86 155 _ _ _).trans rfl
/-! 88 GoodbyeQuay$Orders.findBest(I)I -/
set_option maxRecDepth 4000 in
theorem b_88 (p1 : Int32) (s : u_H) : u_c 88 [.inr (.inr 47), .inl p1] s =
  u_bi (u_c 325 [.inl p1] s) fun x2 s1 =>
  u g_t88 15 ((u_l1 (u_l1 u_z1 1 p1) 2 (Int32.ofInt 0)), u_z2, [(0, 47)]) [] ((y_u (y_u s1.1 45 6 x2) 45 7 (u_k (-1))), s1.2) := (u_cE (t := g_t88) rfl _ _).trans ((u_E (5, 17, 5, 5) [15] 120 g_t88 0 _ _ _).trans rfl)
set_option maxRecDepth 4000 in
theorem b_88_15 (li : Nat → Int32) (ll : Nat → Int64) (s : u_H) : u g_t88 15 (li, ll, [(0, 47)]) [] s =
  if (li 2) < (u_k 1024) then
    if u_in (li 2) 1024 = true then
      u g_t88 15 ((u_l1 li 2 ((li 2) + (Int32.ofInt 1))), ll, [(0, 47)]) [] ((y_u s.1 49 ((li 2).toNatClampNeg) (u_k (-1))), s.2)
    else
      none
  else
    u_bv (u_c 165 [.inr (.inr 38), .inl (Int32.ofInt 0)] s) fun s1 =>
    u_bv (u_c 89 [.inr (.inr 47), .inl (Int32.ofInt 0), .inl (li 1), .inl (Int32.ofInt 0)] s1) fun s2 =>
    some (some (.inl (s2.1 45 7)), s2) := (u_E (5, 17, 5, 5) [15] 120 g_t88 15 _ _ _).trans rfl
/-! 89 GoodbyeQuay$Orders.goOn(III)V -/
set_option maxRecDepth 4000 in
theorem b_89 (p1 : Int32) (p2 : Int32) (p3 : Int32) (s : u_H) : u_c 89 [.inr (.inr 47), .inl p1, .inl p2, .inl p3] s =
  if p1 < (s.1 45 6) then
    if p1 < (Int32.ofInt 7) then
      u_bi (u_c 163 [.inr (.inr 38)] s) fun x2 s1 =>
      if u_in x2 3 = true then
        u g_t89 44 ((u_l1 (u_l1 (u_l1 (u_l1 (u_l1 (u_l1 u_z1 1 p1) 2 p2) 3 p3) 4 x2) 5 (s1.1 42 (x2.toNatClampNeg))) 6 (Int32.ofInt 0)), u_z2, [(0, 47)]) [] s1
      else
        none
    else
      u_bv (u_c 92 [.inr (.inr 47), .inl p3] s) fun s3 =>
      some (none, s3)
  else
    u_bv (u_c 92 [.inr (.inr 47), .inl p3] s) fun s4 =>
    some (none, s4) := (u_cE (t := g_t89) rfl _ _).trans ((u_E (5, 17, 5, 5) [44, 115] 120 g_t89 0 _ _ _).trans rfl)
set_option maxRecDepth 4000 in
theorem b_89_44 (li : Nat → Int32) (ll : Nat → Int64) (s : u_H) : u g_t89 44 (li, ll, [(0, 47)]) [] s =
  if (li 6) < (Int32.ofInt 7) then
    u_bi (u_c 28 [.inl (li 2), .inl (li 6)] s) fun x2 s1 =>
    if x2 = 0 then
      u g_t89 44 ((u_l1 li 6 ((li 6) + (Int32.ofInt 1))), ll, [(0, 47)]) [] s1
    else
      if u_in (li 1) 7 = true then
        u_bi (u_c 172 [.inr (.inr 38), .inl (li 6), .inl (li 4), .inl (((s1.1 45 6) - (Int32.ofInt 1)) - (li 1))] ((y_u s1.1 48 ((li 1).toNatClampNeg) (li 6)), s1.2)) fun x4 s3 =>
        if x4 = 0 then
          u g_t89 115 ((u_l1 li 7 ((li 2) &&& (((Int32.ofInt 1) <<< ((li 6) &&& 31)) ^^^ (u_k (-1))))), ll, [(0, 47)]) [.inl (Int32.ofInt 0), .inl (li 3)] s3
        else
          if u_in (li 6) 7 = true then
            u g_t89 115 ((u_l1 li 7 ((li 2) &&& (((Int32.ofInt 1) <<< ((li 6) &&& 31)) ^^^ (u_k (-1))))), ll, [(0, 47)]) [.inl (s3.1 46 ((li 6).toNatClampNeg)), .inl (li 3)] s3
          else
            none
      else
        none
  else
    some (none, s) := (u_E (5, 17, 5, 5) [44, 115] 120 g_t89 44 _ _ _).trans rfl
set_option maxRecDepth 4000 in
theorem b_89_115 (v0 : Int32) (v1 : Int32) (li : Nat → Int32) (ll : Nat → Int64) (s : u_H) : u g_t89 115 (li, ll, [(0, 47)]) [.inl v0, .inl v1] s =
  u_bi (u_c 90 [.inr (.inr 47), .inl (li 7)] s) fun x2 s1 =>
  if (s1.1 45 7) < ((v1 + v0) + x2) then
    u_bi (u_c 91 [.inr (.inr 47), .inl (li 7), .inl (v1 + v0)] s1) fun x4 s3 =>
    if x4 = 0 then
      u_bv (u_c 89 [.inr (.inr 47), .inl ((li 1) + (Int32.ofInt 1)), .inl (li 7), .inl (v1 + v0)] s3) fun s5 =>
      if u_in (li 4) 3 = true then
        u g_t89 44 ((u_l1 (u_l1 li 8 (v1 + v0)) 6 ((li 6) + (Int32.ofInt 1))), ll, [(0, 47)]) [] ((y_u s5.1 42 ((li 4).toNatClampNeg) (li 5)), s5.2)
      else
        none
    else
      if u_in (li 4) 3 = true then
        u g_t89 44 ((u_l1 (u_l1 li 8 (v1 + v0)) 6 ((li 6) + (Int32.ofInt 1))), ll, [(0, 47)]) [] ((y_u s3.1 42 ((li 4).toNatClampNeg) (li 5)), s3.2)
      else
        none
  else
    if u_in (li 4) 3 = true then
      u g_t89 44 ((u_l1 (u_l1 li 8 (v1 + v0)) 6 ((li 6) + (Int32.ofInt 1))), ll, [(0, 47)]) [] ((y_u s1.1 42 ((li 4).toNatClampNeg) (li 5)), s1.2)
    else
      none := (u_E (5, 17, 5, 5) [44, 115] 120 g_t89 115 _ _ _).trans rfl
/-! 90 GoodbyeQuay$Orders.hopeOf(I)I -/
set_option maxRecDepth 4000 in
theorem b_90 (p1 : Int32) (s : u_H) : u_c 90 [.inr (.inr 47), .inl p1] s =
  u_bi (u_c 163 [.inr (.inr 38)] s) fun x2 s1 =>
  if u_in x2 3 = true then
    u g_t90 21 ((u_l1 (u_l1 (u_l1 (u_l1 u_z1 1 p1) 2 (s1.1 42 (x2.toNatClampNeg))) 3 (Int32.ofInt 0)) 4 (Int32.ofInt 0)), u_z2, [(0, 47)]) [] s1
  else
    none := (u_cE (t := g_t90) rfl _ _).trans ((u_E (5, 17, 5, 5) [21] 120 g_t90 0 _ _ _).trans rfl)
set_option maxRecDepth 4000 in
theorem b_90_21 (li : Nat → Int32) (ll : Nat → Int64) (s : u_H) : u g_t90 21 (li, ll, [(0, 47)]) [] s =
  if (li 4) < (Int32.ofInt 7) then
    u_bi (u_c 28 [.inl (li 1), .inl (li 4)] s) fun x2 s1 =>
    if x2 = 0 then
      u g_t90 21 ((u_l1 li 4 ((li 4) + (Int32.ofInt 1))), ll, [(0, 47)]) [] s1
    else
      u_bi (u_c 167 [.inr (.inr 38), .inl (li 4)] s1) fun x4 s3 =>
      if (li 2) < x4 then
        if u_in (li 4) 7 = true then
          u g_t90 21 ((u_l1 (u_l1 li 3 ((li 3) + (s3.1 46 ((li 4).toNatClampNeg)))) 4 ((li 4) + (Int32.ofInt 1))), ll, [(0, 47)]) [] s3
        else
          none
      else
        u g_t90 21 ((u_l1 li 4 ((li 4) + (Int32.ofInt 1))), ll, [(0, 47)]) [] s3
  else
    some (some (.inl (li 3)), s) := (u_E (5, 17, 5, 5) [21] 120 g_t90 21 _ _ _).trans rfl
/-! 91 GoodbyeQuay$Orders.isKnown(II)Z -/
set_option maxRecDepth 4000 in
theorem b_91 (p1 : Int32) (p2 : Int32) (s : u_H) : u_c 91 [.inr (.inr 47), .inl p1, .inl p2] s =
  u g_t91 16 ((u_l1 (u_l1 (u_l1 (u_l1 (u_l1 u_z1 1 p1) 2 p2) 3 (s.1 42 0)) 4 (s.1 42 0)) 5 (Int32.ofInt 1)), u_z2, [(0, 47)]) [] s := (u_cE (t := g_t91) rfl _ _).trans ((u_E (5, 17, 5, 5) [16] 120 g_t91 0 _ _ _).trans rfl)
set_option maxRecDepth 4000 in
theorem b_91_16 (li : Nat → Int32) (ll : Nat → Int64) (s : u_H) : u g_t91 16 (li, ll, [(0, 47)]) [] s =
  if (li 5) < (s.1 36 10) then
    if u_in (li 5) 3 = true then
      if u_in (li 5) 3 = true then
        u g_t91 16 ((u_l1 (u_l1 (u_l1 li 3 (if (s.1 42 ((li 5).toNatClampNeg)) < (li 3) then (s.1 42 ((li 5).toNatClampNeg)) else (li 3))) 4 (if (li 4) < (s.1 42 ((li 5).toNatClampNeg)) then (s.1 42 ((li 5).toNatClampNeg)) else (li 4))) 5 ((li 5) + (Int32.ofInt 1))), ll, [(0, 47)]) [] s
      else
        none
    else
      none
  else
    if u_in ((((((((li 4) <<< ((Int32.ofInt 10) &&& 31)) ||| (li 3)) <<< ((Int32.ofInt 7) &&& 31)) ||| (li 1)) * (u_kv 2654435761)).toUInt32 >>> ((Int32.ofInt 22).toUInt32 &&& Int32.toUInt32 31)).toInt32) 1024 = true then
      if (s.1 49 (((((((((li 4) <<< ((Int32.ofInt 10) &&& 31)) ||| (li 3)) <<< ((Int32.ofInt 7) &&& 31)) ||| (li 1)) * (u_kv 2654435761)).toUInt32 >>> ((Int32.ofInt 22).toUInt32 &&& Int32.toUInt32 31)).toInt32).toNatClampNeg)) = (((((li 4) <<< ((Int32.ofInt 10) &&& 31)) ||| (li 3)) <<< ((Int32.ofInt 7) &&& 31)) ||| (li 1)) then
        if u_in ((((((((li 4) <<< ((Int32.ofInt 10) &&& 31)) ||| (li 3)) <<< ((Int32.ofInt 7) &&& 31)) ||| (li 1)) * (u_kv 2654435761)).toUInt32 >>> ((Int32.ofInt 22).toUInt32 &&& Int32.toUInt32 31)).toInt32) 1024 = true then
          if (s.1 50 (((((((((li 4) <<< ((Int32.ofInt 10) &&& 31)) ||| (li 3)) <<< ((Int32.ofInt 7) &&& 31)) ||| (li 1)) * (u_kv 2654435761)).toUInt32 >>> ((Int32.ofInt 22).toUInt32 &&& Int32.toUInt32 31)).toInt32).toNatClampNeg)) < (li 2) then
            if u_in ((((((((li 4) <<< ((Int32.ofInt 10) &&& 31)) ||| (li 3)) <<< ((Int32.ofInt 7) &&& 31)) ||| (li 1)) * (u_kv 2654435761)).toUInt32 >>> ((Int32.ofInt 22).toUInt32 &&& Int32.toUInt32 31)).toInt32) 1024 = true then
              if u_in ((((((((li 4) <<< ((Int32.ofInt 10) &&& 31)) ||| (li 3)) <<< ((Int32.ofInt 7) &&& 31)) ||| (li 1)) * (u_kv 2654435761)).toUInt32 >>> ((Int32.ofInt 22).toUInt32 &&& Int32.toUInt32 31)).toInt32) 1024 = true then
                some (some (.inl (Int32.ofInt 0)), ((y_u (y_u s.1 49 (((((((((li 4) <<< ((Int32.ofInt 10) &&& 31)) ||| (li 3)) <<< ((Int32.ofInt 7) &&& 31)) ||| (li 1)) * (u_kv 2654435761)).toUInt32 >>> ((Int32.ofInt 22).toUInt32 &&& Int32.toUInt32 31)).toInt32).toNatClampNeg) (((((li 4) <<< ((Int32.ofInt 10) &&& 31)) ||| (li 3)) <<< ((Int32.ofInt 7) &&& 31)) ||| (li 1))) 50 (((((((((li 4) <<< ((Int32.ofInt 10) &&& 31)) ||| (li 3)) <<< ((Int32.ofInt 7) &&& 31)) ||| (li 1)) * (u_kv 2654435761)).toUInt32 >>> ((Int32.ofInt 22).toUInt32 &&& Int32.toUInt32 31)).toInt32).toNatClampNeg) (li 2)), s.2))
              else
                none
            else
              none
          else
            some (some (.inl (Int32.ofInt 1)), s)
        else
          none
      else
        if u_in ((((((((li 4) <<< ((Int32.ofInt 10) &&& 31)) ||| (li 3)) <<< ((Int32.ofInt 7) &&& 31)) ||| (li 1)) * (u_kv 2654435761)).toUInt32 >>> ((Int32.ofInt 22).toUInt32 &&& Int32.toUInt32 31)).toInt32) 1024 = true then
          if u_in ((((((((li 4) <<< ((Int32.ofInt 10) &&& 31)) ||| (li 3)) <<< ((Int32.ofInt 7) &&& 31)) ||| (li 1)) * (u_kv 2654435761)).toUInt32 >>> ((Int32.ofInt 22).toUInt32 &&& Int32.toUInt32 31)).toInt32) 1024 = true then
            some (some (.inl (Int32.ofInt 0)), ((y_u (y_u s.1 49 (((((((((li 4) <<< ((Int32.ofInt 10) &&& 31)) ||| (li 3)) <<< ((Int32.ofInt 7) &&& 31)) ||| (li 1)) * (u_kv 2654435761)).toUInt32 >>> ((Int32.ofInt 22).toUInt32 &&& Int32.toUInt32 31)).toInt32).toNatClampNeg) (((((li 4) <<< ((Int32.ofInt 10) &&& 31)) ||| (li 3)) <<< ((Int32.ofInt 7) &&& 31)) ||| (li 1))) 50 (((((((((li 4) <<< ((Int32.ofInt 10) &&& 31)) ||| (li 3)) <<< ((Int32.ofInt 7) &&& 31)) ||| (li 1)) * (u_kv 2654435761)).toUInt32 >>> ((Int32.ofInt 22).toUInt32 &&& Int32.toUInt32 31)).toInt32).toNatClampNeg) (li 2)), s.2))
          else
            none
        else
          none
    else
      none := (u_E (5, 17, 5, 5) [16] 120 g_t91 16 _ _ _).trans rfl
/-! 92 GoodbyeQuay$Orders.keepIfMore(I)V -/
set_option maxRecDepth 4000 in
theorem b_92 (p1 : Int32) (s : u_H) : u_c 92 [.inr (.inr 47), .inl p1] s =
  if (s.1 45 7) < p1 then
    if u_cpk (s.1 45 6) (Int32.ofInt 0) (Int32.ofInt 0) 7 7 = true then
      some (none, ((u_cp (y_u s.1 45 7 p1) 47 0 48 0 ((s.1 45 6).toNatClampNeg)), s.2))
    else
      none
  else
    some (none, s) := (u_cE (t := g_t92) rfl _ _).trans ((u_E (5, 17, 5, 5) [] 120 g_t92 0 _ _ _).trans rfl)
/-! 94 GoodbyeQuay$Past.keep(LGoodbyeQuay$State;)V -/
set_option maxRecDepth 4000 in
theorem b_94 (s : u_H) : u_c 94 [.inr (.inr 35), .inr (.inr 30)] s =
  if (s.1 33 2) < (Int32.ofInt 40) then
    u_bi (u_c 96 [.inr (.inr 35)] ((y_u (y_u s.1 33 3 (Int32.ofInt 0)) 33 2 ((s.1 33 2) + (Int32.ofInt 1))), s.2)) fun x2 s1 =>
    u_bv (u_c 149 [.inr (.inr 30), .inr (.inr 36), .inl x2] s1) fun s3 =>
    some (none, s3)
  else
    u_bi (u_c 96 [.inr (.inr 35)] ((y_u (y_u s.1 33 3 (Int32.ofInt 0)) 33 1 (((s.1 33 1) + (Int32.ofInt 1)) - ((s.1 33 1) + (Int32.ofInt 1)) / (Int32.ofInt 41) * (Int32.ofInt 41))), s.2)) fun x5 s4 =>
    u_bv (u_c 149 [.inr (.inr 30), .inr (.inr 36), .inl x5] s4) fun s6 =>
    some (none, s6) := (u_cE (t := g_t94) rfl _ _).trans ((u_E (5, 17, 5, 5) [] 120 g_t94 0 _ _ _).trans rfl)
/-! 95 GoodbyeQuay$Past.restart(LGoodbyeQuay$State;)V -/
set_option maxRecDepth 4000 in
theorem b_95 (s : u_H) : u_c 95 [.inr (.inr 35), .inr (.inr 30)] s =
  u_bi (u_c 96 [.inr (.inr 35)] ((y_u (y_u (y_u s.1 33 1 (Int32.ofInt 0)) 33 2 (Int32.ofInt 0)) 33 3 (Int32.ofInt 0)), s.2)) fun x2 s1 =>
  u_bv (u_c 149 [.inr (.inr 30), .inr (.inr 36), .inl x2] s1) fun s3 =>
  some (none, s3) := (u_cE (t := g_t95) rfl _ _).trans ((u_E (5, 17, 5, 5) [] 120 g_t95 0 _ _ _).trans rfl)
/-! 96 GoodbyeQuay$Past.rowNow()I -/
set_option maxRecDepth 4000 in
theorem b_96 (s : u_H) : u_c 96 [.inr (.inr 35)] s =
  some (some (.inl ((((s.1 33 1) + (s.1 33 2)) - ((s.1 33 1) + (s.1 33 2)) / (Int32.ofInt 41) * (Int32.ofInt 41)) * (Int32.ofInt 24))), s) := (u_cE (t := g_t96) rfl _ _).trans ((u_E (5, 17, 5, 5) [] 120 g_t96 0 _ _ _).trans rfl)
/-! 97 GoodbyeQuay$Past.takeAgain(LGoodbyeQuay$State;)Z -/
set_option maxRecDepth 4000 in
theorem b_97 (s : u_H) : u_c 97 [.inr (.inr 35), .inr (.inr 30)] s =
  if (s.1 33 3) = 0 then
    some (some (.inl (Int32.ofInt 0)), s)
  else
    u_bi (u_c 96 [.inr (.inr 35)] ((y_u (y_u s.1 33 2 ((s.1 33 2) + (Int32.ofInt 1))) 33 3 ((s.1 33 3) - (Int32.ofInt 1))), s.2)) fun x2 s1 =>
    u_bv (u_c 146 [.inr (.inr 30), .inr (.inr 36), .inl x2] s1) fun s3 =>
    some (some (.inl (Int32.ofInt 1)), s3) := (u_cE (t := g_t97) rfl _ _).trans ((u_E (5, 17, 5, 5) [] 120 g_t97 0 _ _ _).trans rfl)
/-! 98 GoodbyeQuay$Past.takeBack(LGoodbyeQuay$State;)Z -/
set_option maxRecDepth 4000 in
theorem b_98 (s : u_H) : u_c 98 [.inr (.inr 35), .inr (.inr 30)] s =
  if (s.1 33 2) = 0 then
    some (some (.inl (Int32.ofInt 0)), s)
  else
    u_bi (u_c 96 [.inr (.inr 35)] ((y_u (y_u s.1 33 2 ((s.1 33 2) - (Int32.ofInt 1))) 33 3 ((s.1 33 3) + (Int32.ofInt 1))), s.2)) fun x2 s1 =>
    u_bv (u_c 146 [.inr (.inr 30), .inr (.inr 36), .inl x2] s1) fun s3 =>
    some (some (.inl (Int32.ofInt 1)), s3) := (u_cE (t := g_t98) rfl _ _).trans ((u_E (5, 17, 5, 5) [] 120 g_t98 0 _ _ _).trans rfl)
/-! 100 GoodbyeQuay$Places.learn(LGoodbyeQuay$Trial;LGoodbyeQuay$Told;LGoodbyeQuay$State;I)V -/
set_option maxRecDepth 4000 in
theorem b_100 {W : Nat} (hW : W = 5 ∨ W = 17) (p4 : Int32) (s : u_H) : u_c 100 [.inr (.inr 53), .inr (.inr 38), .inr (.inr W), .inr (.inr 30), .inl p4] s =
  u g_t100 11 ((u_l1 (u_l1 u_z1 4 p4) 5 (Int32.ofInt 0)), u_z2, [(3, 30), (2, W), (1, 38), (0, 53)]) [] ((y_u s.1 51 3 (s.1 28 1)), s.2) := by
  rcases hW with rfl | rfl
  · exact (u_cE (t := g_t100) rfl _ _).trans ((u_E (5, 17, 5, 5) [11] 120 g_t100 0 _ _ _).trans rfl)
  · exact (u_cE (t := g_t100) rfl _ _).trans ((u_E (17, 5, 17, 17) [11] 120 g_t100 0 _ _ _).trans rfl)
set_option maxRecDepth 4000 in
theorem b_100_11 {W : Nat} (hW : W = 5 ∨ W = 17) (li : Nat → Int32) (ll : Nat → Int64) (s : u_H) : u g_t100 11 (li, ll, [(3, 30), (2, W), (1, 38), (0, 53)]) [] s =
  if (li 5) < (s.1 51 3) then
    u_bv (u_c 164 [.inr (.inr 38), .inr (.inr W), .inr (.inr 30)] s) fun s1 =>
    u_bv (u_c 158 [.inr (.inr 38), .inl (li 4), .inl (li 5)] s1) fun s2 =>
    u_bv (u_c 166 [.inr (.inr 38), .inl (Int32.ofInt 0)] s2) fun s3 =>
    if u_in (li 4) 7 = true then
      u_bi (u_c 168 [.inr (.inr 38), .inl (s3.1 29 ((li 4).toNatClampNeg))] s3) fun x5 s4 =>
      if u_in (((li 4) * (Int32.ofInt 7)) + (li 5)) 49 = true then
        u g_t100 11 ((u_l1 li 5 ((li 5) + (Int32.ofInt 1))), ll, [(3, 30), (2, W), (1, 38), (0, 53)]) [] ((y_u s4.1 52 ((((li 4) * (Int32.ofInt 7)) + (li 5)).toNatClampNeg) x5), s4.2)
      else
        none
    else
      none
  else
    some (none, s) := by
  rcases hW with rfl | rfl
  · exact (u_E (5, 17, 5, 5) [11] 120 g_t100 11 _ _ _).trans rfl
  · exact (u_E (17, 5, 17, 17) [11] 120 g_t100 11 _ _ _).trans rfl
/-! 101 GoodbyeQuay$Places.roundOf(II)I -/
set_option maxRecDepth 4000 in
theorem b_101 (p1 : Int32) (p2 : Int32) (s : u_H) : u_c 101 [.inr (.inr 53), .inl p1, .inl p2] s =
  if u_in p1 7 = true then
    u g_t101 15 ((u_l1 (u_l1 (u_l1 (u_l1 (u_l1 u_z1 1 p1) 2 p2) 3 ((Int32.ofInt 1) <<< (p1 &&& 31))) 4 (s.1 53 (p1.toNatClampNeg))) 5 (Int32.ofInt 0)), u_z2, [(0, 53)]) [] s
  else
    none := (u_cE (t := g_t101) rfl _ _).trans ((u_E (5, 17, 5, 5) [15] 120 g_t101 0 _ _ _).trans rfl)
set_option maxRecDepth 4000 in
theorem b_101_15 (li : Nat → Int32) (ll : Nat → Int64) (s : u_H) : u g_t101 15 (li, ll, [(0, 53)]) [] s =
  if (li 5) < (li 2) then
    if (li 4) = (li 1) then
      if (li 4) = (li 1) then
        some (some (.inl (li 3)), s)
      else
        some (some (.inl (Int32.ofInt 0)), s)
    else
      if u_in (li 4) 7 = true then
        u g_t101 15 ((u_l1 (u_l1 (u_l1 li 3 ((li 3) ||| ((Int32.ofInt 1) <<< ((li 4) &&& 31)))) 4 (s.1 53 ((li 4).toNatClampNeg))) 5 ((li 5) + (Int32.ofInt 1))), ll, [(0, 53)]) [] s
      else
        none
  else
    if (li 4) = (li 1) then
      some (some (.inl (li 3)), s)
    else
      some (some (.inl (Int32.ofInt 0)), s) := (u_E (5, 17, 5, 5) [15] 120 g_t101 15 _ _ _).trans rfl
/-! 102 GoodbyeQuay$Places.tradeAll(I)I -/
set_option maxRecDepth 4000 in
theorem b_102 (p1 : Int32) (s : u_H) : u_c 102 [.inr (.inr 53), .inl p1] s =
  u g_t102 11 ((u_l1 (u_l1 (u_l1 (u_l1 u_z1 1 p1) 2 (Int32.ofInt 0)) 3 (((Int32.ofInt 1) <<< (p1 &&& 31)) - (Int32.ofInt 1))) 4 (Int32.ofInt 0)), u_z2, [(0, 53)]) [] s := (u_cE (t := g_t102) rfl _ _).trans ((u_E (5, 17, 5, 5) [11, 24, 70, 96, 146] 120 g_t102 0 _ _ _).trans rfl)
set_option maxRecDepth 4000 in
theorem b_102_11 (li : Nat → Int32) (ll : Nat → Int64) (s : u_H) : u g_t102 11 (li, ll, [(0, 53)]) [] s =
  if (li 4) < (li 1) then
    if (li 3) = 0 then
      some (some (.inl (li 2)), s)
    else
      u g_t102 24 ((u_l1 li 5 (Int32.ofInt 0)), ll, [(0, 53)]) [] s
  else
    some (some (.inl (li 2)), s) := (u_E (5, 17, 5, 5) [11, 24, 70, 96, 146] 120 g_t102 11 _ _ _).trans rfl
set_option maxRecDepth 4000 in
theorem b_102_24 (li : Nat → Int32) (ll : Nat → Int64) (s : u_H) : u g_t102 24 (li, ll, [(0, 53)]) [] s =
  if (li 5) < (li 1) then
    u_bi (u_c 28 [.inl (li 3), .inl (li 5)] s) fun x2 s1 =>
    if x2 = 0 then
      if u_in (li 5) 7 = true then
        u g_t102 24 ((u_l1 li 5 ((li 5) + (Int32.ofInt 1))), ll, [(0, 53)]) [] ((y_u s1.1 53 ((li 5).toNatClampNeg) (li 5)), s1.2)
      else
        none
    else
      u_bi (u_c 103 [.inr (.inr 53), .inl (li 5), .inl (li 3)] s1) fun x4 s3 =>
      if u_in (li 5) 7 = true then
        u g_t102 24 ((u_l1 li 5 ((li 5) + (Int32.ofInt 1))), ll, [(0, 53)]) [] ((y_u s3.1 53 ((li 5).toNatClampNeg) x4), s3.2)
      else
        none
  else
    u g_t102 70 ((u_l1 (u_l1 li 5 (Int32.ofInt 0)) 6 (Int32.ofInt 0)), ll, [(0, 53)]) [] s := (u_E (5, 17, 5, 5) [11, 24, 70, 96, 146] 120 g_t102 24 _ _ _).trans rfl
set_option maxRecDepth 4000 in
theorem b_102_70 (li : Nat → Int32) (ll : Nat → Int64) (s : u_H) : u g_t102 70 (li, ll, [(0, 53)]) [] s =
  if (li 6) < (li 1) then
    u_bi (u_c 28 [.inl (li 3), .inl (li 6)] s) fun x2 s1 =>
    if x2 = 0 then
      u g_t102 96 (li, ll, [(0, 53)]) [.inl (Int32.ofInt 0)] s1
    else
      u_bi (u_c 101 [.inr (.inr 53), .inl (li 6), .inl (li 1)] s1) fun x4 s3 =>
      u g_t102 96 (li, ll, [(0, 53)]) [.inl x4] s3
  else
    u g_t102 11 ((u_l1 (u_l1 li 3 ((li 3) &&& ((li 5) ^^^ (u_k (-1))))) 4 ((li 4) + (Int32.ofInt 1))), ll, [(0, 53)]) [] s := (u_E (5, 17, 5, 5) [11, 24, 70, 96, 146] 120 g_t102 70 _ _ _).trans rfl
set_option maxRecDepth 4000 in
theorem b_102_96 (v0 : Int32) (li : Nat → Int32) (ll : Nat → Int64) (s : u_H) : u g_t102 96 (li, ll, [(0, 53)]) [.inl v0] s =
  if v0 = 0 then
    u g_t102 70 ((u_l1 (u_l1 li 7 v0) 6 ((li 6) + (Int32.ofInt 1))), ll, [(0, 53)]) [] s
  else
    if u_in (li 6) 7 = true then
      if u_in (s.1 53 ((li 6).toNatClampNeg)) 7 = true then
        if (v0 &&& (((Int32.ofInt 1) <<< ((li 6) &&& 31)) - (Int32.ofInt 1))) = 0 then
          u g_t102 146 ((u_l1 (u_l1 li 7 v0) 5 ((li 5) ||| ((Int32.ofInt 1) <<< ((li 6) &&& 31)))), ll, [(0, 53)]) [.inl (Int32.ofInt 1)] ((y_u s.1 54 ((s.1 53 ((li 6).toNatClampNeg)).toNatClampNeg) (li 6)), s.2)
        else
          u g_t102 146 ((u_l1 (u_l1 li 7 v0) 5 ((li 5) ||| ((Int32.ofInt 1) <<< ((li 6) &&& 31)))), ll, [(0, 53)]) [.inl (Int32.ofInt 0)] ((y_u s.1 54 ((s.1 53 ((li 6).toNatClampNeg)).toNatClampNeg) (li 6)), s.2)
      else
        none
    else
      none := (u_E (5, 17, 5, 5) [11, 24, 70, 96, 146] 120 g_t102 96 _ _ _).trans rfl
set_option maxRecDepth 4000 in
theorem b_102_146 (v0 : Int32) (li : Nat → Int32) (ll : Nat → Int64) (s : u_H) : u g_t102 146 (li, ll, [(0, 53)]) [.inl v0] s =
  if v0 = 0 then
    u g_t102 70 ((u_l1 (u_l1 (u_l1 li 8 v0) 2 ((li 2) + (Int32.ofInt 0))) 6 ((li 6) + (Int32.ofInt 1))), ll, [(0, 53)]) [] s
  else
    if (li 7) = ((Int32.ofInt 1) <<< ((li 6) &&& 31)) then
      u g_t102 70 ((u_l1 (u_l1 (u_l1 li 8 v0) 2 ((li 2) + (Int32.ofInt 0))) 6 ((li 6) + (Int32.ofInt 1))), ll, [(0, 53)]) [] s
    else
      u g_t102 70 ((u_l1 (u_l1 (u_l1 li 8 v0) 2 ((li 2) + (Int32.ofInt 1))) 6 ((li 6) + (Int32.ofInt 1))), ll, [(0, 53)]) [] s := (u_E (5, 17, 5, 5) [11, 24, 70, 96, 146] 120 g_t102 146 _ _ _).trans rfl
/-! 103 GoodbyeQuay$Places.wishAmong(II)I -/
set_option maxRecDepth 4000 in
theorem b_103 (p1 : Int32) (p2 : Int32) (s : u_H) : u_c 103 [.inr (.inr 53), .inl p1, .inl p2] s =
  u g_t103 8 ((u_l1 (u_l1 (u_l1 (u_l1 (u_l1 u_z1 1 p1) 2 p2) 3 (u_k (-1))) 4 (Int32.ofInt 0)) 5 (Int32.ofInt 0)), u_z2, [(0, 53)]) [] s := (u_cE (t := g_t103) rfl _ _).trans ((u_E (5, 17, 5, 5) [8] 120 g_t103 0 _ _ _).trans rfl)
set_option maxRecDepth 4000 in
theorem b_103_8 (li : Nat → Int32) (ll : Nat → Int64) (s : u_H) : u g_t103 8 (li, ll, [(0, 53)]) [] s =
  if (li 5) < (s.1 51 3) then
    if u_in (((li 1) * (Int32.ofInt 7)) + (li 5)) 49 = true then
      u_bi (u_c 28 [.inl (li 2), .inl (li 5)] s) fun x2 s1 =>
      if x2 = 0 then
        u g_t103 8 ((u_l1 (u_l1 li 6 (s.1 52 ((((li 1) * (Int32.ofInt 7)) + (li 5)).toNatClampNeg))) 5 ((li 5) + (Int32.ofInt 1))), ll, [(0, 53)]) [] s1
      else
        if (s.1 52 ((((li 1) * (Int32.ofInt 7)) + (li 5)).toNatClampNeg)) = (u_k (-1)) then
          u g_t103 8 ((u_l1 (u_l1 li 6 (s.1 52 ((((li 1) * (Int32.ofInt 7)) + (li 5)).toNatClampNeg))) 5 ((li 5) + (Int32.ofInt 1))), ll, [(0, 53)]) [] s1
        else
          if (li 3) = (u_k (-1)) then
            u g_t103 8 ((u_l1 (u_l1 (u_l1 (u_l1 li 6 (s.1 52 ((((li 1) * (Int32.ofInt 7)) + (li 5)).toNatClampNeg))) 3 (li 5)) 4 (s.1 52 ((((li 1) * (Int32.ofInt 7)) + (li 5)).toNatClampNeg))) 5 ((li 5) + (Int32.ofInt 1))), ll, [(0, 53)]) [] s1
          else
            if (li 4) < (s.1 52 ((((li 1) * (Int32.ofInt 7)) + (li 5)).toNatClampNeg)) then
              u g_t103 8 ((u_l1 (u_l1 li 6 (s.1 52 ((((li 1) * (Int32.ofInt 7)) + (li 5)).toNatClampNeg))) 5 ((li 5) + (Int32.ofInt 1))), ll, [(0, 53)]) [] s1
            else
              u g_t103 8 ((u_l1 (u_l1 (u_l1 (u_l1 li 6 (s.1 52 ((((li 1) * (Int32.ofInt 7)) + (li 5)).toNatClampNeg))) 3 (li 5)) 4 (s.1 52 ((((li 1) * (Int32.ofInt 7)) + (li 5)).toNatClampNeg))) 5 ((li 5) + (Int32.ofInt 1))), ll, [(0, 53)]) [] s1
    else
      none
  else
    if (li 3) = (u_k (-1)) then
      some (some (.inl (li 1)), s)
    else
      some (some (.inl (li 3)), s) := (u_E (5, 17, 5, 5) [8] 120 g_t103 8 _ _ _).trans rfl
/-! 105 GoodbyeQuay$Reader.advance()V -/
set_option maxRecDepth 4000 in
theorem b_105 (s : u_H) : u_c 105 [.inr (.inr 29)] s =
  u g_t105 2 ((u_l1 u_z1 1 (Int32.ofInt 0)), u_z2, [(0, 29)]) [] s := (u_cE (t := g_t105) rfl _ _).trans ((u_E (5, 17, 5, 5) [2, 42] 120 g_t105 0 _ _ _).trans rfl)
set_option maxRecDepth 4000 in
theorem b_105_2 (li : Nat → Int32) (ll : Nat → Int64) (s : u_H) : u g_t105 2 (li, ll, [(0, 29)]) [] s =
  if (li 1) < (u_k 1600) then
    u_bi (u_c 151 [.inr (.inr 3), .inl (s.1 27 2)] s) fun x2 s1 =>
    u_bi (u_c 108 [.inl x2] s1) fun x4 s3 =>
    if x4 = 0 then
      u g_t105 42 (li, ll, [(0, 29)]) [] s3
    else
      u g_t105 2 ((u_l1 li 1 ((li 1) + (Int32.ofInt 1))), ll, [(0, 29)]) [] ((y_u s3.1 27 2 ((s3.1 27 2) + (Int32.ofInt 1))), s3.2)
  else
    u g_t105 42 (li, ll, [(0, 29)]) [] s := (u_E (5, 17, 5, 5) [2, 42] 120 g_t105 2 _ _ _).trans rfl
set_option maxRecDepth 4000 in
theorem b_105_42 (li : Nat → Int32) (ll : Nat → Int64) (s : u_H) : u g_t105 42 (li, ll, [(0, 29)]) [] s =
  u_bi (u_c 151 [.inr (.inr 3), .inl (s.1 27 2)] ((y_u s.1 27 3 (s.1 27 2)), s.2)) fun x2 s1 =>
  if x2 = (u_k (-1)) then
    some (none, ((y_u s1.1 27 4 (u_k 275)), s1.2))
  else
    u_bi (u_c 110 [.inl x2] s1) fun x4 s3 =>
    if x4 = 0 then
      u_bi (u_c 109 [.inl x2] s3) fun x6 s5 =>
      if x6 = 0 then
        u_bo (q_o1 5 x2) none fun x7 =>
        if x7 < 0 then
          u_bv (u_c 127 [.inr (.inr 29), .inl (Int32.ofInt 1)] s5) fun s8 =>
          some (none, s8)
        else
          some (none, ((y_u (y_u s5.1 27 4 x2) 27 2 ((s5.1 27 2) + (Int32.ofInt 1))), s5.2))
      else
        u_bv (u_c 128 [.inr (.inr 29)] s5) fun s9 =>
        some (none, s9)
    else
      u_bv (u_c 129 [.inr (.inr 29)] s3) fun s10 =>
      if (s10.1 27 4) = (u_k 273) then
        u_bi (u_c 112 [.inr (.inr 29)] s10) fun x12 s11 =>
        some (none, ((y_u s11.1 27 4 x12), s11.2))
      else
        some (none, ((y_u s10.1 27 4 (s10.1 27 4)), s10.2)) := (u_E (5, 17, 5, 5) [2, 42] 120 g_t105 42 _ _ _).trans rfl
/-! 106 GoodbyeQuay$Reader.expect(I)V -/
set_option maxRecDepth 4000 in
theorem b_106 (p1 : Int32) (s : u_H) : u_c 106 [.inr (.inr 29), .inl p1] s =
  if (s.1 27 8) = 0 then
    if (s.1 27 4) = p1 then
      u_bv (u_c 105 [.inr (.inr 29)] s) fun s1 =>
      some (none, s1)
    else
      u_bv (u_c 127 [.inr (.inr 29), .inl (Int32.ofInt 2)] s) fun s2 =>
      some (none, s2)
  else
    some (none, s) := (u_cE (t := g_t106) rfl _ _).trans ((u_E (5, 17, 5, 5) [] 120 g_t106 0 _ _ _).trans rfl)
/-! 107 GoodbyeQuay$Reader.find([JIJ)I -/
set_option maxRecDepth 4000 in
theorem b_107s {W : Nat} (hW : W = 5 ∨ W = 17) (p2 : Int32) (l3 : Int64) (s : u_H) : u_c 107 [.inr (.inr (W + 1)), .inl p2, .inr (.inl l3)] s =
  u g_t107 3 ((u_l1 (u_l1 u_z1 1 p2) 4 (Int32.ofInt 0)), (u_l1 u_z2 2 l3), [(0, (W + 1))]) [] s := by
  rcases hW with rfl | rfl
  · exact (u_cE (t := g_t107) rfl _ _).trans ((u_E (5, 17, 5, 5) [3] 120 g_t107 0 _ _ _).trans rfl)
  · exact (u_cE (t := g_t107) rfl _ _).trans ((u_E (17, 5, 17, 17) [3] 120 g_t107 0 _ _ _).trans rfl)
set_option maxRecDepth 4000 in
theorem b_107_3s {W : Nat} (hW : W = 5 ∨ W = 17) (li : Nat → Int32) (ll : Nat → Int64) (s : u_H) : u g_t107 3 (li, ll, [(0, (W + 1))]) [] s =
  if (li 4) < (li 1) then
    if (li 4) < (Int32.ofNat 5) then
      if u_in (li 4) 5 = true then
        if (lg_cmp (s.2.1 (W - 1) ((li 4).toNatClampNeg)) (ll 2)) = 0 then
          some (some (.inl (li 4)), s)
        else
          u g_t107 3 ((u_l1 li 4 ((li 4) + (Int32.ofInt 1))), ll, [(0, (W + 1))]) [] s
      else
        none
    else
      some (some (.inl (u_k (-1))), s)
  else
    some (some (.inl (u_k (-1))), s) := by
  rcases hW with rfl | rfl
  · exact (u_E (5, 17, 5, 5) [3] 120 g_t107 3 _ _ _).trans rfl
  · exact (u_E (17, 5, 17, 17) [3] 120 g_t107 3 _ _ _).trans rfl
set_option maxRecDepth 4000 in
theorem b_107q {W : Nat} (hW : W = 5 ∨ W = 17) (p2 : Int32) (l3 : Int64) (s : u_H) : u_c 107 [.inr (.inr (W + 4)), .inl p2, .inr (.inl l3)] s =
  u g_t107 3 ((u_l1 (u_l1 u_z1 1 p2) 4 (Int32.ofInt 0)), (u_l1 u_z2 2 l3), [(0, (W + 4))]) [] s := by
  rcases hW with rfl | rfl
  · exact (u_cE (t := g_t107) rfl _ _).trans ((u_E (5, 17, 5, 5) [3] 120 g_t107 0 _ _ _).trans rfl)
  · exact (u_cE (t := g_t107) rfl _ _).trans ((u_E (17, 5, 17, 17) [3] 120 g_t107 0 _ _ _).trans rfl)
set_option maxRecDepth 4000 in
theorem b_107_3q {W : Nat} (hW : W = 5 ∨ W = 17) (li : Nat → Int32) (ll : Nat → Int64) (s : u_H) : u g_t107 3 (li, ll, [(0, (W + 4))]) [] s =
  if (li 4) < (li 1) then
    if (li 4) < (Int32.ofNat 7) then
      if u_in (li 4) 7 = true then
        if (lg_cmp (s.2.1 (W + 2) ((li 4).toNatClampNeg)) (ll 2)) = 0 then
          some (some (.inl (li 4)), s)
        else
          u g_t107 3 ((u_l1 li 4 ((li 4) + (Int32.ofInt 1))), ll, [(0, (W + 4))]) [] s
      else
        none
    else
      some (some (.inl (u_k (-1))), s)
  else
    some (some (.inl (u_k (-1))), s) := by
  rcases hW with rfl | rfl
  · exact (u_E (5, 17, 5, 5) [3] 120 g_t107 3 _ _ _).trans rfl
  · exact (u_E (17, 5, 17, 17) [3] 120 g_t107 3 _ _ _).trans rfl
/-! 108 GoodbyeQuay$Reader.isBlank(I)Z -/
set_option maxRecDepth 4000 in
theorem b_108 (p1 : Int32) (s : u_H) : u_c 108 [.inl p1] s =
  if p1 = (Int32.ofInt 32) then
    some (some (.inl (Int32.ofInt 1)), s)
  else
    if p1 = (Int32.ofInt 10) then
      some (some (.inl (Int32.ofInt 1)), s)
    else
      some (some (.inl (Int32.ofInt 0)), s) := (u_cE (t := g_t108) rfl _ _).trans ((u_E (5, 17, 5, 5) [] 120 g_t108 0 _ _ _).trans rfl)
/-! 109 GoodbyeQuay$Reader.isDigit(I)Z -/
set_option maxRecDepth 4000 in
theorem b_109 (p1 : Int32) (s : u_H) : u_c 109 [.inl p1] s =
  if p1 < (Int32.ofInt 48) then
    some (some (.inl (Int32.ofInt 0)), s)
  else
    if (Int32.ofInt 57) < p1 then
      some (some (.inl (Int32.ofInt 0)), s)
    else
      some (some (.inl (Int32.ofInt 1)), s) := (u_cE (t := g_t109) rfl _ _).trans ((u_E (5, 17, 5, 5) [] 120 g_t109 0 _ _ _).trans rfl)
/-! 110 GoodbyeQuay$Reader.isLetter(I)Z -/
set_option maxRecDepth 4000 in
theorem b_110 (p1 : Int32) (s : u_H) : u_c 110 [.inl p1] s =
  if p1 < (Int32.ofInt 97) then
    some (some (.inl (Int32.ofInt 0)), s)
  else
    if (Int32.ofInt 122) < p1 then
      some (some (.inl (Int32.ofInt 0)), s)
    else
      some (some (.inl (Int32.ofInt 1)), s) := (u_cE (t := g_t110) rfl _ _).trans ((u_E (5, 17, 5, 5) [] 120 g_t110 0 _ _ _).trans rfl)
/-! 111 GoodbyeQuay$Reader.isValueWord(I)Z -/
set_option maxRecDepth 4000 in
theorem b_111 (p1 : Int32) (s : u_H) : u_c 111 [.inl p1] s =
  if p1 < (u_k 262) then
    some (some (.inl (Int32.ofInt 0)), s)
  else
    if (u_k 267) < p1 then
      some (some (.inl (Int32.ofInt 0)), s)
    else
      some (some (.inl (Int32.ofInt 1)), s) := (u_cE (t := g_t111) rfl _ _).trans ((u_E (5, 17, 5, 5) [] 120 g_t111 0 _ _ _).trans rfl)
/-! 112 GoodbyeQuay$Reader.kindOfWord()I -/
set_option maxRecDepth 4000 in
theorem b_112 (s : u_H) : u_c 112 [.inr (.inr 29)] s =
  u g_t112 9 ((u_l1 (u_l1 u_z1 1 (u_k 256)) 4 (Int32.ofInt 0)), (u_l1 u_z2 2 (Int64.ofNat 0)), [(0, 29)]) [] s := (u_cE (t := g_t112) rfl _ _).trans ((u_E (5, 17, 5, 5) [9] 120 g_t112 0 _ _ _).trans rfl)
set_option maxRecDepth 4000 in
theorem b_112_9 (li : Nat → Int32) (ll : Nat → Int64) (s : u_H) : u g_t112 9 (li, ll, [(0, 29)]) [] s =
  if (li 4) < (Int32.ofNat 96) then
    u_bo (q_o1 6 (li 4)) none fun x1 =>
    if x1 = (Int32.ofInt 32) then
      if (lg_cmp (ll 2) (s.2.1 27 6)) = 0 then
        some (some (.inl (li 1)), s)
      else
        u g_t112 9 ((u_l1 (u_l1 (u_l1 li 5 x1) 1 ((li 1) + (Int32.ofInt 1))) 4 ((li 4) + (Int32.ofInt 1))), (u_l1 ll 2 (Int64.ofNat 0)), [(0, 29)]) [] s
    else
      u g_t112 9 ((u_l1 (u_l1 li 5 x1) 4 ((li 4) + (Int32.ofInt 1))), (u_l1 ll 2 (((ll 2) * (u_k6 32)) + ((x1 - (Int32.ofInt 97)) + (Int32.ofInt 1)).toInt64)), [(0, 29)]) [] s
  else
    some (some (.inl (u_k 273)), s) := (u_E (5, 17, 5, 5) [9] 120 g_t112 9 _ _ _).trans rfl
/-! 113 GoodbyeQuay$Reader.readBoth(I)V -/
set_option maxRecDepth 4000 in
theorem b_113 (p1 : Int32) (s : u_H) : u_c 113 [.inr (.inr 29), .inl p1] s =
  u_bv (u_c 120 [.inr (.inr 29), .inl p1] s) fun s1 =>
  u g_t113 7 ((u_l1 (u_l1 u_z1 1 p1) 2 (Int32.ofInt 0)), u_z2, [(0, 29)]) [] s1 := (u_cE (t := g_t113) rfl _ _).trans ((u_E (5, 17, 5, 5) [7] 120 g_t113 0 _ _ _).trans rfl)
set_option maxRecDepth 4000 in
theorem b_113_7 {W : Nat} (hW : W = 5 ∨ W = 17) (li : Nat → Int32) (ll : Nat → Int64) (s : u_H) : u g_t113 7 (li, ll, [(0, 29)]) [] s =
  if (li 2) < (u_k 1600) then
    if (s.1 27 4) = (u_k 271) then
      u_bv (u_c 105 [.inr (.inr 29)] s) fun s1 =>
      u_bv (u_c 120 [.inr (.inr 29), .inl (li 1)] s1) fun s2 =>
      if s2.2.2.2.2.1 = W then
        u_bv (u_c 84 [.inr (.inr (W + 8)), .inl (u_k 10271)] s2) fun s3 =>
        u g_t113 7 ((u_l1 li 2 ((li 2) + (Int32.ofInt 1))), ll, [(0, 29)]) [] s3
      else
        u g_t113 37 (li, ll, [(0, 29)]) [.inr (.inr s2.2.2.2.2.1)] s2
    else
      some (none, s)
  else
    some (none, s) := by
  rcases hW with rfl | rfl
  · exact (u_E (5, 17, 5, 5) [7] 120 g_t113 7 _ _ _).trans rfl
  · exact (u_E (17, 5, 17, 17) [7] 120 g_t113 7 _ _ _).trans rfl
/-! 114 GoodbyeQuay$Reader.readFormula(I)V -/
set_option maxRecDepth 4000 in
theorem b_114 (p1 : Int32) (s : u_H) : u_c 114 [.inr (.inr 29), .inl p1] s =
  u_bv (u_c 113 [.inr (.inr 29), .inl p1] s) fun s1 =>
  u g_t114 7 ((u_l1 (u_l1 u_z1 1 p1) 2 (Int32.ofInt 0)), u_z2, [(0, 29)]) [] s1 := (u_cE (t := g_t114) rfl _ _).trans ((u_E (5, 17, 5, 5) [7] 120 g_t114 0 _ _ _).trans rfl)
set_option maxRecDepth 4000 in
theorem b_114_7 {W : Nat} (hW : W = 5 ∨ W = 17) (li : Nat → Int32) (ll : Nat → Int64) (s : u_H) : u g_t114 7 (li, ll, [(0, 29)]) [] s =
  if (li 2) < (u_k 1600) then
    if (s.1 27 4) = (u_k 270) then
      u_bv (u_c 105 [.inr (.inr 29)] s) fun s1 =>
      u_bv (u_c 113 [.inr (.inr 29), .inl (li 1)] s1) fun s2 =>
      if s2.2.2.2.2.1 = W then
        u_bv (u_c 84 [.inr (.inr (W + 8)), .inl (u_k 10270)] s2) fun s3 =>
        u g_t114 7 ((u_l1 li 2 ((li 2) + (Int32.ofInt 1))), ll, [(0, 29)]) [] s3
      else
        u g_t114 37 (li, ll, [(0, 29)]) [.inr (.inr s2.2.2.2.2.1)] s2
    else
      some (none, s)
  else
    some (none, s) := by
  rcases hW with rfl | rfl
  · exact (u_E (5, 17, 5, 5) [7] 120 g_t114 7 _ _ _).trans rfl
  · exact (u_E (17, 5, 17, 17) [7] 120 g_t114 7 _ _ _).trans rfl
/-! 115 GoodbyeQuay$Reader.readInto(LGoodbyeQuay$Told;)Z -/
set_option maxRecDepth 4000 in
theorem b_115 {W : Nat} (hW : W = 5 ∨ W = 17) (s : u_H) : u_c 115 [.inr (.inr 29), .inr (.inr W)] s =
  u_bv (u_c 154 [.inr (.inr W)] (s.1, s.2.1, (s.2.2.1, s.2.2.2.1, W, s.2.2.2.2.2))) fun s1 =>
  u_bv (u_c 105 [.inr (.inr 29)] ((y_u (y_u (y_u (y_u s1.1 27 2 (Int32.ofInt 0)) 27 7 (Int32.ofInt 0)) 27 8 (Int32.ofInt 0)) 27 9 (u_k (-1))), s1.2)) fun s2 =>
  u g_t115 38 ((u_l1 u_z1 2 (Int32.ofInt 0)), u_z2, [(1, W), (0, 29)]) [] s2 := by
  rcases hW with rfl | rfl
  · exact (u_cE (t := g_t115) rfl _ _).trans ((u_E (5, 17, 5, 5) [38] 120 g_t115 0 _ _ _).trans rfl)
  · exact (u_cE (t := g_t115) rfl _ _).trans ((u_E (17, 5, 17, 17) [38] 120 g_t115 0 _ _ _).trans rfl)
set_option maxRecDepth 4000 in
theorem b_115_38 {W : Nat} (hW : W = 5 ∨ W = 17) (li : Nat → Int32) (ll : Nat → Int64) (s : u_H) : u g_t115 38 (li, ll, [(1, W), (0, 29)]) [] s =
  if (li 2) < (u_k 1600) then
    if (s.1 27 8) = 0 then
      if (s.1 27 4) = (u_k 275) then
        if (s.1 27 8) = 0 then
          some (some (.inl (Int32.ofInt 1)), s)
        else
          some (some (.inl (Int32.ofInt 0)), s)
      else
        u_bv (u_c 116 [.inr (.inr 29)] s) fun s1 =>
        u g_t115 38 ((u_l1 li 2 ((li 2) + (Int32.ofInt 1))), ll, [(1, W), (0, 29)]) [] s1
    else
      if (s.1 27 8) = 0 then
        some (some (.inl (Int32.ofInt 1)), s)
      else
        some (some (.inl (Int32.ofInt 0)), s)
  else
    if (s.1 27 8) = 0 then
      some (some (.inl (Int32.ofInt 1)), s)
    else
      some (some (.inl (Int32.ofInt 0)), s) := by
  rcases hW with rfl | rfl
  · exact (u_E (5, 17, 5, 5) [38] 120 g_t115 38 _ _ _).trans rfl
  · exact (u_E (17, 5, 17, 17) [38] 120 g_t115 38 _ _ _).trans rfl
/-! 116 GoodbyeQuay$Reader.readLine()V -/
set_option maxRecDepth 4000 in
theorem b_116 (s : u_H) : u_c 116 [.inr (.inr 29)] s =
  if (s.1 27 4) = (Int32.ofInt 256) then
    u_bv (u_c 122 [.inr (.inr 29)] s) fun s1 =>
    u_bv (u_c 106 [.inr (.inr 29), .inl (Int32.ofInt 59)] s1) fun s2 =>
    some (none, s2)
  else
    if (s.1 27 4) = (Int32.ofInt 257) then
      u_bv (u_c 121 [.inr (.inr 29)] s) fun s3 =>
      u_bv (u_c 106 [.inr (.inr 29), .inl (Int32.ofInt 59)] s3) fun s4 =>
      some (none, s4)
    else
      if (s.1 27 4) = (Int32.ofInt 258) then
        u_bv (u_c 119 [.inr (.inr 29), .inl (s.1 27 4)] s) fun s5 =>
        u_bv (u_c 106 [.inr (.inr 29), .inl (Int32.ofInt 59)] s5) fun s6 =>
        some (none, s6)
      else
        if (s.1 27 4) = (Int32.ofInt 259) then
          u_bv (u_c 119 [.inr (.inr 29), .inl (s.1 27 4)] s) fun s7 =>
          u_bv (u_c 106 [.inr (.inr 29), .inl (Int32.ofInt 59)] s7) fun s8 =>
          some (none, s8)
        else
          if (s.1 27 4) = (Int32.ofInt 260) then
            u_bv (u_c 119 [.inr (.inr 29), .inl (s.1 27 4)] s) fun s9 =>
            u_bv (u_c 106 [.inr (.inr 29), .inl (Int32.ofInt 59)] s9) fun s10 =>
            some (none, s10)
          else
            if (s.1 27 4) = (Int32.ofInt 261) then
              u_bv (u_c 119 [.inr (.inr 29), .inl (s.1 27 4)] s) fun s11 =>
              u_bv (u_c 106 [.inr (.inr 29), .inl (Int32.ofInt 59)] s11) fun s12 =>
              some (none, s12)
            else
              if (s.1 27 4) = (Int32.ofInt 262) then
                u_bv (u_c 119 [.inr (.inr 29), .inl (s.1 27 4)] s) fun s13 =>
                u_bv (u_c 106 [.inr (.inr 29), .inl (Int32.ofInt 59)] s13) fun s14 =>
                some (none, s14)
              else
                u_bv (u_c 127 [.inr (.inr 29), .inl (Int32.ofInt 2)] s) fun s15 =>
                u_bv (u_c 106 [.inr (.inr 29), .inl (Int32.ofInt 59)] s15) fun s16 =>
                some (none, s16) := (u_cE (t := g_t116) rfl _ _).trans ((u_E (5, 17, 5, 5) [] 120 g_t116 0 _ _ _).trans rfl)
/-! 117 GoodbyeQuay$Reader.readNewName([JI)J -/
set_option maxRecDepth 4000 in
theorem b_117s {W : Nat} (hW : W = 5 ∨ W = 17) (p2 : Int32) (s : u_H) : u_c 117 [.inr (.inr 29), .inr (.inr (W + 1)), .inl p2] s =
  if (s.1 27 4) = (u_k 273) then
    u_bi (u_c 107 [.inr (.inr (W + 1)), .inl p2, .inr (.inl (s.2.1 27 6))] s) fun x2 s1 =>
    if x2 = (u_k (-1)) then
      u_bv (u_c 105 [.inr (.inr 29)] s1) fun s3 =>
      some (some (.inr (.inl (s.2.1 27 6))), s3)
    else
      u_bv (u_c 127 [.inr (.inr 29), .inl (Int32.ofInt 3)] s1) fun s4 =>
      some (some (.inr (.inl (s.2.1 27 6))), s4)
  else
    u_bv (u_c 127 [.inr (.inr 29), .inl (Int32.ofInt 2)] s) fun s5 =>
    some (some (.inr (.inl (Int64.ofNat 0))), s5) := by
  rcases hW with rfl | rfl
  · exact (u_cE (t := g_t117) rfl _ _).trans ((u_E (5, 17, 5, 5) [] 120 g_t117 0 _ _ _).trans rfl)
  · exact (u_cE (t := g_t117) rfl _ _).trans ((u_E (17, 5, 17, 17) [] 120 g_t117 0 _ _ _).trans rfl)
set_option maxRecDepth 4000 in
theorem b_117q {W : Nat} (hW : W = 5 ∨ W = 17) (p2 : Int32) (s : u_H) : u_c 117 [.inr (.inr 29), .inr (.inr (W + 4)), .inl p2] s =
  if (s.1 27 4) = (u_k 273) then
    u_bi (u_c 107 [.inr (.inr (W + 4)), .inl p2, .inr (.inl (s.2.1 27 6))] s) fun x2 s1 =>
    if x2 = (u_k (-1)) then
      u_bv (u_c 105 [.inr (.inr 29)] s1) fun s3 =>
      some (some (.inr (.inl (s.2.1 27 6))), s3)
    else
      u_bv (u_c 127 [.inr (.inr 29), .inl (Int32.ofInt 3)] s1) fun s4 =>
      some (some (.inr (.inl (s.2.1 27 6))), s4)
  else
    u_bv (u_c 127 [.inr (.inr 29), .inl (Int32.ofInt 2)] s) fun s5 =>
    some (some (.inr (.inl (Int64.ofNat 0))), s5) := by
  rcases hW with rfl | rfl
  · exact (u_cE (t := g_t117) rfl _ _).trans ((u_E (5, 17, 5, 5) [] 120 g_t117 0 _ _ _).trans rfl)
  · exact (u_cE (t := g_t117) rfl _ _).trans ((u_E (17, 5, 17, 17) [] 120 g_t117 0 _ _ _).trans rfl)
/-! 118 GoodbyeQuay$Reader.readNumber(II)I -/
set_option maxRecDepth 4000 in
theorem b_118 (p1 : Int32) (p2 : Int32) (s : u_H) : u_c 118 [.inr (.inr 29), .inl p1, .inl p2] s =
  if (s.1 27 4) = (u_k 274) then
    if (s.1 27 5) < p1 then
      u_bv (u_c 127 [.inr (.inr 29), .inl (Int32.ofInt 4)] s) fun s1 =>
      some (some (.inl p1), s1)
    else
      if p2 < (s.1 27 5) then
        u_bv (u_c 127 [.inr (.inr 29), .inl (Int32.ofInt 4)] s) fun s2 =>
        some (some (.inl p1), s2)
      else
        u_bv (u_c 105 [.inr (.inr 29)] s) fun s3 =>
        some (some (.inl (s.1 27 5)), s3)
  else
    u_bv (u_c 127 [.inr (.inr 29), .inl (Int32.ofInt 2)] s) fun s4 =>
    some (some (.inl p1), s4) := (u_cE (t := g_t118) rfl _ _).trans ((u_E (5, 17, 5, 5) [] 120 g_t118 0 _ _ _).trans rfl)
/-! 119 GoodbyeQuay$Reader.readOnce(I)V -/
set_option maxRecDepth 4000 in
theorem b_119 {W : Nat} (hW : W = 5 ∨ W = 17) (p1 : Int32) (s : u_H) : u_c 119 [.inr (.inr 29), .inl p1] s =
  if ((s.1 27 7) &&& ((Int32.ofInt 1) <<< ((p1 - (u_k 256)) &&& 31))) = 0 then
    u_bv (u_c 105 [.inr (.inr 29)] ((y_u s.1 27 7 ((s.1 27 7) ||| ((Int32.ofInt 1) <<< ((p1 - (u_k 256)) &&& 31)))), s.2)) fun s1 =>
    if p1 = (u_k 262) then
      if s1.2.2.2.2.1 = W then
        u_bi (u_c 118 [.inr (.inr 29), .inl (Int32.ofInt 1), .inl (Int32.ofInt 60)] s1) fun x3 s2 =>
        some (none, ((y_u s2.1 (W - 2) 9 x3), s2.2))
      else
        u g_t119 48 ((u_l1 (u_l1 u_z1 1 p1) 2 ((Int32.ofInt 1) <<< ((p1 - (u_k 256)) &&& 31))), u_z2, [(0, 29)]) [.inr (.inr s1.2.2.2.2.1)] s1
    else
      if p1 = (u_k 258) then
        if s1.2.2.2.2.1 = W then
          u_bi (u_c 118 [.inr (.inr 29), .inl (Int32.ofInt 1), .inl (Int32.ofInt 2)] s1) fun x5 s4 =>
          some (none, ((y_u s4.1 (W - 2) 10 x5), s4.2))
        else
          u g_t119 72 ((u_l1 (u_l1 u_z1 1 p1) 2 ((Int32.ofInt 1) <<< ((p1 - (u_k 256)) &&& 31))), u_z2, [(0, 29)]) [.inr (.inr s1.2.2.2.2.1)] s1
      else
        if p1 = (u_k 260) then
          if s1.2.2.2.2.1 = W then
            u_bi (u_c 118 [.inr (.inr 29), .inl (Int32.ofInt 0), .inl (Int32.ofInt 100)] s1) fun x7 s6 =>
            some (none, ((y_u s6.1 (W - 2) 11 x7), s6.2))
          else
            u g_t119 95 ((u_l1 (u_l1 u_z1 1 p1) 2 ((Int32.ofInt 1) <<< ((p1 - (u_k 256)) &&& 31))), u_z2, [(0, 29)]) [.inr (.inr s1.2.2.2.2.1)] s1
        else
          if p1 = (u_k 261) then
            if s1.2.2.2.2.1 = W then
              u_bi (u_c 118 [.inr (.inr 29), .inl (Int32.ofInt 0), .inl (u_k 999)] s1) fun x9 s8 =>
              some (none, ((y_u s8.1 (W - 2) 12 x9), s8.2))
            else
              u g_t119 119 ((u_l1 (u_l1 u_z1 1 p1) 2 ((Int32.ofInt 1) <<< ((p1 - (u_k 256)) &&& 31))), u_z2, [(0, 29)]) [.inr (.inr s1.2.2.2.2.1)] s1
          else
            u_bv (u_c 114 [.inr (.inr 29), .inl (Int32.ofInt 0)] s1) fun s10 =>
            some (none, s10)
  else
    u_bv (u_c 127 [.inr (.inr 29), .inl (Int32.ofInt 2)] s) fun s11 =>
    some (none, s11) := by
  rcases hW with rfl | rfl
  · exact (u_cE (t := g_t119) rfl _ _).trans ((u_E (5, 17, 5, 5) [] 120 g_t119 0 _ _ _).trans rfl)
  · exact (u_cE (t := g_t119) rfl _ _).trans ((u_E (17, 5, 17, 17) [] 120 g_t119 0 _ _ _).trans rfl)
/-! 120 GoodbyeQuay$Reader.readOne(I)V -/
set_option maxRecDepth 4000 in
theorem b_120 {W : Nat} (hW : W = 5 ∨ W = 17) (p1 : Int32) (s : u_H) : u_c 120 [.inr (.inr 29), .inl p1] s =
  if (s.1 27 4) = (u_k 272) then
    if p1 < (Int32.ofInt 7) then
      u_bv (u_c 105 [.inr (.inr 29)] s) fun s1 =>
      u_bv (u_c 120 [.inr (.inr 29), .inl (p1 + (Int32.ofInt 1))] s1) fun s2 =>
      if s2.2.2.2.2.1 = W then
        u_bv (u_c 84 [.inr (.inr (W + 8)), .inl (u_k 10272)] s2) fun s3 =>
        some (none, s3)
      else
        u g_t120 37 ((u_l1 u_z1 1 p1), u_z2, [(0, 29)]) [.inr (.inr s2.2.2.2.2.1)] s2
    else
      u_bv (u_c 127 [.inr (.inr 29), .inl (Int32.ofInt 2)] s) fun s4 =>
      some (none, s4)
  else
    u_bv (u_c 124 [.inr (.inr 29), .inl p1] s) fun s5 =>
    if (s5.1 27 4) = (Int32.ofInt 60) then
      u g_t120 79 ((u_l1 u_z1 1 p1), u_z2, [(0, 29)]) [] s5
    else
      if (s5.1 27 4) = (Int32.ofInt 62) then
        u g_t120 79 ((u_l1 u_z1 1 p1), u_z2, [(0, 29)]) [] s5
      else
        if (s5.1 27 4) = (Int32.ofInt 61) then
          u g_t120 79 ((u_l1 u_z1 1 p1), u_z2, [(0, 29)]) [] s5
        else
          some (none, s5) := by
  rcases hW with rfl | rfl
  · exact (u_cE (t := g_t120) rfl _ _).trans ((u_E (5, 17, 5, 5) [79] 120 g_t120 0 _ _ _).trans rfl)
  · exact (u_cE (t := g_t120) rfl _ _).trans ((u_E (17, 5, 17, 17) [79] 120 g_t120 0 _ _ _).trans rfl)
set_option maxRecDepth 4000 in
theorem b_120_79 {W : Nat} (hW : W = 5 ∨ W = 17) (li : Nat → Int32) (ll : Nat → Int64) (s : u_H) : u g_t120 79 (li, ll, [(0, 29)]) [] s =
  u_bv (u_c 105 [.inr (.inr 29)] s) fun s1 =>
  u_bv (u_c 124 [.inr (.inr 29), .inl (li 1)] s1) fun s2 =>
  if s2.2.2.2.2.1 = W then
    u_bv (u_c 84 [.inr (.inr (W + 8)), .inl ((u_k 10000) + (s.1 27 4))] s2) fun s3 =>
    some (none, s3)
  else
    u g_t120 97 ((u_l1 li 2 (s.1 27 4)), ll, [(0, 29)]) [.inr (.inr s2.2.2.2.2.1)] s2 := by
  rcases hW with rfl | rfl
  · exact (u_E (5, 17, 5, 5) [79] 120 g_t120 79 _ _ _).trans rfl
  · exact (u_E (17, 5, 17, 17) [79] 120 g_t120 79 _ _ _).trans rfl
/-! 121 GoodbyeQuay$Reader.readPair()V -/
set_option maxRecDepth 4000 in
theorem b_121 {W : Nat} (hW : W = 5 ∨ W = 17) (s : u_H) : u_c 121 [.inr (.inr 29)] s =
  if s.2.2.2.2.1 = W then
    if (s.1 (W - 2) 4) < (Int32.ofInt 7) then
      u_bv (u_c 105 [.inr (.inr 29)] s) fun s1 =>
      if s1.2.2.2.2.1 = W then
        if s1.2.2.2.2.1 = W then
          u_bl (u_c 117 [.inr (.inr 29), .inr (.inr (W + 4)), .inl (s.1 (W - 2) 4)] s1) fun x3 s2 =>
          if u_in (s.1 (W - 2) 4) 7 = true then
            u_bv (u_c 106 [.inr (.inr 29), .inl (u_k 256)] (s2.1, (y_u s2.2.1 (W + 2) ((s.1 (W - 2) 4).toNatClampNeg) x3), s2.2.2)) fun s4 =>
            if s4.2.2.2.2.1 = W then
              u_bi (u_c 123 [.inr (.inr 29)] s4) fun x6 s5 =>
              if u_in (s.1 (W - 2) 4) 7 = true then
                u_bv (u_c 106 [.inr (.inr 29), .inl (u_k 263)] ((y_u s5.1 (W + 3) ((s.1 (W - 2) 4).toNatClampNeg) x6), s5.2)) fun s7 =>
                if s7.2.2.2.2.1 = W then
                  u_bi (u_c 118 [.inr (.inr 29), .inl (Int32.ofInt 1), .inl (Int32.ofInt 30)] s7) fun x9 s8 =>
                  if u_in (s.1 (W - 2) 4) 7 = true then
                    if s8.2.2.2.2.1 = W then
                      if u_in (s.1 (W - 2) 4) 7 = true then
                        if (s8.1 27 4) = (u_k 264) then
                          u_bv (u_c 105 [.inr (.inr 29)] ((y_u (y_u s8.1 (W + 4) ((s.1 (W - 2) 4).toNatClampNeg) x9) (W + 5) ((s.1 (W - 2) 4).toNatClampNeg) (Int32.ofInt 1)), s8.2)) fun s10 =>
                          if s10.2.2.2.2.1 = W then
                            u_bi (u_c 118 [.inr (.inr 29), .inl (Int32.ofInt 0), .inl (Int32.ofInt 20)] s10) fun x12 s11 =>
                            if u_in (s.1 (W - 2) 4) 7 = true then
                              if s11.2.2.2.2.1 = W then
                                some (none, ((y_u (y_u s11.1 (W + 5) ((s.1 (W - 2) 4).toNatClampNeg) x12) (W - 2) 4 ((s11.1 (W - 2) 4) + (Int32.ofInt 1))), s11.2))
                              else
                                u g_t121 132 ((u_l1 u_z1 1 (s.1 (W - 2) 4)), u_z2, [(0, 29)]) [.inr (.inr s11.2.2.2.2.1)] ((y_u s11.1 (W + 5) ((s.1 (W - 2) 4).toNatClampNeg) x12), s11.2)
                            else
                              none
                          else
                            u g_t121 116 ((u_l1 u_z1 1 (s.1 (W - 2) 4)), u_z2, [(0, 29)]) [.inr (.inr s10.2.2.2.2.1)] s10
                        else
                          if s8.2.2.2.2.1 = W then
                            some (none, ((y_u (y_u (y_u s8.1 (W + 4) ((s.1 (W - 2) 4).toNatClampNeg) x9) (W + 5) ((s.1 (W - 2) 4).toNatClampNeg) (Int32.ofInt 1)) (W - 2) 4 ((s8.1 (W - 2) 4) + (Int32.ofInt 1))), s8.2))
                          else
                            u g_t121 132 ((u_l1 u_z1 1 (s.1 (W - 2) 4)), u_z2, [(0, 29)]) [.inr (.inr s8.2.2.2.2.1)] ((y_u (y_u s8.1 (W + 4) ((s.1 (W - 2) 4).toNatClampNeg) x9) (W + 5) ((s.1 (W - 2) 4).toNatClampNeg) (Int32.ofInt 1)), s8.2)
                      else
                        none
                    else
                      u g_t121 92 ((u_l1 u_z1 1 (s.1 (W - 2) 4)), u_z2, [(0, 29)]) [.inr (.inr s8.2.2.2.2.1)] ((y_u s8.1 (W + 4) ((s.1 (W - 2) 4).toNatClampNeg) x9), s8.2)
                  else
                    none
                else
                  u g_t121 76 ((u_l1 u_z1 1 (s.1 (W - 2) 4)), u_z2, [(0, 29)]) [.inr (.inr s7.2.2.2.2.1)] s7
              else
                none
            else
              u g_t121 56 ((u_l1 u_z1 1 (s.1 (W - 2) 4)), u_z2, [(0, 29)]) [.inr (.inr s4.2.2.2.2.1)] s4
          else
            none
        else
          u g_t121 37 ((u_l1 u_z1 1 (s.1 (W - 2) 4)), u_z2, [(0, 29)]) [.inr (.inr s1.2.2.2.2.1), .inr (.inr 29), .inl (s.1 (W - 2) 4), .inr (.inr (W + 4))] s1
      else
        u g_t121 28 ((u_l1 u_z1 1 (s.1 (W - 2) 4)), u_z2, [(0, 29)]) [.inr (.inr s1.2.2.2.2.1)] s1
    else
      u_bv (u_c 127 [.inr (.inr 29), .inl (Int32.ofInt 2)] s) fun s13 =>
      some (none, s13)
  else
    u g_t121 4 (u_z1, u_z2, [(0, 29)]) [.inr (.inr s.2.2.2.2.1)] s := by
  rcases hW with rfl | rfl
  · exact (u_cE (t := g_t121) rfl _ _).trans ((u_E (5, 17, 5, 5) [] 120 g_t121 0 _ _ _).trans rfl)
  · exact (u_cE (t := g_t121) rfl _ _).trans ((u_E (17, 5, 17, 17) [] 120 g_t121 0 _ _ _).trans rfl)
/-! 122 GoodbyeQuay$Reader.readShip()V -/
set_option maxRecDepth 4000 in
theorem b_122 {W : Nat} (hW : W = 5 ∨ W = 17) (s : u_H) : u_c 122 [.inr (.inr 29)] s =
  if s.2.2.2.2.1 = W then
    if (s.1 (W - 2) 0) < (Int32.ofInt 5) then
      u_bv (u_c 105 [.inr (.inr 29)] s) fun s1 =>
      if s1.2.2.2.2.1 = W then
        if s1.2.2.2.2.1 = W then
          u_bl (u_c 117 [.inr (.inr 29), .inr (.inr (W + 1)), .inl (s.1 (W - 2) 0)] s1) fun x3 s2 =>
          if u_in (s.1 (W - 2) 0) 5 = true then
            u_bv (u_c 106 [.inr (.inr 29), .inl (u_k 268)] (s2.1, (y_u s2.2.1 (W - 1) ((s.1 (W - 2) 0).toNatClampNeg) x3), s2.2.2)) fun s4 =>
            if s4.2.2.2.2.1 = W then
              u_bi (u_c 118 [.inr (.inr 29), .inl (Int32.ofInt 0), .inl (u_k 240)] s4) fun x6 s5 =>
              if u_in (s.1 (W - 2) 0) 5 = true then
                if s5.2.2.2.2.1 = W then
                  if u_in (s.1 (W - 2) 0) 5 = true then
                    if (s5.1 27 4) = (u_k 269) then
                      u_bv (u_c 105 [.inr (.inr 29)] ((y_u (y_u s5.1 W ((s.1 (W - 2) 0).toNatClampNeg) x6) (W + 1) ((s.1 (W - 2) 0).toNatClampNeg) (Int32.ofInt 0)), s5.2)) fun s7 =>
                      if s7.2.2.2.2.1 = W then
                        u_bi (u_c 118 [.inr (.inr 29), .inl (Int32.ofInt 0), .inl (Int32.ofInt 60)] s7) fun x9 s8 =>
                        if u_in (s.1 (W - 2) 0) 5 = true then
                          if s8.2.2.2.2.1 = W then
                            some (none, ((y_u (y_u s8.1 (W + 1) ((s.1 (W - 2) 0).toNatClampNeg) x9) (W - 2) 0 ((s8.1 (W - 2) 0) + (Int32.ofInt 1))), s8.2))
                          else
                            u g_t122 112 ((u_l1 u_z1 1 (s.1 (W - 2) 0)), u_z2, [(0, 29)]) [.inr (.inr s8.2.2.2.2.1)] ((y_u s8.1 (W + 1) ((s.1 (W - 2) 0).toNatClampNeg) x9), s8.2)
                        else
                          none
                      else
                        u g_t122 96 ((u_l1 u_z1 1 (s.1 (W - 2) 0)), u_z2, [(0, 29)]) [.inr (.inr s7.2.2.2.2.1)] s7
                    else
                      if s5.2.2.2.2.1 = W then
                        some (none, ((y_u (y_u (y_u s5.1 W ((s.1 (W - 2) 0).toNatClampNeg) x6) (W + 1) ((s.1 (W - 2) 0).toNatClampNeg) (Int32.ofInt 0)) (W - 2) 0 ((s5.1 (W - 2) 0) + (Int32.ofInt 1))), s5.2))
                      else
                        u g_t122 112 ((u_l1 u_z1 1 (s.1 (W - 2) 0)), u_z2, [(0, 29)]) [.inr (.inr s5.2.2.2.2.1)] ((y_u (y_u s5.1 W ((s.1 (W - 2) 0).toNatClampNeg) x6) (W + 1) ((s.1 (W - 2) 0).toNatClampNeg) (Int32.ofInt 0)), s5.2)
                  else
                    none
                else
                  u g_t122 72 ((u_l1 u_z1 1 (s.1 (W - 2) 0)), u_z2, [(0, 29)]) [.inr (.inr s5.2.2.2.2.1)] ((y_u s5.1 W ((s.1 (W - 2) 0).toNatClampNeg) x6), s5.2)
              else
                none
            else
              u g_t122 55 ((u_l1 u_z1 1 (s.1 (W - 2) 0)), u_z2, [(0, 29)]) [.inr (.inr s4.2.2.2.2.1)] s4
          else
            none
        else
          u g_t122 36 ((u_l1 u_z1 1 (s.1 (W - 2) 0)), u_z2, [(0, 29)]) [.inr (.inr s1.2.2.2.2.1), .inr (.inr 29), .inl (s.1 (W - 2) 0), .inr (.inr (W + 1))] s1
      else
        u g_t122 27 ((u_l1 u_z1 1 (s.1 (W - 2) 0)), u_z2, [(0, 29)]) [.inr (.inr s1.2.2.2.2.1)] s1
    else
      u_bv (u_c 127 [.inr (.inr 29), .inl (Int32.ofInt 2)] s) fun s10 =>
      some (none, s10)
  else
    u g_t122 4 (u_z1, u_z2, [(0, 29)]) [.inr (.inr s.2.2.2.2.1)] s := by
  rcases hW with rfl | rfl
  · exact (u_cE (t := g_t122) rfl _ _).trans ((u_E (5, 17, 5, 5) [] 120 g_t122 0 _ _ _).trans rfl)
  · exact (u_cE (t := g_t122) rfl _ _).trans ((u_E (17, 5, 17, 17) [] 120 g_t122 0 _ _ _).trans rfl)
/-! 123 GoodbyeQuay$Reader.readShipName()I -/
set_option maxRecDepth 4000 in
theorem b_123 {W : Nat} (hW : W = 5 ∨ W = 17) (s : u_H) : u_c 123 [.inr (.inr 29)] s =
  if (s.1 27 4) = (u_k 273) then
    if s.2.2.2.2.1 = W then
      if s.2.2.2.2.1 = W then
        u_bi (u_c 107 [.inr (.inr (W + 1)), .inl (s.1 (W - 2) 0), .inr (.inl (s.2.1 27 6))] s) fun x2 s1 =>
        if x2 = (u_k (-1)) then
          u_bv (u_c 127 [.inr (.inr 29), .inl (Int32.ofInt 5)] s1) fun s3 =>
          some (some (.inl (Int32.ofInt 0)), s3)
        else
          u_bv (u_c 105 [.inr (.inr 29)] s1) fun s4 =>
          some (some (.inl x2), s4)
      else
        u g_t123 28 (u_z1, u_z2, [(0, 29)]) [.inr (.inr s.2.2.2.2.1), .inr (.inr (W + 1))] s
    else
      u g_t123 21 (u_z1, u_z2, [(0, 29)]) [.inr (.inr s.2.2.2.2.1)] s
  else
    u_bv (u_c 127 [.inr (.inr 29), .inl (Int32.ofInt 2)] s) fun s5 =>
    some (some (.inl (Int32.ofInt 0)), s5) := by
  rcases hW with rfl | rfl
  · exact (u_cE (t := g_t123) rfl _ _).trans ((u_E (5, 17, 5, 5) [] 120 g_t123 0 _ _ _).trans rfl)
  · exact (u_cE (t := g_t123) rfl _ _).trans ((u_E (17, 5, 17, 17) [] 120 g_t123 0 _ _ _).trans rfl)
/-! 124 GoodbyeQuay$Reader.readSum(I)V -/
set_option maxRecDepth 4000 in
theorem b_124 (p1 : Int32) (s : u_H) : u_c 124 [.inr (.inr 29), .inl p1] s =
  u_bv (u_c 125 [.inr (.inr 29), .inl p1] s) fun s1 =>
  u g_t124 7 ((u_l1 (u_l1 u_z1 1 p1) 2 (Int32.ofInt 0)), u_z2, [(0, 29)]) [] s1 := (u_cE (t := g_t124) rfl _ _).trans ((u_E (5, 17, 5, 5) [7, 32] 120 g_t124 0 _ _ _).trans rfl)
set_option maxRecDepth 4000 in
theorem b_124_7 (li : Nat → Int32) (ll : Nat → Int64) (s : u_H) : u g_t124 7 (li, ll, [(0, 29)]) [] s =
  if (li 2) < (u_k 1600) then
    if (s.1 27 4) = (Int32.ofInt 43) then
      u g_t124 32 (li, ll, [(0, 29)]) [] s
    else
      if (s.1 27 4) = (Int32.ofInt 45) then
        u g_t124 32 (li, ll, [(0, 29)]) [] s
      else
        some (none, s)
  else
    some (none, s) := (u_E (5, 17, 5, 5) [7, 32] 120 g_t124 7 _ _ _).trans rfl
set_option maxRecDepth 4000 in
theorem b_124_32 {W : Nat} (hW : W = 5 ∨ W = 17) (li : Nat → Int32) (ll : Nat → Int64) (s : u_H) : u g_t124 32 (li, ll, [(0, 29)]) [] s =
  u_bv (u_c 105 [.inr (.inr 29)] s) fun s1 =>
  u_bv (u_c 125 [.inr (.inr 29), .inl (li 1)] s1) fun s2 =>
  if s2.2.2.2.2.1 = W then
    u_bv (u_c 84 [.inr (.inr (W + 8)), .inl ((u_k 10000) + (s.1 27 4))] s2) fun s3 =>
    u g_t124 7 ((u_l1 (u_l1 li 3 (s.1 27 4)) 2 ((li 2) + (Int32.ofInt 1))), ll, [(0, 29)]) [] s3
  else
    u g_t124 50 ((u_l1 li 3 (s.1 27 4)), ll, [(0, 29)]) [.inr (.inr s2.2.2.2.2.1)] s2 := by
  rcases hW with rfl | rfl
  · exact (u_E (5, 17, 5, 5) [7, 32] 120 g_t124 32 _ _ _).trans rfl
  · exact (u_E (17, 5, 17, 17) [7, 32] 120 g_t124 32 _ _ _).trans rfl
/-! 125 GoodbyeQuay$Reader.readTerm(I)V -/
set_option maxRecDepth 4000 in
theorem b_125 (p1 : Int32) (s : u_H) : u_c 125 [.inr (.inr 29), .inl p1] s =
  u_bv (u_c 126 [.inr (.inr 29), .inl p1] s) fun s1 =>
  u g_t125 7 ((u_l1 (u_l1 u_z1 1 p1) 2 (Int32.ofInt 0)), u_z2, [(0, 29)]) [] s1 := (u_cE (t := g_t125) rfl _ _).trans ((u_E (5, 17, 5, 5) [7, 41] 120 g_t125 0 _ _ _).trans rfl)
set_option maxRecDepth 4000 in
theorem b_125_7 (li : Nat → Int32) (ll : Nat → Int64) (s : u_H) : u g_t125 7 (li, ll, [(0, 29)]) [] s =
  if (li 2) < (u_k 1600) then
    if (s.1 27 4) = (Int32.ofInt 42) then
      u g_t125 41 (li, ll, [(0, 29)]) [] s
    else
      if (s.1 27 4) = (Int32.ofInt 47) then
        u g_t125 41 (li, ll, [(0, 29)]) [] s
      else
        if (s.1 27 4) = (Int32.ofInt 37) then
          u g_t125 41 (li, ll, [(0, 29)]) [] s
        else
          some (none, s)
  else
    some (none, s) := (u_E (5, 17, 5, 5) [7, 41] 120 g_t125 7 _ _ _).trans rfl
set_option maxRecDepth 4000 in
theorem b_125_41 {W : Nat} (hW : W = 5 ∨ W = 17) (li : Nat → Int32) (ll : Nat → Int64) (s : u_H) : u g_t125 41 (li, ll, [(0, 29)]) [] s =
  u_bv (u_c 105 [.inr (.inr 29)] s) fun s1 =>
  u_bv (u_c 126 [.inr (.inr 29), .inl (li 1)] s1) fun s2 =>
  if s2.2.2.2.2.1 = W then
    u_bv (u_c 84 [.inr (.inr (W + 8)), .inl ((u_k 10000) + (s.1 27 4))] s2) fun s3 =>
    u g_t125 7 ((u_l1 (u_l1 li 3 (s.1 27 4)) 2 ((li 2) + (Int32.ofInt 1))), ll, [(0, 29)]) [] s3
  else
    u g_t125 59 ((u_l1 li 3 (s.1 27 4)), ll, [(0, 29)]) [.inr (.inr s2.2.2.2.2.1)] s2 := by
  rcases hW with rfl | rfl
  · exact (u_E (5, 17, 5, 5) [7, 41] 120 g_t125 41 _ _ _).trans rfl
  · exact (u_E (17, 5, 17, 17) [7, 41] 120 g_t125 41 _ _ _).trans rfl
/-! 126 GoodbyeQuay$Reader.readUnit(I)V -/
set_option maxRecDepth 4000 in
theorem b_126 (p1 : Int32) (s : u_H) : u_c 126 [.inr (.inr 29), .inl p1] s =
  if (s.1 27 4) = (Int32.ofInt 40) then
    u g_t126 14 ((u_l1 u_z1 1 p1), u_z2, [(0, 29)]) [.inl (Int32.ofInt 1)] s
  else
    u g_t126 14 ((u_l1 u_z1 1 p1), u_z2, [(0, 29)]) [.inl (Int32.ofInt 0)] s := (u_cE (t := g_t126) rfl _ _).trans ((u_E (5, 17, 5, 5) [14, 44, 80] 120 g_t126 0 _ _ _).trans rfl)
set_option maxRecDepth 4000 in
theorem b_126_14 (v0 : Int32) (li : Nat → Int32) (ll : Nat → Int64) (s : u_H) : u g_t126 14 (li, ll, [(0, 29)]) [.inl v0] s =
  if v0 = 0 then
    if (s.1 27 4) = (u_k 274) then
      u g_t126 44 ((u_l1 li 2 v0), ll, [(0, 29)]) [.inl (Int32.ofInt 1)] s
    else
      u_bi (u_c 111 [.inl (s.1 27 4)] s) fun x2 s1 =>
      if x2 = 0 then
        u g_t126 44 ((u_l1 li 2 v0), ll, [(0, 29)]) [.inl (Int32.ofInt 0)] s1
      else
        u g_t126 44 ((u_l1 li 2 v0), ll, [(0, 29)]) [.inl (Int32.ofInt 1)] s1
  else
    u g_t126 44 ((u_l1 li 2 v0), ll, [(0, 29)]) [.inl (Int32.ofInt 1)] s := (u_E (5, 17, 5, 5) [14, 44, 80] 120 g_t126 14 _ _ _).trans rfl
set_option maxRecDepth 4000 in
theorem b_126_44 {W : Nat} (hW : W = 5 ∨ W = 17) (v0 : Int32) (li : Nat → Int32) (ll : Nat → Int64) (s : u_H) : u g_t126 44 (li, ll, [(0, 29)]) [.inl v0] s =
  if v0 = 0 then
    u_bv (u_c 127 [.inr (.inr 29), .inl (Int32.ofInt 2)] s) fun s1 =>
    some (none, s1)
  else
    if s.2.2.2.2.1 = W then
      if (s.1 (W + 6) 4) < (Int32.ofInt 30) then
        if (li 2) = 0 then
          u g_t126 80 ((u_l1 li 3 v0), ll, [(0, 29)]) [] s
        else
          if (li 1) < (Int32.ofInt 7) then
            u g_t126 80 ((u_l1 li 3 v0), ll, [(0, 29)]) [] s
          else
            u_bv (u_c 127 [.inr (.inr 29), .inl (Int32.ofInt 2)] s) fun s2 =>
            some (none, s2)
      else
        u_bv (u_c 127 [.inr (.inr 29), .inl (Int32.ofInt 2)] s) fun s3 =>
        some (none, s3)
    else
      u g_t126 53 ((u_l1 li 3 v0), ll, [(0, 29)]) [.inr (.inr s.2.2.2.2.1)] s := by
  rcases hW with rfl | rfl
  · exact (u_E (5, 17, 5, 5) [14, 44, 80] 120 g_t126 44 _ _ _).trans rfl
  · exact (u_E (17, 5, 17, 17) [14, 44, 80] 120 g_t126 44 _ _ _).trans rfl
set_option maxRecDepth 4000 in
theorem b_126_80 {W : Nat} (hW : W = 5 ∨ W = 17) (li : Nat → Int32) (ll : Nat → Int64) (s : u_H) : u g_t126 80 (li, ll, [(0, 29)]) [] s =
  if s.2.2.2.2.1 = W then
    if (li 2) = 0 then
      if s.2.2.2.2.1 = W then
        if (s.1 27 4) = (u_k 274) then
          u_bv (u_c 84 [.inr (.inr (W + 8)), .inl (s.1 27 5)] ((y_u s.1 (W + 6) 4 ((s.1 (W + 6) 4) + (Int32.ofInt 1))), s.2)) fun s1 =>
          u_bv (u_c 105 [.inr (.inr 29)] s1) fun s2 =>
          some (none, s2)
        else
          u_bv (u_c 84 [.inr (.inr (W + 8)), .inl ((u_k (-1)) - ((s.1 27 4) - (u_k 262)))] ((y_u s.1 (W + 6) 4 ((s.1 (W + 6) 4) + (Int32.ofInt 1))), s.2)) fun s3 =>
          u_bv (u_c 105 [.inr (.inr 29)] s3) fun s4 =>
          some (none, s4)
      else
        u g_t126 130 (li, ll, [(0, 29)]) [.inr (.inr s.2.2.2.2.1)] ((y_u s.1 (W + 6) 4 ((s.1 (W + 6) 4) + (Int32.ofInt 1))), s.2)
    else
      u_bv (u_c 105 [.inr (.inr 29)] ((y_u s.1 (W + 6) 4 ((s.1 (W + 6) 4) + (Int32.ofInt 1))), s.2)) fun s5 =>
      u_bv (u_c 114 [.inr (.inr 29), .inl ((li 1) + (Int32.ofInt 1))] s5) fun s6 =>
      if (s6.1 27 4) = (Int32.ofInt 41) then
        u_bv (u_c 105 [.inr (.inr 29)] s6) fun s7 =>
        some (none, s7)
      else
        u_bv (u_c 127 [.inr (.inr 29), .inl (Int32.ofInt 2)] s6) fun s8 =>
        some (none, s8)
  else
    u g_t126 84 (li, ll, [(0, 29)]) [.inr (.inr s.2.2.2.2.1)] s := by
  rcases hW with rfl | rfl
  · exact (u_E (5, 17, 5, 5) [14, 44, 80] 120 g_t126 80 _ _ _).trans rfl
  · exact (u_E (17, 5, 17, 17) [14, 44, 80] 120 g_t126 80 _ _ _).trans rfl
/-! 127 GoodbyeQuay$Reader.refuse(I)V -/
set_option maxRecDepth 4000 in
theorem b_127 (p1 : Int32) (s : u_H) : u_c 127 [.inr (.inr 29), .inl p1] s =
  if (s.1 27 8) = 0 then
    some (none, ((y_u (y_u (y_u s.1 27 8 p1) 27 9 (s.1 27 3)) 27 4 (u_k 276)), s.2))
  else
    some (none, ((y_u s.1 27 4 (u_k 276)), s.2)) := (u_cE (t := g_t127) rfl _ _).trans ((u_E (5, 17, 5, 5) [] 120 g_t127 0 _ _ _).trans rfl)
/-! 128 GoodbyeQuay$Reader.takeNumber()V -/
set_option maxRecDepth 4000 in
theorem b_128 (s : u_H) : u_c 128 [.inr (.inr 29)] s =
  u g_t128 7 ((u_l1 u_z1 1 (Int32.ofInt 0)), u_z2, [(0, 29)]) [] ((y_u s.1 27 5 (Int32.ofInt 0)), s.2) := (u_cE (t := g_t128) rfl _ _).trans ((u_E (5, 17, 5, 5) [7, 73] 120 g_t128 0 _ _ _).trans rfl)
set_option maxRecDepth 4000 in
theorem b_128_7 (li : Nat → Int32) (ll : Nat → Int64) (s : u_H) : u g_t128 7 (li, ll, [(0, 29)]) [] s =
  if (li 1) < (u_k 1600) then
    u_bi (u_c 151 [.inr (.inr 3), .inl (s.1 27 2)] s) fun x2 s1 =>
    u_bi (u_c 109 [.inl x2] s1) fun x4 s3 =>
    if x4 = 0 then
      u g_t128 73 (li, ll, [(0, 29)]) [] s3
    else
      u_bi (u_c 151 [.inr (.inr 3), .inl (s3.1 27 2)] s3) fun x6 s5 =>
      u g_t128 7 ((u_l1 li 1 ((li 1) + (Int32.ofInt 1))), ll, [(0, 29)]) [] ((y_u (y_u s5.1 27 5 (((s3.1 27 5) * (Int32.ofInt 10)) + (x6 - (Int32.ofInt 48)))) 27 2 ((s5.1 27 2) + (Int32.ofInt 1))), s5.2)
  else
    u g_t128 73 (li, ll, [(0, 29)]) [] s := (u_E (5, 17, 5, 5) [7, 73] 120 g_t128 7 _ _ _).trans rfl
set_option maxRecDepth 4000 in
theorem b_128_73 (li : Nat → Int32) (ll : Nat → Int64) (s : u_H) : u g_t128 73 (li, ll, [(0, 29)]) [] s =
  if (Int32.ofInt 4) < ((s.1 27 2) - (s.1 27 3)) then
    u_bv (u_c 127 [.inr (.inr 29), .inl (Int32.ofInt 1)] s) fun s1 =>
    some (none, s1)
  else
    u_bi (u_c 151 [.inr (.inr 3), .inl (s.1 27 2)] s) fun x3 s2 =>
    u_bi (u_c 110 [.inl x3] s2) fun x5 s4 =>
    if x5 = 0 then
      some (none, ((y_u s4.1 27 4 (u_k 274)), s4.2))
    else
      u_bv (u_c 127 [.inr (.inr 29), .inl (Int32.ofInt 1)] s4) fun s6 =>
      some (none, s6) := (u_E (5, 17, 5, 5) [7, 73] 120 g_t128 73 _ _ _).trans rfl
/-! 129 GoodbyeQuay$Reader.takeWord()V -/
set_option maxRecDepth 4000 in
theorem b_129 (s : u_H) : u_c 129 [.inr (.inr 29)] s =
  u g_t129 7 ((u_l1 u_z1 1 (Int32.ofInt 0)), u_z2, [(0, 29)]) [] (s.1, (y_u s.2.1 27 6 (Int64.ofNat 0)), s.2.2) := (u_cE (t := g_t129) rfl _ _).trans ((u_E (5, 17, 5, 5) [7, 77] 120 g_t129 0 _ _ _).trans rfl)
set_option maxRecDepth 4000 in
theorem b_129_7 (li : Nat → Int32) (ll : Nat → Int64) (s : u_H) : u g_t129 7 (li, ll, [(0, 29)]) [] s =
  if (li 1) < (u_k 1600) then
    u_bi (u_c 151 [.inr (.inr 3), .inl (s.1 27 2)] s) fun x2 s1 =>
    u_bi (u_c 110 [.inl x2] s1) fun x4 s3 =>
    if x4 = 0 then
      u g_t129 77 (li, ll, [(0, 29)]) [] s3
    else
      u_bi (u_c 151 [.inr (.inr 3), .inl (s3.1 27 2)] s3) fun x6 s5 =>
      u g_t129 7 ((u_l1 li 1 ((li 1) + (Int32.ofInt 1))), ll, [(0, 29)]) [] ((y_u s5.1 27 2 ((s5.1 27 2) + (Int32.ofInt 1))), (y_u s5.2.1 27 6 (((s3.2.1 27 6) * (u_k6 32)) + ((x6 - (Int32.ofInt 97)) + (Int32.ofInt 1)).toInt64)), s5.2.2)
  else
    u g_t129 77 (li, ll, [(0, 29)]) [] s := (u_E (5, 17, 5, 5) [7, 77] 120 g_t129 7 _ _ _).trans rfl
set_option maxRecDepth 4000 in
theorem b_129_77 (li : Nat → Int32) (ll : Nat → Int64) (s : u_H) : u g_t129 77 (li, ll, [(0, 29)]) [] s =
  if (Int32.ofInt 8) < ((s.1 27 2) - (s.1 27 3)) then
    u_bv (u_c 127 [.inr (.inr 29), .inl (Int32.ofInt 1)] s) fun s1 =>
    some (none, s1)
  else
    some (none, ((y_u s.1 27 4 (u_k 273)), s.2)) := (u_E (5, 17, 5, 5) [7, 77] 120 g_t129 77 _ _ _).trans rfl
/-! 131 GoodbyeQuay$Sight.fitting(I)I -/
set_option maxRecDepth 4000 in
theorem b_131 (p1 : Int32) (s : u_H) : u_c 131 [.inr (.inr 57), .inl p1] s =
  u g_t131 4 ((u_l1 (u_l1 (u_l1 u_z1 1 p1) 2 (Int32.ofInt 0)) 3 (Int32.ofInt 0)), u_z2, [(0, 57)]) [] s := (u_cE (t := g_t131) rfl _ _).trans ((u_E (5, 17, 5, 5) [4] 120 g_t131 0 _ _ _).trans rfl)
set_option maxRecDepth 4000 in
theorem b_131_4 (li : Nat → Int32) (ll : Nat → Int64) (s : u_H) : u g_t131 4 (li, ll, [(0, 57)]) [] s =
  if (li 3) < (Int32.ofInt 30) then
    if 0 < (s.1 55 2) then
      u_bi (u_c 132 [.inr (.inr 57), .inl (li 3), .inl (li 1)] s) fun x2 s1 =>
      if x2 = 0 then
        u g_t131 4 ((u_l1 (u_l1 li 2 ((li 2) ||| (Int32.ofInt 0))) 3 ((li 3) + (Int32.ofInt 1))), ll, [(0, 57)]) [] s1
      else
        u g_t131 4 ((u_l1 (u_l1 li 2 ((li 2) ||| ((Int32.ofInt 1) <<< ((li 3) &&& 31)))) 3 ((li 3) + (Int32.ofInt 1))), ll, [(0, 57)]) [] s1
    else
      some (some (.inl (li 2)), s)
  else
    some (some (.inl (li 2)), s) := (u_E (5, 17, 5, 5) [4] 120 g_t131 4 _ _ _).trans rfl
/-! 132 GoodbyeQuay$Sight.isFitting(II)Z -/
set_option maxRecDepth 4000 in
theorem b_132 (p1 : Int32) (p2 : Int32) (s : u_H) : u_c 132 [.inr (.inr 57), .inl p1, .inl p2] s =
  u g_t132 2 ((u_l1 (u_l1 (u_l1 u_z1 1 p1) 2 p2) 3 (Int32.ofInt 0)), u_z2, [(0, 57)]) [] s := (u_cE (t := g_t132) rfl _ _).trans ((u_E (5, 17, 5, 5) [2, 35, 57] 120 g_t132 0 _ _ _).trans rfl)
set_option maxRecDepth 4000 in
theorem b_132_2 (li : Nat → Int32) (ll : Nat → Int64) (s : u_H) : u g_t132 2 (li, ll, [(0, 57)]) [] s =
  if (li 3) < (s.1 55 1) then
    if u_in (li 3) 30 = true then
      if (s.1 60 ((li 3).toNatClampNeg)) = (u_k (-1)) then
        u g_t132 35 (li, ll, [(0, 57)]) [.inl (Int32.ofInt 0)] s
      else
        if u_in (li 3) 30 = true then
          if (li 2) < (s.1 60 ((li 3).toNatClampNeg)) then
            u g_t132 35 (li, ll, [(0, 57)]) [.inl (Int32.ofInt 0)] s
          else
            u g_t132 35 (li, ll, [(0, 57)]) [.inl (Int32.ofInt 1)] s
        else
          none
    else
      none
  else
    some (some (.inl (Int32.ofInt 1)), s) := (u_E (5, 17, 5, 5) [2, 35, 57] 120 g_t132 2 _ _ _).trans rfl
set_option maxRecDepth 4000 in
theorem b_132_35 (v0 : Int32) (li : Nat → Int32) (ll : Nat → Int64) (s : u_H) : u g_t132 35 (li, ll, [(0, 57)]) [.inl v0] s =
  if u_in (li 3) 30 = true then
    if (li 2) < (s.1 59 ((li 3).toNatClampNeg)) then
      u g_t132 57 ((u_l1 li 4 v0), ll, [(0, 57)]) [.inl (Int32.ofInt 0)] s
    else
      if v0 = 0 then
        u g_t132 57 ((u_l1 li 4 v0), ll, [(0, 57)]) [.inl (Int32.ofInt 1)] s
      else
        u g_t132 57 ((u_l1 li 4 v0), ll, [(0, 57)]) [.inl (Int32.ofInt 0)] s
  else
    none := (u_E (5, 17, 5, 5) [2, 35, 57] 120 g_t132 35 _ _ _).trans rfl
set_option maxRecDepth 4000 in
theorem b_132_57 (v0 : Int32) (li : Nat → Int32) (ll : Nat → Int64) (s : u_H) : u g_t132 57 (li, ll, [(0, 57)]) [.inl v0] s =
  if v0 = 0 then
    u g_t132 2 ((u_l1 (u_l1 li 5 v0) 3 ((li 3) + (Int32.ofInt 1))), ll, [(0, 57)]) [] s
  else
    if u_in (li 3) 30 = true then
      u_bi (u_c 135 [.inr (.inr 57), .inl (li 1), .inl (s.1 56 ((li 3).toNatClampNeg))] s) fun x2 s1 =>
      if u_in (li 3) 30 = true then
        if x2 < (s1.1 57 ((li 3).toNatClampNeg)) then
          if u_in (li 3) 30 = true then
            if (Int32.ofInt 0) = (s1.1 58 ((li 3).toNatClampNeg)) then
              u g_t132 2 ((u_l1 (u_l1 li 5 v0) 3 ((li 3) + (Int32.ofInt 1))), ll, [(0, 57)]) [] s1
            else
              some (some (.inl (Int32.ofInt 0)), s1)
          else
            none
        else
          if u_in (li 3) 30 = true then
            if (Int32.ofInt 1) = (s1.1 58 ((li 3).toNatClampNeg)) then
              u g_t132 2 ((u_l1 (u_l1 li 5 v0) 3 ((li 3) + (Int32.ofInt 1))), ll, [(0, 57)]) [] s1
            else
              some (some (.inl (Int32.ofInt 0)), s1)
          else
            none
      else
        none
    else
      none := (u_E (5, 17, 5, 5) [2, 35, 57] 120 g_t132 57 _ _ _).trans rfl
/-! 133 GoodbyeQuay$Sight.mostAlike(II)I -/
set_option maxRecDepth 4000 in
theorem b_133 (p1 : Int32) (p2 : Int32) (s : u_H) : u_c 133 [.inr (.inr 57), .inl p1, .inl p2] s =
  u g_t133 2 ((u_l1 (u_l1 (u_l1 u_z1 1 p1) 2 p2) 3 (Int32.ofInt 0)), u_z2, [(0, 57)]) [] s := (u_cE (t := g_t133) rfl _ _).trans ((u_E (5, 17, 5, 5) [2, 26] 120 g_t133 0 _ _ _).trans rfl)
set_option maxRecDepth 4000 in
theorem b_133_2 (li : Nat → Int32) (ll : Nat → Int64) (s : u_H) : u g_t133 2 (li, ll, [(0, 57)]) [] s =
  if (Int32.ofInt 7) < (li 3) then
    u g_t133 26 ((u_l1 (u_l1 li 3 (Int32.ofInt 0)) 4 (Int32.ofInt 0)), ll, [(0, 57)]) [] s
  else
    if u_in (li 3) 8 = true then
      u g_t133 2 ((u_l1 li 3 ((li 3) + (Int32.ofInt 1))), ll, [(0, 57)]) [] ((y_u s.1 62 ((li 3).toNatClampNeg) (Int32.ofInt 0)), s.2)
    else
      none := (u_E (5, 17, 5, 5) [2, 26] 120 g_t133 2 _ _ _).trans rfl
set_option maxRecDepth 4000 in
theorem b_133_26 (li : Nat → Int32) (ll : Nat → Int64) (s : u_H) : u g_t133 26 (li, ll, [(0, 57)]) [] s =
  if (li 4) < (Int32.ofInt 30) then
    u_bi (u_c 28 [.inl (li 1), .inl (li 4)] s) fun x2 s1 =>
    if x2 = 0 then
      u g_t133 26 ((u_l1 li 4 ((li 4) + (Int32.ofInt 1))), ll, [(0, 57)]) [] s1
    else
      u_bi (u_c 135 [.inr (.inr 57), .inl (li 4), .inl (li 2)] s1) fun x4 s3 =>
      if u_in x4 8 = true then
        if u_in x4 8 = true then
          if u_in x4 8 = true then
            u g_t133 26 ((u_l1 (u_l1 (u_l1 li 5 x4) 3 (if (li 3) < ((y_u s3.1 62 (x4.toNatClampNeg) ((s3.1 62 (x4.toNatClampNeg)) + (Int32.ofInt 1))) 62 (x4.toNatClampNeg)) then ((y_u s3.1 62 (x4.toNatClampNeg) ((s3.1 62 (x4.toNatClampNeg)) + (Int32.ofInt 1))) 62 (x4.toNatClampNeg)) else (li 3))) 4 ((li 4) + (Int32.ofInt 1))), ll, [(0, 57)]) [] ((y_u s3.1 62 (x4.toNatClampNeg) ((s3.1 62 (x4.toNatClampNeg)) + (Int32.ofInt 1))), s3.2)
          else
            none
        else
          none
      else
        none
  else
    some (some (.inl (li 3)), s) := (u_E (5, 17, 5, 5) [2, 26] 120 g_t133 26 _ _ _).trans rfl
/-! 134 GoodbyeQuay$Sight.note(IIZ)I -/
set_option maxRecDepth 4000 in
theorem b_134 (p1 : Int32) (p2 : Int32) (p3 : Int32) (s : u_H) : u_c 134 [.inr (.inr 57), .inl p1, .inl p2, .inl p3] s =
  if p1 < 0 then
    u g_t134 25 ((u_l1 (u_l1 (u_l1 u_z1 1 p1) 2 p2) 3 p3), u_z2, [(0, 57)]) [.inl (Int32.ofInt 0)] s
  else
    if (Int32.ofInt 60) < p1 then
      u g_t134 25 ((u_l1 (u_l1 (u_l1 u_z1 1 p1) 2 p2) 3 p3), u_z2, [(0, 57)]) [.inl (Int32.ofInt 0)] s
    else
      if p2 < 0 then
        u g_t134 25 ((u_l1 (u_l1 (u_l1 u_z1 1 p1) 2 p2) 3 p3), u_z2, [(0, 57)]) [.inl (Int32.ofInt 0)] s
      else
        if (Int32.ofInt 7) < p2 then
          u g_t134 25 ((u_l1 (u_l1 (u_l1 u_z1 1 p1) 2 p2) 3 p3), u_z2, [(0, 57)]) [.inl (Int32.ofInt 0)] s
        else
          u g_t134 25 ((u_l1 (u_l1 (u_l1 u_z1 1 p1) 2 p2) 3 p3), u_z2, [(0, 57)]) [.inl (Int32.ofInt 1)] s := (u_cE (t := g_t134) rfl _ _).trans ((u_E (5, 17, 5, 5) [25] 120 g_t134 0 _ _ _).trans rfl)
set_option maxRecDepth 4000 in
theorem b_134_25 (v0 : Int32) (li : Nat → Int32) (ll : Nat → Int64) (s : u_H) : u g_t134 25 (li, ll, [(0, 57)]) [.inl v0] s =
  if v0 = 0 then
    some (some (.inl (u_k (-1))), s)
  else
    if (s.1 55 1) < (Int32.ofInt 30) then
      if u_in (s.1 55 1) 30 = true then
        if u_in (s.1 55 1) 30 = true then
          if u_in (s.1 55 1) 30 = true then
            if q_ib (li 3) = true then
              if u_in (s.1 55 1) 30 = true then
                if u_in (s.1 55 1) 30 = true then
                  some (some (.inl (((s.1 55 1) + (Int32.ofInt 1)) - (Int32.ofInt 1))), ((y_u (y_u (y_u (y_u (y_u (y_u s.1 56 ((s.1 55 1).toNatClampNeg) (li 1)) 57 ((s.1 55 1).toNatClampNeg) (li 2)) 58 ((s.1 55 1).toNatClampNeg) (li 3)) 59 ((s.1 55 1).toNatClampNeg) (s.1 55 0)) 60 ((s.1 55 1).toNatClampNeg) (u_k (-1))) 55 1 ((s.1 55 1) + (Int32.ofInt 1))), s.2))
                else
                  none
              else
                none
            else
              none
          else
            none
        else
          none
      else
        none
    else
      some (some (.inl (u_k (-1))), s) := (u_E (5, 17, 5, 5) [25] 120 g_t134 25 _ _ _).trans rfl
/-! 135 GoodbyeQuay$Sight.outBehind(II)I -/
set_option maxRecDepth 4000 in
theorem b_135 (p1 : Int32) (p2 : Int32) (s : u_H) : u_c 135 [.inr (.inr 57), .inl p1, .inl p2] s =
  u g_t135 5 ((u_l1 (u_l1 (u_l1 (u_l1 u_z1 1 p1) 2 p2) 3 (Int32.ofInt 0)) 4 (Int32.ofInt 0)), u_z2, [(0, 57)]) [] s := (u_cE (t := g_t135) rfl _ _).trans ((u_E (5, 17, 5, 5) [5] 120 g_t135 0 _ _ _).trans rfl)
set_option maxRecDepth 4000 in
theorem b_135_5 (li : Nat → Int32) (ll : Nat → Int64) (s : u_H) : u g_t135 5 (li, ll, [(0, 57)]) [] s =
  if (li 4) < (s.1 55 2) then
    if u_in (((li 1) * (Int32.ofInt 7)) + (li 4)) 210 = true then
      if (s.1 61 ((((li 1) * (Int32.ofInt 7)) + (li 4)).toNatClampNeg)) < (li 2) then
        u g_t135 5 ((u_l1 (u_l1 li 3 ((li 3) + (Int32.ofInt 1))) 4 ((li 4) + (Int32.ofInt 1))), ll, [(0, 57)]) [] s
      else
        u g_t135 5 ((u_l1 (u_l1 li 3 ((li 3) + (Int32.ofInt 0))) 4 ((li 4) + (Int32.ofInt 1))), ll, [(0, 57)]) [] s
    else
      none
  else
    some (some (.inl (li 3)), s) := (u_E (5, 17, 5, 5) [5] 120 g_t135 5 _ _ _).trans rfl
/-! 136 GoodbyeQuay$Sight.restart(LGoodbyeQuay$Trial;LGoodbyeQuay$Told;LGoodbyeQuay$State;)V -/
set_option maxRecDepth 4000 in
theorem b_136 {W : Nat} (hW : W = 5 ∨ W = 17) (s : u_H) : u_c 136 [.inr (.inr 57), .inr (.inr 38), .inr (.inr W), .inr (.inr 30)] s =
  u g_t136 16 ((u_l1 u_z1 4 (Int32.ofInt 0)), u_z2, [(3, 30), (2, W), (1, 38), (0, 57)]) [] ((y_u (y_u s.1 55 1 (Int32.ofInt 0)) 55 2 (s.1 (W - 2) 4)), s.2) := by
  rcases hW with rfl | rfl
  · exact (u_cE (t := g_t136) rfl _ _).trans ((u_E (5, 17, 5, 5) [16] 120 g_t136 0 _ _ _).trans rfl)
  · exact (u_cE (t := g_t136) rfl _ _).trans ((u_E (17, 5, 17, 17) [16] 120 g_t136 0 _ _ _).trans rfl)
set_option maxRecDepth 4000 in
theorem b_136_16 {W : Nat} (hW : W = 5 ∨ W = 17) (li : Nat → Int32) (ll : Nat → Int64) (s : u_H) : u g_t136 16 (li, ll, [(3, 30), (2, W), (1, 38), (0, 57)]) [] s =
  if (li 4) < (Int32.ofInt 30) then
    if 0 < (s.1 55 2) then
      u_bv (u_c 164 [.inr (.inr 38), .inr (.inr W), .inr (.inr 30)] s) fun s1 =>
      if u_in ((s1.1 55 2) - (Int32.ofInt 1)) 8 = true then
        u_bv (u_c 166 [.inr (.inr 38), .inl (Int32.ofInt 0)] ((y_u s1.1 38 (((s1.1 55 2) - (Int32.ofInt 1)).toNatClampNeg) ((li 4) + (Int32.ofInt 1))), s1.2)) fun s2 =>
        if u_cpk (Int32.ofInt 7) ((li 4) * (Int32.ofInt 7)) (Int32.ofInt 0) 8 210 = true then
          u g_t136 16 ((u_l1 li 4 ((li 4) + (Int32.ofInt 1))), ll, [(3, 30), (2, W), (1, 38), (0, 57)]) [] ((u_cp s2.1 61 (((li 4) * (Int32.ofInt 7)).toNatClampNeg) 43 0 7), s2.2)
        else
          none
      else
        none
    else
      some (none, s)
  else
    some (none, s) := by
  rcases hW with rfl | rfl
  · exact (u_E (5, 17, 5, 5) [16] 120 g_t136 16 _ _ _).trans rfl
  · exact (u_E (17, 5, 17, 17) [16] 120 g_t136 16 _ _ _).trans rfl
/-! 137 GoodbyeQuay$Sight.takeOut(I)Z -/
set_option maxRecDepth 4000 in
theorem b_137 (p1 : Int32) (s : u_H) : u_c 137 [.inr (.inr 57), .inl p1] s =
  if p1 < 0 then
    some (some (.inl (Int32.ofInt 0)), s)
  else
    if p1 < (s.1 55 1) then
      if u_in p1 30 = true then
        if (s.1 60 (p1.toNatClampNeg)) = (u_k (-1)) then
          if u_in p1 30 = true then
            some (some (.inl (Int32.ofInt 1)), ((y_u s.1 60 (p1.toNatClampNeg) (s.1 55 0)), s.2))
          else
            none
        else
          some (some (.inl (Int32.ofInt 0)), s)
      else
        none
    else
      some (some (.inl (Int32.ofInt 0)), s) := (u_cE (t := g_t137) rfl _ _).trans ((u_E (5, 17, 5, 5) [] 120 g_t137 0 _ _ _).trans rfl)
/-! 139 GoodbyeQuay$State.begin(LGoodbyeQuay$Told;)V -/
set_option maxRecDepth 4000 in
theorem b_139 {W : Nat} (hW : W = 5 ∨ W = 17) (s : u_H) : u_c 139 [.inr (.inr 30), .inr (.inr W)] s =
  u g_t139 10 ((u_l1 u_z1 2 (Int32.ofInt 0)), u_z2, [(1, W), (0, 30)]) [] ((y_u s.1 28 1 (s.1 (W - 2) 4)), s.2) := by
  rcases hW with rfl | rfl
  · exact (u_cE (t := g_t139) rfl _ _).trans ((u_E (5, 17, 5, 5) [10, 38] 120 g_t139 0 _ _ _).trans rfl)
  · exact (u_cE (t := g_t139) rfl _ _).trans ((u_E (17, 5, 17, 17) [10, 38] 120 g_t139 0 _ _ _).trans rfl)
set_option maxRecDepth 4000 in
theorem b_139_10 {W : Nat} (hW : W = 5 ∨ W = 17) (li : Nat → Int32) (ll : Nat → Int64) (s : u_H) : u g_t139 10 (li, ll, [(1, W), (0, 30)]) [] s =
  if (li 2) < (Int32.ofInt 7) then
    if u_in (li 2) 7 = true then
      if u_in (li 2) 7 = true then
        u g_t139 10 ((u_l1 li 2 ((li 2) + (Int32.ofInt 1))), ll, [(1, W), (0, 30)]) [] ((y_u (y_u s.1 29 ((li 2).toNatClampNeg) (li 2)) 30 ((li 2).toNatClampNeg) (Int32.ofInt 0)), s.2)
      else
        none
    else
      none
  else
    u g_t139 38 ((u_l1 li 2 (Int32.ofInt 0)), ll, [(1, W), (0, 30)]) [] s := by
  rcases hW with rfl | rfl
  · exact (u_E (5, 17, 5, 5) [10, 38] 120 g_t139 10 _ _ _).trans rfl
  · exact (u_E (17, 5, 17, 17) [10, 38] 120 g_t139 10 _ _ _).trans rfl
set_option maxRecDepth 4000 in
theorem b_139_38 {W : Nat} (hW : W = 5 ∨ W = 17) (li : Nat → Int32) (ll : Nat → Int64) (s : u_H) : u g_t139 38 (li, ll, [(1, W), (0, 30)]) [] s =
  if (li 2) < (Int32.ofInt 2) then
    if u_in (li 2) 2 = true then
      if u_in (li 2) 2 = true then
        u g_t139 38 ((u_l1 li 2 ((li 2) + (Int32.ofInt 1))), ll, [(1, W), (0, 30)]) [] ((y_u (y_u s.1 31 ((li 2).toNatClampNeg) (u_k (-1))) 32 ((li 2).toNatClampNeg) (Int32.ofInt 0)), s.2)
      else
        none
    else
      none
  else
    some (none, ((y_u (y_u (y_u (y_u (y_u s.1 28 3 (Int32.ofInt 0)) 28 6 (Int32.ofInt 0)) 28 7 (Int32.ofInt 0)) 28 8 (Int32.ofInt 0)) 28 9 (s.1 (W - 2) 12)), s.2)) := by
  rcases hW with rfl | rfl
  · exact (u_E (5, 17, 5, 5) [10, 38] 120 g_t139 38 _ _ _).trans rfl
  · exact (u_E (17, 5, 17, 17) [10, 38] 120 g_t139 38 _ _ _).trans rfl
/-! 140 GoodbyeQuay$State.bitsOf(II)I -/
set_option maxRecDepth 4000 in
theorem b_140 (p1 : Int32) (p2 : Int32) (s : u_H) : u_c 140 [.inr (.inr 30), .inl p1, .inl p2] s =
  u g_t140 5 ((u_l1 (u_l1 (u_l1 (u_l1 u_z1 1 p1) 2 p2) 3 (Int32.ofInt 0)) 4 (Int32.ofInt 0)), u_z2, [(0, 30)]) [] s := (u_cE (t := g_t140) rfl _ _).trans ((u_E (5, 17, 5, 5) [5] 120 g_t140 0 _ _ _).trans rfl)
set_option maxRecDepth 4000 in
theorem b_140_5 (li : Nat → Int32) (ll : Nat → Int64) (s : u_H) : u g_t140 5 (li, ll, [(0, 30)]) [] s =
  if (li 4) < (li 2) then
    if u_in (li 4) 7 = true then
      if (s.1 30 ((li 4).toNatClampNeg)) = (li 1) then
        u g_t140 5 ((u_l1 (u_l1 li 3 ((li 3) ||| ((Int32.ofInt 1) <<< ((li 4) &&& 31)))) 4 ((li 4) + (Int32.ofInt 1))), ll, [(0, 30)]) [] s
      else
        u g_t140 5 ((u_l1 (u_l1 li 3 ((li 3) ||| (Int32.ofInt 0))) 4 ((li 4) + (Int32.ofInt 1))), ll, [(0, 30)]) [] s
    else
      none
  else
    some (some (.inl (li 3)), s) := (u_E (5, 17, 5, 5) [5] 120 g_t140 5 _ _ _).trans rfl
/-! 141 GoodbyeQuay$State.freeRail(II)V -/
set_option maxRecDepth 4000 in
theorem b_141 (p1 : Int32) (p2 : Int32) (s : u_H) : u_c 141 [.inr (.inr 30), .inl p1, .inl p2] s =
  if u_in p1 2 = true then
    if u_in (s.1 31 (p1.toNatClampNeg)) 7 = true then
      if u_in p1 2 = true then
        if u_in p1 2 = true then
          some (none, ((y_u (y_u (y_u s.1 30 ((s.1 31 (p1.toNatClampNeg)).toNatClampNeg) p2) 31 (p1.toNatClampNeg) (u_k (-1))) 32 (p1.toNatClampNeg) (Int32.ofInt 0)), s.2))
        else
          none
      else
        none
    else
      none
  else
    none := (u_cE (t := g_t141) rfl _ _).trans ((u_E (5, 17, 5, 5) [] 120 g_t141 0 _ _ _).trans rfl)
/-! 142 GoodbyeQuay$State.hasWaited(I)Z -/
set_option maxRecDepth 4000 in
theorem b_142 (p1 : Int32) (s : u_H) : u_c 142 [.inr (.inr 30), .inl p1] s =
  u_bi (u_c 28 [.inl (s.1 28 6), .inl p1] s) fun x2 s1 =>
  if q_ib x2 = true then some (some (.inl x2), s1) else none := (u_cE (t := g_t142) rfl _ _).trans ((u_E (5, 17, 5, 5) [] 120 g_t142 0 _ _ _).trans rfl)
/-! 143 GoodbyeQuay$State.isBrief(I)Z -/
set_option maxRecDepth 4000 in
theorem b_143 (p1 : Int32) (s : u_H) : u_c 143 [.inr (.inr 30), .inl p1] s =
  u_bi (u_c 28 [.inl (s.1 28 3), .inl p1] s) fun x2 s1 =>
  if q_ib x2 = true then some (some (.inl x2), s1) else none := (u_cE (t := g_t143) rfl _ _).trans ((u_E (5, 17, 5, 5) [] 120 g_t143 0 _ _ _).trans rfl)
/-! 144 GoodbyeQuay$State.isEmpty()Z -/
set_option maxRecDepth 4000 in
theorem b_144 (s : u_H) : u_c 144 [.inr (.inr 30)] s =
  u g_t144 4 ((u_l1 (u_l1 u_z1 1 (Int32.ofInt 1)) 2 (Int32.ofInt 0)), u_z2, [(0, 30)]) [] s := (u_cE (t := g_t144) rfl _ _).trans ((u_E (5, 17, 5, 5) [4] 120 g_t144 0 _ _ _).trans rfl)
set_option maxRecDepth 4000 in
theorem b_144_4 (li : Nat → Int32) (ll : Nat → Int64) (s : u_H) : u g_t144 4 (li, ll, [(0, 30)]) [] s =
  if (li 2) < (Int32.ofInt 2) then
    if (li 1) = 0 then
      u g_t144 4 ((u_l1 (u_l1 li 1 (Int32.ofInt 0)) 2 ((li 2) + (Int32.ofInt 1))), ll, [(0, 30)]) [] s
    else
      if u_in (li 2) 2 = true then
        if (s.1 31 ((li 2).toNatClampNeg)) = (u_k (-1)) then
          u g_t144 4 ((u_l1 (u_l1 li 1 (Int32.ofInt 1)) 2 ((li 2) + (Int32.ofInt 1))), ll, [(0, 30)]) [] s
        else
          u g_t144 4 ((u_l1 (u_l1 li 1 (Int32.ofInt 0)) 2 ((li 2) + (Int32.ofInt 1))), ll, [(0, 30)]) [] s
      else
        none
  else
    if (li 1) = 0 then
      some (some (.inl (Int32.ofInt 0)), s)
    else
      if (s.1 28 1) = 0 then
        some (some (.inl (Int32.ofInt 1)), s)
      else
        some (some (.inl (Int32.ofInt 0)), s) := (u_E (5, 17, 5, 5) [4] 120 g_t144 4 _ _ _).trans rfl
/-! 145 GoodbyeQuay$State.leave(I)V -/
set_option maxRecDepth 4000 in
theorem b_145 (p1 : Int32) (s : u_H) : u_c 145 [.inr (.inr 30), .inl p1] s =
  if p1 < 0 then
    some (none, s)
  else
    if p1 < (s.1 28 1) then
      u g_t145 25 ((u_l1 (u_l1 u_z1 1 p1) 2 p1), u_z2, [(0, 30)]) [] ((y_u s.1 28 1 ((s.1 28 1) - (Int32.ofInt 1))), s.2)
    else
      some (none, s) := (u_cE (t := g_t145) rfl _ _).trans ((u_E (5, 17, 5, 5) [25] 120 g_t145 0 _ _ _).trans rfl)
set_option maxRecDepth 4000 in
theorem b_145_25 (li : Nat → Int32) (ll : Nat → Int64) (s : u_H) : u g_t145 25 (li, ll, [(0, 30)]) [] s =
  if (li 2) < (s.1 28 1) then
    if u_in ((li 2) + (Int32.ofInt 1)) 7 = true then
      if u_in (li 2) 7 = true then
        u g_t145 25 ((u_l1 li 2 ((li 2) + (Int32.ofInt 1))), ll, [(0, 30)]) [] ((y_u s.1 29 ((li 2).toNatClampNeg) (s.1 29 (((li 2) + (Int32.ofInt 1)).toNatClampNeg))), s.2)
      else
        none
    else
      none
  else
    some (none, s) := (u_E (5, 17, 5, 5) [25] 120 g_t145 25 _ _ _).trans rfl
