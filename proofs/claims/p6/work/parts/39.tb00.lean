/-! what the methods do (printed by wip/gen/allb.py) -/
/-! 1 GoodbyeQuay.about(I)I -/
set_option maxRecDepth 4000 in
theorem b_1 {W : Nat} (hW : W = 5 ∨ W = 17) (p1 : Int32) (s : u_H) : u_c 1 [.inr (.inr 2), .inl p1] s =
  if p1 < (Int32.ofInt 8) then
    if p1 = (Int32.ofInt 0) then
      if s.2.2.1 = W then
        some (some (.inl (s.1 (W - 2) 4)), s)
      else
        u g_t1 64 ((u_l1 u_z1 1 p1), u_z2, [(0, 2)]) [.inr (.inr s.2.2.1)] s
    else
      if p1 = (Int32.ofInt 1) then
        if s.2.2.1 = W then
          some (some (.inl (s.1 (W - 2) 0)), s)
        else
          u g_t1 72 ((u_l1 u_z1 1 p1), u_z2, [(0, 2)]) [.inr (.inr s.2.2.1)] s
      else
        if p1 = (Int32.ofInt 2) then
          some (some (.inl (s.1 28 1)), s)
        else
          if p1 = (Int32.ofInt 3) then
            if s.2.2.1 = W then
              some (some (.inl (s.1 (W - 2) 10)), s)
            else
              u g_t1 88 ((u_l1 u_z1 1 p1), u_z2, [(0, 2)]) [.inr (.inr s.2.2.1)] s
          else
            if p1 = (Int32.ofInt 4) then
              u_bi (u_c 8 [.inr (.inr 2), .inl (Int32.ofInt 2)] s) fun x2 s1 =>
              some (some (.inl x2), s1)
            else
              if p1 = (Int32.ofInt 5) then
                u_bi (u_c 8 [.inr (.inr 2), .inl (Int32.ofInt 3)] s) fun x4 s3 =>
                some (some (.inl x4), s3)
              else
                if p1 = (Int32.ofInt 6) then
                  some (some (.inl (s.1 28 8)), s)
                else
                  if p1 = (Int32.ofInt 7) then
                    some (some (.inl (s.1 28 9)), s)
                  else
                    some (some (.inl (u_k (-1))), s)
  else
    u_bi (u_c 2 [.inr (.inr 2), .inl p1] s) fun x6 s5 =>
    some (some (.inl x6), s5) := by
  rcases hW with rfl | rfl
  · exact (u_cE (t := g_t1) rfl _ _).trans ((u_E (5, 17, 5, 5) [] 120 g_t1 0 _ _ _).trans rfl)
  · exact (u_cE (t := g_t1) rfl _ _).trans ((u_E (17, 5, 17, 17) [] 120 g_t1 0 _ _ _).trans rfl)
/-! 2 GoodbyeQuay.aboutKept(I)I -/
set_option maxRecDepth 4000 in
theorem b_2 {W : Nat} (hW : W = 5 ∨ W = 17) (p1 : Int32) (s : u_H) : u_c 2 [.inr (.inr 2), .inl p1] s =
  if p1 = (Int32.ofInt 8) then
    some (some (.inl (s.1 33 2)), s)
  else
    if p1 = (Int32.ofInt 9) then
      some (some (.inl (s.1 33 3)), s)
    else
      if p1 = (Int32.ofInt 10) then
        some (some (.inl (s.1 55 1)), s)
      else
        if p1 = (Int32.ofInt 11) then
          some (some (.inl (s.1 55 0)), s)
        else
          if p1 = (Int32.ofInt 12) then
            some (some (.inl (s.1 1 1)), s)
          else
            if p1 = (Int32.ofInt 13) then
              if s.2.2.1 = W then
                some (some (.inl (s.1 (W + 6) 4)), s)
              else
                u g_t2 96 ((u_l1 u_z1 1 p1), u_z2, [(0, 2)]) [.inr (.inr s.2.2.1)] s
            else
              if p1 = (Int32.ofInt 14) then
                some (some (.inl (s.1 0 14)), s)
              else
                if p1 = (Int32.ofInt 15) then
                  if s.2.2.1 = W then
                    some (some (.inl (s.1 (W - 2) 9)), s)
                  else
                    u g_t2 112 ((u_l1 u_z1 1 p1), u_z2, [(0, 2)]) [.inr (.inr s.2.2.1)] s
                else
                  if p1 = (Int32.ofInt 16) then
                    if s.2.2.1 = W then
                      some (some (.inl (s.1 (W - 2) 11)), s)
                    else
                      u g_t2 120 ((u_l1 u_z1 1 p1), u_z2, [(0, 2)]) [.inr (.inr s.2.2.1)] s
                  else
                    some (some (.inl (u_k (-1))), s) := by
  rcases hW with rfl | rfl
  · exact (u_cE (t := g_t2) rfl _ _).trans ((u_E (5, 17, 5, 5) [] 120 g_t2 0 _ _ _).trans rfl)
  · exact (u_cE (t := g_t2) rfl _ _).trans ((u_E (17, 5, 17, 17) [] 120 g_t2 0 _ _ _).trans rfl)
/-! 3 GoodbyeQuay.agreeOnShort(IZ)I -/
set_option maxRecDepth 4000 in
theorem b_3 (p1 : Int32) (p2 : Int32) (s : u_H) : u_c 3 [.inr (.inr 2), .inl p1, .inl p2] s =
  u_bi (u_c 30 [.inr (.inr 2), .inl p1] s) fun x2 s1 =>
  if x2 = 0 then
    some (some (.inl (u_k (-1))), s1)
  else
    u_bi (u_c 143 [.inr (.inr 30), .inl p1] s1) fun x4 s3 =>
    if x4 = p2 then
      some (some (.inl (u_k (-1))), s3)
    else
      u_bv (u_c 94 [.inr (.inr 35), .inr (.inr 30)] ((y_u s3.1 28 3 ((s3.1 28 3) ^^^ ((Int32.ofInt 1) <<< (p1 &&& 31)))), s3.2)) fun s5 =>
      u_bi (u_c 42 [.inr (.inr 2), .inl p1] s5) fun x7 s6 =>
      some (some (.inl x7), s6) := (u_cE (t := g_t3) rfl _ _).trans ((u_E (5, 17, 5, 5) [] 120 g_t3 0 _ _ _).trans rfl)
/-! 4 GoodbyeQuay.aside(I)I -/
set_option maxRecDepth 4000 in
theorem b_4 (p1 : Int32) (s : u_H) : u_c 4 [.inr (.inr 2), .inl p1] s =
  if p1 < 0 then
    some (some (.inl (u_k (-1))), s)
  else
    if (Int32.ofInt 1) < p1 then
      some (some (.inl (u_k (-1))), s)
    else
      u g_t4 18 ((u_l1 (u_l1 (u_l1 (u_l1 u_z1 1 p1) 2 (u_k (-1))) 3 (u_k (-1))) 4 (Int32.ofInt 0)), u_z2, [(0, 2)]) [] s := (u_cE (t := g_t4) rfl _ _).trans ((u_E (5, 17, 5, 5) [18] 120 g_t4 0 _ _ _).trans rfl)
set_option maxRecDepth 4000 in
theorem b_4_18 {W : Nat} (hW : W = 5 ∨ W = 17) (li : Nat → Int32) (ll : Nat → Int64) (s : u_H) : u g_t4 18 (li, ll, [(0, 2)]) [] s =
  if s.2.2.1 = W then
    if (li 4) < (s.1 (W - 2) 4) then
      u_bi (u_c 30 [.inr (.inr 2), .inl (li 4)] s) fun x2 s1 =>
      if x2 = 0 then
        u g_t4 18 ((u_l1 li 4 ((li 4) + (Int32.ofInt 1))), ll, [(0, 2)]) [] s1
      else
        u_bv (u_c 52 [.inr (.inr 2)] s1) fun s3 =>
        u_bi (u_c 147 [.inr (.inr 30), .inl (li 4)] s3) fun x5 s4 =>
        u_bv (u_c 169 [.inr (.inr 38), .inl x5] s4) fun s6 =>
        u_bi (u_c 76 [.inr (.inr 2)] s6) fun x8 s7 =>
        if (li 2) < x8 then
          u g_t4 18 ((u_l1 (u_l1 (u_l1 (u_l1 li 5 x8) 2 x8) 3 (li 4)) 4 ((li 4) + (Int32.ofInt 1))), ll, [(0, 2)]) [] s7
        else
          u g_t4 18 ((u_l1 (u_l1 li 5 x8) 4 ((li 4) + (Int32.ofInt 1))), ll, [(0, 2)]) [] s7
    else
      if (li 1) = 0 then
        some (some (.inl (li 3)), s)
      else
        some (some (.inl (li 2)), s)
  else
    u g_t4 24 (li, ll, [(0, 2)]) [.inr (.inr s.2.2.1), .inl (li 4)] s := by
  rcases hW with rfl | rfl
  · exact (u_E (5, 17, 5, 5) [18] 120 g_t4 18 _ _ _).trans rfl
  · exact (u_E (17, 5, 17, 17) [18] 120 g_t4 18 _ _ _).trans rfl
/-! 5 GoodbyeQuay.ask(II)I -/
set_option maxRecDepth 4000 in
theorem b_5 (p1 : Int32) (p2 : Int32) (s : u_H) : u_c 5 [.inr (.inr 2), .inl p1, .inl p2] s =
  u_bi (u_c 131 [.inr (.inr 57), .inl p2] s) fun x2 s1 =>
  if x2 = 0 then
    some (some (.inl (u_k (-1))), s1)
  else
    if p1 < 0 then
      some (some (.inl (u_k (-1))), s1)
    else
      if (Int32.ofInt 1) < p1 then
        some (some (.inl (u_k (-1))), s1)
      else
        u_bi (u_c 133 [.inr (.inr 57), .inl x2, .inl (Int32.ofInt 0)] s1) fun x4 s3 =>
        u g_t5 41 ((u_l1 (u_l1 (u_l1 (u_l1 (u_l1 (u_l1 u_z1 1 p1) 2 p2) 3 x2) 4 (Int32.ofInt 0)) 5 x4) 6 (Int32.ofInt 1)), u_z2, [(0, 2)]) [] s3 := (u_cE (t := g_t5) rfl _ _).trans ((u_E (5, 17, 5, 5) [41] 120 g_t5 0 _ _ _).trans rfl)
set_option maxRecDepth 4000 in
theorem b_5_41 (li : Nat → Int32) (ll : Nat → Int64) (s : u_H) : u g_t5 41 (li, ll, [(0, 2)]) [] s =
  if (Int32.ofInt 60) < (li 6) then
    if (li 1) = 0 then
      some (some (.inl (li 4)), s)
    else
      some (some (.inl (li 5)), s)
  else
    u_bi (u_c 133 [.inr (.inr 57), .inl (li 3), .inl (li 6)] s) fun x2 s1 =>
    if x2 < (li 5) then
      u g_t5 41 ((u_l1 (u_l1 (u_l1 (u_l1 li 7 x2) 5 x2) 4 (li 6)) 6 ((li 6) + (Int32.ofInt 1))), ll, [(0, 2)]) [] s1
    else
      u g_t5 41 ((u_l1 (u_l1 li 7 x2) 6 ((li 6) + (Int32.ofInt 1))), ll, [(0, 2)]) [] s1 := (u_E (5, 17, 5, 5) [41] 120 g_t5 41 _ _ _).trans rfl
/-! 6 GoodbyeQuay.await(I)I -/
set_option maxRecDepth 4000 in
theorem b_6 {W : Nat} (hW : W = 5 ∨ W = 17) (p1 : Int32) (s : u_H) : u_c 6 [.inr (.inr 2), .inl p1] s =
  u_bi (u_c 35 [.inr (.inr 2), .inl p1] s) fun x2 s1 =>
  if x2 = 0 then
    some (some (.inl (u_k (-1))), s1)
  else
    u_bi (u_c 142 [.inr (.inr 30), .inl p1] s1) fun x4 s3 =>
    if x4 = 0 then
      u_bi (u_c 33 [.inr (.inr 2), .inl p1] s3) fun x6 s5 =>
      if x6 = 0 then
        u_bv (u_c 94 [.inr (.inr 35), .inr (.inr 30)] ((y_u s5.1 28 6 ((s5.1 28 6) ||| ((Int32.ofInt 1) <<< (p1 &&& 31)))), s5.2)) fun s7 =>
        if s7.2.2.1 = W then
          u_bi (u_c 148 [.inr (.inr 30), .inr (.inr W), .inl p1] s7) fun x9 s8 =>
          some (some (.inl x9), s8)
        else
          u g_t6 63 ((u_l1 u_z1 1 p1), u_z2, [(0, 2)]) [.inr (.inr s7.2.2.1), .inr (.inr 30)] s7
      else
        some (some (.inl (u_k (-1))), s5)
    else
      some (some (.inl (u_k (-1))), s3) := by
  rcases hW with rfl | rfl
  · exact (u_cE (t := g_t6) rfl _ _).trans ((u_E (5, 17, 5, 5) [] 120 g_t6 0 _ _ _).trans rfl)
  · exact (u_cE (t := g_t6) rfl _ _).trans ((u_E (17, 5, 17, 17) [] 120 g_t6 0 _ _ _).trans rfl)
/-! 7 GoodbyeQuay.back(I)I -/
set_option maxRecDepth 4000 in
theorem b_7 (p1 : Int32) (s : u_H) : u_c 7 [.inr (.inr 2), .inl p1] s =
  if p1 < 0 then
    some (some (.inl (u_k (-1))), s)
  else
    if p1 < (Int32.ofInt 3) then
      u_bi (u_c 28 [.inl (s.1 0 7), .inl p1] s) fun x2 s1 =>
      if x2 = 0 then
        some (some (.inl (u_k (-1))), s1)
      else
        u_bv (u_c 146 [.inr (.inr 30), .inr (.inr 37), .inl (p1 * (Int32.ofInt 24))] s1) fun s3 =>
        u_bv (u_c 95 [.inr (.inr 35), .inr (.inr 30)] s3) fun s4 =>
        some (some (.inl (s4.1 28 8)), s4)
    else
      some (some (.inl (u_k (-1))), s) := (u_cE (t := g_t7) rfl _ _).trans ((u_E (5, 17, 5, 5) [] 120 g_t7 0 _ _ _).trans rfl)
/-! 8 GoodbyeQuay.bitsOf(I)I -/
set_option maxRecDepth 4000 in
theorem b_8 {W : Nat} (hW : W = 5 ∨ W = 17) (p1 : Int32) (s : u_H) : u_c 8 [.inr (.inr 2), .inl p1] s =
  if s.2.2.1 = W then
    u_bi (u_c 140 [.inr (.inr 30), .inl p1, .inl (s.1 (W - 2) 4)] s) fun x2 s1 =>
    some (some (.inl x2), s1)
  else
    u g_t8 9 ((u_l1 u_z1 1 p1), u_z2, [(0, 2)]) [.inr (.inr s.2.2.1), .inl p1, .inr (.inr 30)] s := by
  rcases hW with rfl | rfl
  · exact (u_cE (t := g_t8) rfl _ _).trans ((u_E (5, 17, 5, 5) [] 120 g_t8 0 _ _ _).trans rfl)
  · exact (u_cE (t := g_t8) rfl _ _).trans ((u_E (17, 5, 17, 17) [] 120 g_t8 0 _ _ _).trans rfl)
/-! 9 GoodbyeQuay.blame(II)I -/
set_option maxRecDepth 4000 in
theorem b_9 (p1 : Int32) (p2 : Int32) (s : u_H) : u_c 9 [.inr (.inr 2), .inl p1, .inl p2] s =
  u_bi (u_c 30 [.inr (.inr 2), .inl p1] s) fun x2 s1 =>
  if x2 = 0 then
    some (some (.inl (u_k (-1000))), s1)
  else
    if p2 < 0 then
      some (some (.inl (u_k (-1000))), s1)
    else
      if (Int32.ofInt 1) < p2 then
        some (some (.inl (u_k (-1000))), s1)
      else
        u_bi (u_c 8 [.inr (.inr 2), .inl (Int32.ofInt 0)] s1) fun x4 s3 =>
        u g_t9 30 ((u_l1 (u_l1 (u_l1 (u_l1 u_z1 1 p1) 2 p2) 3 x4) 4 (Int32.ofInt 0)), u_z2, [(0, 2)]) [] s3 := (u_cE (t := g_t9) rfl _ _).trans ((u_E (5, 17, 5, 5) [30, 93] 120 g_t9 0 _ _ _).trans rfl)
set_option maxRecDepth 4000 in
theorem b_9_30 (li : Nat → Int32) (ll : Nat → Int64) (s : u_H) : u g_t9 30 (li, ll, [(0, 2)]) [] s =
  if (li 3) < (li 4) then
    u g_t9 93 ((u_l1 (u_l1 (u_l1 li 4 (Int32.ofInt 0)) 5 ((li 3) &&& (((Int32.ofInt 1) <<< ((li 1) &&& 31)) ^^^ (u_k (-1))))) 6 (Int32.ofInt 0)), ll, [(0, 2)]) [] s
  else
    if ((li 4) &&& ((li 3) ^^^ (u_k (-1)))) = 0 then
      u_bv (u_c 62 [.inr (.inr 2), .inl ((li 3) &&& ((li 4) ^^^ (u_k (-1))))] s) fun s1 =>
      u_bi (u_c 325 [.inl (s1.1 36 16)] s1) fun x3 s2 =>
      if u_in (li 4) 128 = true then
        u g_t9 30 ((u_l1 li 4 ((li 4) + (Int32.ofInt 1))), ll, [(0, 2)]) [] ((y_u s2.1 63 ((li 4).toNatClampNeg) x3), s2.2)
      else
        none
    else
      u g_t9 30 ((u_l1 li 4 ((li 4) + (Int32.ofInt 1))), ll, [(0, 2)]) [] s := (u_E (5, 17, 5, 5) [30, 93] 120 g_t9 30 _ _ _).trans rfl
set_option maxRecDepth 4000 in
theorem b_9_93 (li : Nat → Int32) (ll : Nat → Int64) (s : u_H) : u g_t9 93 (li, ll, [(0, 2)]) [] s =
  if (li 5) < (li 6) then
    u_bo (q_o1 4 (s.1 28 1)) none fun x1 =>
    u_bi (u_c 55 [.inl (li 4), .inl x1, .inl (li 2)] s) fun x3 s2 =>
    some (some (.inl x3), s2)
  else
    if ((li 6) &&& ((li 5) ^^^ (u_k (-1)))) = 0 then
      u_bi (u_c 325 [.inl (li 6)] s) fun x5 s4 =>
      u_bo (q_o1 4 x5) none fun x6 =>
      u_bo (q_o1 4 ((s4.1 28 1) - 1 - x5)) none fun x7 =>
      if u_in ((li 6) ||| ((Int32.ofInt 1) <<< ((li 1) &&& 31))) 128 = true then
        if u_in (li 6) 128 = true then
          u g_t9 93 ((u_l1 (u_l1 (u_l1 (u_l1 li 7 x5) 8 (x6 * x7)) 4 ((li 4) + ((x6 * x7) * ((s4.1 63 (((li 6) ||| ((Int32.ofInt 1) <<< ((li 1) &&& 31))).toNatClampNeg)) - (s4.1 63 ((li 6).toNatClampNeg)))))) 6 ((li 6) + (Int32.ofInt 1))), ll, [(0, 2)]) [] s4
        else
          none
      else
        none
    else
      u g_t9 93 ((u_l1 li 6 ((li 6) + (Int32.ofInt 1))), ll, [(0, 2)]) [] s := (u_E (5, 17, 5, 5) [30, 93] 120 g_t9 93 _ _ _).trans rfl
/-! 10 GoodbyeQuay.change(II)I -/
set_option maxRecDepth 4000 in
theorem b_10 (p1 : Int32) (p2 : Int32) (s : u_H) : u_c 10 [.inr (.inr 2), .inl p1, .inl p2] s =
  if p1 = p2 then
    some (some (.inl (u_k (-1))), s)
  else
    u_bi (u_c 30 [.inr (.inr 2), .inl p1] s) fun x2 s1 =>
    if x2 = 0 then
      some (some (.inl (u_k (-1))), s1)
    else
      u_bi (u_c 30 [.inr (.inr 2), .inl p2] s1) fun x4 s3 =>
      if x4 = 0 then
        some (some (.inl (u_k (-1))), s3)
      else
        u_bi (u_c 147 [.inr (.inr 30), .inl p1] s3) fun x6 s5 =>
        u_bi (u_c 147 [.inr (.inr 30), .inl p2] s5) fun x8 s7 =>
        if u_in x6 7 = true then
          if u_in x8 7 = true then
            u_bv (u_c 94 [.inr (.inr 35), .inr (.inr 30)] ((y_u (y_u s7.1 29 (x6.toNatClampNeg) p2) 29 (x8.toNatClampNeg) p1), s7.2)) fun s9 =>
            u_bi (u_c 14 [.inr (.inr 2)] s9) fun x11 s10 =>
            some (some (.inl x11), s10)
          else
            none
        else
          none := (u_cE (t := g_t10) rfl _ _).trans ((u_E (5, 17, 5, 5) [] 120 g_t10 0 _ _ _).trans rfl)
/-! 11 GoodbyeQuay.commonDivisor(II)I -/
set_option maxRecDepth 4000 in
theorem b_11 (p1 : Int32) (p2 : Int32) (s : u_H) : u_c 11 [.inl p1, .inl p2] s =
  u g_t11 7 ((u_l1 (u_l1 (u_l1 (u_l1 (u_l1 u_z1 0 p1) 1 p2) 2 p1) 3 p2) 4 (Int32.ofInt 0)), u_z2, []) [] s := (u_cE (t := g_t11) rfl _ _).trans ((u_E (5, 17, 5, 5) [7] 120 g_t11 0 _ _ _).trans rfl)
set_option maxRecDepth 4000 in
theorem b_11_7 (li : Nat → Int32) (ll : Nat → Int64) (s : u_H) : u g_t11 7 (li, ll, []) [] s =
  if (li 4) < (Int32.ofInt 64) then
    if (li 3) = 0 then
      some (some (.inl (li 2)), s)
    else
      if (li 3) = 0 then
        none
      else
        u g_t11 7 ((u_l1 (u_l1 (u_l1 (u_l1 li 5 ((li 2) - (li 2) / (li 3) * (li 3))) 2 (li 3)) 3 ((li 2) - (li 2) / (li 3) * (li 3))) 4 ((li 4) + (Int32.ofInt 1))), ll, []) [] s
  else
    some (some (.inl (li 2)), s) := (u_E (5, 17, 5, 5) [7] 120 g_t11 7 _ _ _).trans rfl
/-! 12 GoodbyeQuay.count()I -/
set_option maxRecDepth 4000 in
theorem b_12 (s : u_H) : u_c 12 [.inr (.inr 2)] s =
  u_bi (u_c 14 [.inr (.inr 2)] s) fun x2 s1 =>
  some (some (.inl x2), s1) := (u_cE (t := g_t12) rfl _ _).trans ((u_E (5, 17, 5, 5) [] 120 g_t12 0 _ _ _).trans rfl)
/-! 13 GoodbyeQuay.countChanged(II)I -/
set_option maxRecDepth 4000 in
theorem b_13 (p1 : Int32) (p2 : Int32) (s : u_H) : u_c 13 [.inr (.inr 2), .inl p1, .inl p2] s =
  u_bv (u_c 52 [.inr (.inr 2)] s) fun s1 =>
  u_bi (u_c 147 [.inr (.inr 30), .inl p1] s1) fun x3 s2 =>
  u_bi (u_c 147 [.inr (.inr 30), .inl p2] s2) fun x5 s4 =>
  u_bv (u_c 158 [.inr (.inr 38), .inl x3, .inl x5] s4) fun s6 =>
  u_bi (u_c 76 [.inr (.inr 2)] s6) fun x8 s7 =>
  some (some (.inl x8), s7) := (u_cE (t := g_t13) rfl _ _).trans ((u_E (5, 17, 5, 5) [] 120 g_t13 0 _ _ _).trans rfl)
/-! 14 GoodbyeQuay.countNow()I -/
set_option maxRecDepth 4000 in
theorem b_14 (s : u_H) : u_c 14 [.inr (.inr 2)] s =
  u_bv (u_c 52 [.inr (.inr 2)] s) fun s1 =>
  u_bi (u_c 76 [.inr (.inr 2)] s1) fun x3 s2 =>
  some (some (.inl x3), s2) := (u_cE (t := g_t14) rfl _ _).trans ((u_E (5, 17, 5, 5) [] 120 g_t14 0 _ _ _).trans rfl)
/-! 15 GoodbyeQuay.cutOffRails()V -/
set_option maxRecDepth 4000 in
theorem b_15 (s : u_H) : u_c 15 [.inr (.inr 2)] s =
  u g_t15 2 ((u_l1 u_z1 1 (Int32.ofInt 0)), u_z2, [(0, 2)]) [] s := (u_cE (t := g_t15) rfl _ _).trans ((u_E (5, 17, 5, 5) [2] 120 g_t15 0 _ _ _).trans rfl)
set_option maxRecDepth 4000 in
theorem b_15_2 {W : Nat} (hW : W = 5 ∨ W = 17) (li : Nat → Int32) (ll : Nat → Int64) (s : u_H) : u g_t15 2 (li, ll, [(0, 2)]) [] s =
  if s.2.2.1 = W then
    if (li 1) < (s.1 (W - 2) 10) then
      if u_in (li 1) 2 = true then
        if (s.1 31 ((li 1).toNatClampNeg)) = (u_k (-1)) then
          u g_t15 2 ((u_l1 li 1 ((li 1) + (Int32.ofInt 1))), ll, [(0, 2)]) [] s
        else
          if s.2.2.1 = W then
            if u_in (li 1) 2 = true then
              if u_in (s.1 31 ((li 1).toNatClampNeg)) 7 = true then
                u_bi (u_c 33 [.inr (.inr 2), .inl (s.1 (W + 3) ((s.1 31 ((li 1).toNatClampNeg)).toNatClampNeg))] s) fun x2 s1 =>
                if x2 = 0 then
                  u g_t15 2 ((u_l1 li 1 ((li 1) + (Int32.ofInt 1))), ll, [(0, 2)]) [] s1
                else
                  u_bv (u_c 141 [.inr (.inr 30), .inl (li 1), .inl (Int32.ofInt 3)] s1) fun s3 =>
                  u g_t15 2 ((u_l1 li 1 ((li 1) + (Int32.ofInt 1))), ll, [(0, 2)]) [] ((y_u s3.1 28 7 ((s3.1 28 7) + (Int32.ofInt 1))), s3.2)
              else
                none
            else
              none
          else
            u g_t15 31 (li, ll, [(0, 2)]) [.inr (.inr s.2.2.1), .inr (.inr 2)] s
      else
        none
    else
      some (none, s)
  else
    u g_t15 7 (li, ll, [(0, 2)]) [.inr (.inr s.2.2.1), .inl (li 1)] s := by
  rcases hW with rfl | rfl
  · exact (u_E (5, 17, 5, 5) [2] 120 g_t15 2 _ _ _).trans rfl
  · exact (u_E (17, 5, 17, 17) [2] 120 g_t15 2 _ _ _).trans rfl
/-! 16 GoodbyeQuay.dearest()I -/
set_option maxRecDepth 4000 in
theorem b_16 (s : u_H) : u_c 16 [.inr (.inr 2)] s =
  u_bv (u_c 52 [.inr (.inr 2)] s) fun s1 =>
  u_bv (u_c 166 [.inr (.inr 38), .inl (Int32.ofInt 0)] s1) fun s2 =>
  u g_t16 14 ((u_l1 u_z1 1 (Int32.ofInt 0)), u_z2, [(0, 2)]) [] s2 := (u_cE (t := g_t16) rfl _ _).trans ((u_E (5, 17, 5, 5) [14] 120 g_t16 0 _ _ _).trans rfl)
set_option maxRecDepth 4000 in
theorem b_16_14 {W : Nat} (hW : W = 5 ∨ W = 17) (li : Nat → Int32) (ll : Nat → Int64) (s : u_H) : u g_t16 14 (li, ll, [(0, 2)]) [] s =
  if (li 1) < (Int32.ofInt 7) then
    if s.2.2.1 = W then
      if (li 1) < (s.1 (W - 2) 4) then
        if s.2.2.1 = W then
          if u_in (li 1) 7 = true then
            if u_in (li 1) 7 = true then
              u g_t16 14 ((u_l1 li 1 ((li 1) + (Int32.ofInt 1))), ll, [(0, 2)]) [] ((y_u s.1 46 ((li 1).toNatClampNeg) (s.1 (W + 5) ((li 1).toNatClampNeg))), s.2)
            else
              none
          else
            none
        else
          u g_t16 43 (li, ll, [(0, 2)]) [.inr (.inr s.2.2.1), .inl (li 1), .inr (.inr 48)] s
      else
        if u_in (li 1) 7 = true then
          u g_t16 14 ((u_l1 li 1 ((li 1) + (Int32.ofInt 1))), ll, [(0, 2)]) [] ((y_u s.1 46 ((li 1).toNatClampNeg) (Int32.ofInt 0)), s.2)
        else
          none
    else
      u g_t16 33 (li, ll, [(0, 2)]) [.inr (.inr s.2.2.1), .inl (li 1), .inl (li 1), .inr (.inr 48)] s
  else
    u_bi (u_c 8 [.inr (.inr 2), .inl (Int32.ofInt 0)] s) fun x2 s1 =>
    u_bi (u_c 47 [.inr (.inr 2), .inl ((s.1 36 16) &&& (x2 ^^^ (u_k (-1))))] s1) fun x4 s3 =>
    u_bi (u_c 40 [.inr (.inr 2)] s3) fun x6 s5 =>
    some (some (.inl (x6 + x4)), s5) := by
  rcases hW with rfl | rfl
  · exact (u_E (5, 17, 5, 5) [14] 120 g_t16 14 _ _ _).trans rfl
  · exact (u_E (17, 5, 17, 17) [14] 120 g_t16 14 _ _ _).trans rfl
/-! 17 GoodbyeQuay.delay(II)I -/
set_option maxRecDepth 4000 in
theorem b_17 (p1 : Int32) (p2 : Int32) (s : u_H) : u_c 17 [.inr (.inr 2), .inl p1, .inl p2] s =
  if p1 = p2 then
    some (some (.inl (u_k (-1))), s)
  else
    u_bi (u_c 34 [.inr (.inr 2), .inl p1] s) fun x2 s1 =>
    if x2 = 0 then
      some (some (.inl (u_k (-1))), s1)
    else
      u_bi (u_c 30 [.inr (.inr 2), .inl p2] s1) fun x4 s3 =>
      if x4 = 0 then
        some (some (.inl (u_k (-1))), s3)
      else
        u_bv (u_c 62 [.inr (.inr 2), .inl (Int32.ofInt 0)] s3) fun s5 =>
        u_bi (u_c 168 [.inr (.inr 38), .inl p1] s5) fun x7 s6 =>
        u_bv (u_c 62 [.inr (.inr 2), .inl ((Int32.ofInt 1) <<< (p2 &&& 31))] s6) fun s8 =>
        u_bi (u_c 168 [.inr (.inr 38), .inl p1] s8) fun x10 s9 =>
        if x10 = (u_k (-1)) then
          some (some (.inl (Int32.ofInt 0)), s9)
        else
          if x7 = (u_k (-1)) then
            some (some (.inl (Int32.ofInt 60)), s9)
          else
            some (some (.inl (x7 - x10)), s9) := (u_cE (t := g_t17) rfl _ _).trans ((u_E (5, 17, 5, 5) [] 120 g_t17 0 _ _ _).trans rfl)
/-! 18 GoodbyeQuay.empty()I -/
set_option maxRecDepth 4000 in
theorem b_18 (s : u_H) : u_c 18 [.inr (.inr 2)] s =
  u_bv (u_c 52 [.inr (.inr 2)] s) fun s1 =>
  u_bv (u_c 166 [.inr (.inr 38), .inl (Int32.ofInt 0)] s1) fun s2 =>
  u_bi (u_c 157 [.inr (.inr 38)] s2) fun x4 s3 =>
  some (some (.inl x4), s3) := (u_cE (t := g_t18) rfl _ _).trans ((u_E (5, 17, 5, 5) [] 120 g_t18 0 _ _ _).trans rfl)
/-! 19 GoodbyeQuay.end(I)I -/
set_option maxRecDepth 4000 in
theorem b_19 (p1 : Int32) (s : u_H) : u_c 19 [.inr (.inr 2), .inl p1] s =
  if p1 < 0 then
    some (some (.inl (u_k (-1))), s)
  else
    if (s.1 1 1) < p1 then
      some (some (.inl (u_k (-1))), s)
    else
      some (some (.inl p1), ((y_u s.1 1 1 p1), s.2)) := (u_cE (t := g_t19) rfl _ _).trans ((u_E (5, 17, 5, 5) [] 120 g_t19 0 _ _ _).trans rfl)
/-! 20 GoodbyeQuay.fault(I)I -/
set_option maxRecDepth 4000 in
theorem b_20 (p1 : Int32) (s : u_H) : u_c 20 [.inr (.inr 2), .inl p1] s =
  if p1 = 0 then
    some (some (.inl (s.1 27 8)), s)
  else
    if p1 = (Int32.ofInt 1) then
      some (some (.inl (s.1 27 9)), s)
    else
      some (some (.inl (u_k (-1))), s) := (u_cE (t := g_t20) rfl _ _).trans ((u_E (5, 17, 5, 5) [] 120 g_t20 0 _ _ _).trans rfl)
/-! 21 GoodbyeQuay.feed(IIIII)I -/
set_option maxRecDepth 4000 in
theorem b_21 (p1 : Int32) (p2 : Int32) (p3 : Int32) (p4 : Int32) (p5 : Int32) (s : u_H) : u_c 21 [.inr (.inr 2), .inl p1, .inl p2, .inl p3, .inl p4, .inl p5] s =
  if (u_k 1600) < ((s.1 1 1) + (Int32.ofInt 20)) then
    some (some (.inl (u_k (-1))), s)
  else
    u_bv (u_c 152 [.inr (.inr 3), .inl p1] s) fun s1 =>
    u_bv (u_c 152 [.inr (.inr 3), .inl p2] s1) fun s2 =>
    u_bv (u_c 152 [.inr (.inr 3), .inl p3] s2) fun s3 =>
    u_bv (u_c 152 [.inr (.inr 3), .inl p4] s3) fun s4 =>
    u_bv (u_c 152 [.inr (.inr 3), .inl p5] s4) fun s5 =>
    some (some (.inl (s5.1 1 1)), s5) := (u_cE (t := g_t21) rfl _ _).trans ((u_E (5, 17, 5, 5) [] 120 g_t21 0 _ _ _).trans rfl)
/-! 22 GoodbyeQuay.fillRail(I)V -/
set_option maxRecDepth 4000 in
theorem b_22 (p1 : Int32) (s : u_H) : u_c 22 [.inr (.inr 2), .inl p1] s =
  u g_t22 2 ((u_l1 (u_l1 u_z1 1 p1) 2 (Int32.ofInt 0)), u_z2, [(0, 2)]) [] s := (u_cE (t := g_t22) rfl _ _).trans ((u_E (5, 17, 5, 5) [2, 87] 120 g_t22 0 _ _ _).trans rfl)
set_option maxRecDepth 4000 in
theorem b_22_2 {W : Nat} (hW : W = 5 ∨ W = 17) (li : Nat → Int32) (ll : Nat → Int64) (s : u_H) : u g_t22 2 (li, ll, [(0, 2)]) [] s =
  if (li 2) < (Int32.ofInt 7) then
    if 0 < (s.1 28 1) then
      if s.2.2.1 = W then
        if u_in (s.1 29 0) 7 = true then
          u_bi (u_c 33 [.inr (.inr 2), .inl (s.1 (W + 3) ((s.1 29 0).toNatClampNeg))] s) fun x2 s1 =>
          if x2 = 0 then
            u g_t22 87 (li, ll, [(0, 2)]) [] s1
          else
            if u_in (s1.1 29 0) 7 = true then
              u_bv (u_c 145 [.inr (.inr 30), .inl (Int32.ofInt 0)] ((y_u s1.1 30 ((s1.1 29 0).toNatClampNeg) (Int32.ofInt 3)), s1.2)) fun s3 =>
              u g_t22 2 ((u_l1 li 2 ((li 2) + (Int32.ofInt 1))), ll, [(0, 2)]) [] ((y_u s3.1 28 7 ((s3.1 28 7) + (Int32.ofInt 1))), s3.2)
            else
              none
        else
          none
      else
        u g_t22 23 (li, ll, [(0, 2)]) [.inr (.inr s.2.2.1), .inr (.inr 2)] s
    else
      u g_t22 87 (li, ll, [(0, 2)]) [] s
  else
    u g_t22 87 (li, ll, [(0, 2)]) [] s := by
  rcases hW with rfl | rfl
  · exact (u_E (5, 17, 5, 5) [2, 87] 120 g_t22 2 _ _ _).trans rfl
  · exact (u_E (17, 5, 17, 17) [2, 87] 120 g_t22 2 _ _ _).trans rfl
set_option maxRecDepth 4000 in
theorem b_22_87 {W : Nat} (hW : W = 5 ∨ W = 17) (li : Nat → Int32) (ll : Nat → Int64) (s : u_H) : u g_t22 87 (li, ll, [(0, 2)]) [] s =
  if (s.1 28 1) = 0 then
    some (none, s)
  else
    u_bi (u_c 42 [.inr (.inr 2), .inl (s.1 29 0)] s) fun x2 s1 =>
    u_bv (u_c 145 [.inr (.inr 30), .inl (Int32.ofInt 0)] s1) fun s3 =>
    if u_in (s.1 29 0) 7 = true then
      u_bi (u_c 50 [.inl (s3.1 28 9)] ((y_u s3.1 30 ((s.1 29 0).toNatClampNeg) (Int32.ofInt 1)), s3.2)) fun x5 s4 =>
      if u_in (li 1) 2 = true then
        if s4.2.2.1 = W then
          u_bi (u_c 56 [.inl x5, .inl (s4.1 (W - 2) 11)] ((y_u (y_u s4.1 28 9 x5) 31 ((li 1).toNatClampNeg) (s.1 29 0)), s4.2)) fun x7 s6 =>
          if u_in (li 1) 2 = true then
            some (none, ((y_u s6.1 32 ((li 1).toNatClampNeg) (x2 + x7)), s6.2))
          else
            none
        else
          u g_t22 179 ((u_l1 (u_l1 li 2 (s.1 29 0)) 3 x2), ll, [(0, 2)]) [.inr (.inr s4.2.2.1), .inl x5, .inl x2, .inl (li 1), .inr (.inr 34)] ((y_u (y_u s4.1 28 9 x5) 31 ((li 1).toNatClampNeg) (s.1 29 0)), s4.2)
      else
        none
    else
      none := by
  rcases hW with rfl | rfl
  · exact (u_E (5, 17, 5, 5) [2, 87] 120 g_t22 87 _ _ _).trans rfl
  · exact (u_E (17, 5, 17, 17) [2, 87] 120 g_t22 87 _ _ _).trans rfl
/-! 23 GoodbyeQuay.fits(I)I -/
set_option maxRecDepth 4000 in
theorem b_23 (p1 : Int32) (s : u_H) : u_c 23 [.inr (.inr 2), .inl p1] s =
  u_bi (u_c 131 [.inr (.inr 57), .inl p1] s) fun x2 s1 =>
  u_bi (u_c 325 [.inl x2] s1) fun x4 s3 =>
  some (some (.inl x4), s3) := (u_cE (t := g_t23) rfl _ _).trans ((u_E (5, 17, 5, 5) [] 120 g_t23 0 _ _ _).trans rfl)
/-! 24 GoodbyeQuay.fondest()I -/
set_option maxRecDepth 4000 in
theorem b_24 (s : u_H) : u_c 24 [.inr (.inr 2)] s =
  u g_t24 4 ((u_l1 (u_l1 u_z1 1 (u_k (-1))) 2 (Int32.ofInt 0)), u_z2, [(0, 2)]) [] s := (u_cE (t := g_t24) rfl _ _).trans ((u_E (5, 17, 5, 5) [4] 120 g_t24 0 _ _ _).trans rfl)
set_option maxRecDepth 4000 in
theorem b_24_4 {W : Nat} (hW : W = 5 ∨ W = 17) (li : Nat → Int32) (ll : Nat → Int64) (s : u_H) : u g_t24 4 (li, ll, [(0, 2)]) [] s =
  if (li 2) < (s.1 28 1) then
    if u_in (li 2) 7 = true then
      if (li 1) = (u_k (-1)) then
        u g_t24 4 ((u_l1 (u_l1 (u_l1 li 3 (s.1 29 ((li 2).toNatClampNeg))) 1 (s.1 29 ((li 2).toNatClampNeg))) 2 ((li 2) + (Int32.ofInt 1))), ll, [(0, 2)]) [] s
      else
        if s.2.2.1 = W then
          if u_in (s.1 29 ((li 2).toNatClampNeg)) 7 = true then
            if s.2.2.1 = W then
              if u_in (li 1) 7 = true then
                if (s.1 (W + 5) ((li 1).toNatClampNeg)) < (s.1 (W + 5) ((s.1 29 ((li 2).toNatClampNeg)).toNatClampNeg)) then
                  u g_t24 4 ((u_l1 (u_l1 (u_l1 li 3 (s.1 29 ((li 2).toNatClampNeg))) 1 (s.1 29 ((li 2).toNatClampNeg))) 2 ((li 2) + (Int32.ofInt 1))), ll, [(0, 2)]) [] s
                else
                  u g_t24 4 ((u_l1 (u_l1 li 3 (s.1 29 ((li 2).toNatClampNeg))) 2 ((li 2) + (Int32.ofInt 1))), ll, [(0, 2)]) [] s
              else
                none
            else
              u g_t24 43 ((u_l1 li 3 (s.1 29 ((li 2).toNatClampNeg))), ll, [(0, 2)]) [.inr (.inr s.2.2.1), .inl (s.1 (W + 5) ((s.1 29 ((li 2).toNatClampNeg)).toNatClampNeg))] s
          else
            none
        else
          u g_t24 34 ((u_l1 li 3 (s.1 29 ((li 2).toNatClampNeg))), ll, [(0, 2)]) [.inr (.inr s.2.2.1)] s
    else
      none
  else
    some (some (.inl (li 1)), s) := by
  rcases hW with rfl | rfl
  · exact (u_E (5, 17, 5, 5) [4] 120 g_t24 4 _ _ _).trans rfl
  · exact (u_E (17, 5, 17, 17) [4] 120 g_t24 4 _ _ _).trans rfl
/-! 25 GoodbyeQuay.giveUp(I)I -/
set_option maxRecDepth 4000 in
theorem b_25 (p1 : Int32) (s : u_H) : u_c 25 [.inr (.inr 2), .inl p1] s =
  u_bi (u_c 30 [.inr (.inr 2), .inl p1] s) fun x2 s1 =>
  if x2 = 0 then
    some (some (.inl (u_k (-1))), s1)
  else
    u_bi (u_c 147 [.inr (.inr 30), .inl p1] s1) fun x4 s3 =>
    u_bv (u_c 145 [.inr (.inr 30), .inl x4] s3) fun s5 =>
    if u_in p1 7 = true then
      u_bv (u_c 94 [.inr (.inr 35), .inr (.inr 30)] ((y_u s5.1 30 (p1.toNatClampNeg) (Int32.ofInt 4)), s5.2)) fun s6 =>
      some (some (.inl (s6.1 28 1)), s6)
    else
      none := (u_cE (t := g_t25) rfl _ _).trans ((u_E (5, 17, 5, 5) [] 120 g_t25 0 _ _ _).trans rfl)
/-! 26 GoodbyeQuay.grudge(I)I -/
set_option maxRecDepth 4000 in
theorem b_26 (p1 : Int32) (s : u_H) : u_c 26 [.inr (.inr 2), .inl p1] s =
  u_bi (u_c 30 [.inr (.inr 2), .inl p1] s) fun x2 s1 =>
  if x2 = 0 then
    some (some (.inl (u_k (-1))), s1)
  else
    u_bv (u_c 62 [.inr (.inr 2), .inl (Int32.ofInt 0)] s1) fun s3 =>
    u_bi (u_c 168 [.inr (.inr 38), .inl p1] s3) fun x5 s4 =>
    if x5 = (u_k (-1)) then
      u g_t26 33 ((u_l1 (u_l1 (u_l1 u_z1 1 p1) 2 (Int32.ofInt 0)) 3 (Int32.ofInt 0)), u_z2, [(0, 2)]) [] s4
    else
      some (some (.inl (u_k (-1))), s4) := (u_cE (t := g_t26) rfl _ _).trans ((u_E (5, 17, 5, 5) [33] 120 g_t26 0 _ _ _).trans rfl)
set_option maxRecDepth 4000 in
theorem b_26_33 (li : Nat → Int32) (ll : Nat → Int64) (s : u_H) : u g_t26 33 (li, ll, [(0, 2)]) [] s =
  if (li 3) < (s.1 28 1) then
    if u_in (li 3) 7 = true then
      if (s.1 29 ((li 3).toNatClampNeg)) = (li 1) then
        u g_t26 33 ((u_l1 (u_l1 li 4 (s.1 29 ((li 3).toNatClampNeg))) 3 ((li 3) + (Int32.ofInt 1))), ll, [(0, 2)]) [] s
      else
        u_bv (u_c 62 [.inr (.inr 2), .inl ((Int32.ofInt 1) <<< ((s.1 29 ((li 3).toNatClampNeg)) &&& 31))] s) fun s1 =>
        u_bi (u_c 168 [.inr (.inr 38), .inl (li 1)] s1) fun x3 s2 =>
        if x3 = (u_k (-1)) then
          u g_t26 33 ((u_l1 (u_l1 li 4 (s.1 29 ((li 3).toNatClampNeg))) 3 ((li 3) + (Int32.ofInt 1))), ll, [(0, 2)]) [] s2
        else
          u g_t26 33 ((u_l1 (u_l1 (u_l1 li 4 (s.1 29 ((li 3).toNatClampNeg))) 2 ((li 2) ||| ((Int32.ofInt 1) <<< ((s.1 29 ((li 3).toNatClampNeg)) &&& 31)))) 3 ((li 3) + (Int32.ofInt 1))), ll, [(0, 2)]) [] s2
    else
      none
  else
    some (some (.inl (li 2)), s) := (u_E (5, 17, 5, 5) [33] 120 g_t26 33 _ _ _).trans rfl
/-! 27 GoodbyeQuay.hold(I)I -/
set_option maxRecDepth 4000 in
theorem b_27 {W : Nat} (hW : W = 5 ∨ W = 17) (p1 : Int32) (s : u_H) : u_c 27 [.inr (.inr 2), .inl p1] s =
  u_bi (u_c 35 [.inr (.inr 2), .inl p1] s) fun x2 s1 =>
  if x2 = 0 then
    some (some (.inl (u_k (-1))), s1)
  else
    u_bi (u_c 33 [.inr (.inr 2), .inl p1] s1) fun x4 s3 =>
    if x4 = 0 then
      if s3.2.2.1 = W then
        u_bi (u_c 155 [.inr (.inr W), .inl p1] s3) fun x6 s5 =>
        u_bi (u_c 8 [.inr (.inr 2), .inl (Int32.ofInt 0)] s5) fun x8 s7 =>
        u_bi (u_c 8 [.inr (.inr 2), .inl (Int32.ofInt 1)] s7) fun x10 s9 =>
        u_bv (u_c 52 [.inr (.inr 2)] s9) fun s11 =>
        if u_in p1 5 = true then
          u g_t27 56 ((u_l1 (u_l1 (u_l1 (u_l1 u_z1 1 p1) 2 (x6 &&& (x8 ||| x10))) 3 (s11.1 39 (p1.toNatClampNeg))) 4 (Int32.ofInt 0)), u_z2, [(0, 2)]) [] s11
        else
          none
      else
        u g_t27 22 ((u_l1 u_z1 1 p1), u_z2, [(0, 2)]) [.inr (.inr s3.2.2.1)] s3
    else
      some (some (.inl (u_k (-1))), s3) := by
  rcases hW with rfl | rfl
  · exact (u_cE (t := g_t27) rfl _ _).trans ((u_E (5, 17, 5, 5) [56] 120 g_t27 0 _ _ _).trans rfl)
  · exact (u_cE (t := g_t27) rfl _ _).trans ((u_E (17, 5, 17, 17) [56] 120 g_t27 0 _ _ _).trans rfl)
set_option maxRecDepth 4000 in
theorem b_27_56 (li : Nat → Int32) (ll : Nat → Int64) (s : u_H) : u g_t27 56 (li, ll, [(0, 2)]) [] s =
  if (u_k 240) < (li 4) then
    some (some (.inl (u_k (-1))), s)
  else
    if u_in (li 1) 5 = true then
      u_bv (u_c 166 [.inr (.inr 38), .inl (Int32.ofInt 0)] ((y_u s.1 39 ((li 1).toNatClampNeg) ((li 3) + (li 4))), s.2)) fun s1 =>
      if ((s1.1 36 16) &&& (li 2)) = (li 2) then
        some (some (.inl (li 4)), s1)
      else
        u g_t27 56 ((u_l1 li 4 ((li 4) + (Int32.ofInt 1))), ll, [(0, 2)]) [] s1
    else
      none := (u_E (5, 17, 5, 5) [56] 120 g_t27 56 _ _ _).trans rfl
/-! 28 GoodbyeQuay.holds(II)Z -/
set_option maxRecDepth 4000 in
theorem b_28 (p1 : Int32) (p2 : Int32) (s : u_H) : u_c 28 [.inl p1, .inl p2] s =
  if ((p1 >>> (p2 &&& 31)) &&& (Int32.ofInt 1)) = 0 then
    some (some (.inl (Int32.ofInt 0)), s)
  else
    some (some (.inl (Int32.ofInt 1)), s) := (u_cE (t := g_t28) rfl _ _).trans ((u_E (5, 17, 5, 5) [] 120 g_t28 0 _ _ _).trans rfl)
/-! 29 GoodbyeQuay.image(I)I -/
set_option maxRecDepth 4000 in
theorem b_29 (p1 : Int32) (s : u_H) : u_c 29 [.inr (.inr 2), .inl p1] s =
  if p1 < 0 then
    some (some (.inl (u_k (-1))), s)
  else
    if p1 < (Int32.ofInt 3) then
      u_bv (u_c 149 [.inr (.inr 30), .inr (.inr 37), .inl (p1 * (Int32.ofInt 24))] s) fun s1 =>
      some (some (.inl (s1.1 28 8)), ((y_u s1.1 0 7 ((s1.1 0 7) ||| ((Int32.ofInt 1) <<< (p1 &&& 31)))), s1.2))
    else
      some (some (.inl (u_k (-1))), s) := (u_cE (t := g_t29) rfl _ _).trans ((u_E (5, 17, 5, 5) [] 120 g_t29 0 _ _ _).trans rfl)
/-! 30 GoodbyeQuay.inQueue(I)Z -/
set_option maxRecDepth 4000 in
theorem b_30 (p1 : Int32) (s : u_H) : u_c 30 [.inr (.inr 2), .inl p1] s =
  u_bi (u_c 34 [.inr (.inr 2), .inl p1] s) fun x2 s1 =>
  if x2 = 0 then
    some (some (.inl (Int32.ofInt 0)), s1)
  else
    if u_in p1 7 = true then
      if (s1.1 30 (p1.toNatClampNeg)) = 0 then
        some (some (.inl (Int32.ofInt 1)), s1)
      else
        some (some (.inl (Int32.ofInt 0)), s1)
    else
      none := (u_cE (t := g_t30) rfl _ _).trans ((u_E (5, 17, 5, 5) [] 120 g_t30 0 _ _ _).trans rfl)
/-! 31 GoodbyeQuay.insist(I)I -/
set_option maxRecDepth 4000 in
theorem b_31 (p1 : Int32) (s : u_H) : u_c 31 [.inr (.inr 2), .inl p1] s =
  u_bi (u_c 3 [.inr (.inr 2), .inl p1, .inl (Int32.ofInt 0)] s) fun x2 s1 =>
  some (some (.inl x2), s1) := (u_cE (t := g_t31) rfl _ _).trans ((u_E (5, 17, 5, 5) [] 120 g_t31 0 _ _ _).trans rfl)
/-! 32 GoodbyeQuay.isFewer(II)Z -/
set_option maxRecDepth 4000 in
theorem b_32 (p1 : Int32) (p2 : Int32) (s : u_H) : u_c 32 [.inl p1, .inl p2] s =
  if p2 = (u_k (-1)) then
    some (some (.inl (Int32.ofInt 1)), s)
  else
    u_bi (u_c 325 [.inl p1] s) fun x2 s1 =>
    u_bi (u_c 325 [.inl p2] s1) fun x4 s3 =>
    if x2 < x4 then
      some (some (.inl (Int32.ofInt 1)), s3)
    else
      some (some (.inl (Int32.ofInt 0)), s3) := (u_cE (t := g_t32) rfl _ _).trans ((u_E (5, 17, 5, 5) [] 120 g_t32 0 _ _ _).trans rfl)
/-! 33 GoodbyeQuay.isGone(I)Z -/
set_option maxRecDepth 4000 in
theorem b_33 {W : Nat} (hW : W = 5 ∨ W = 17) (p1 : Int32) (s : u_H) : u_c 33 [.inr (.inr 2), .inl p1] s =
  if s.2.2.1 = W then
    u_bi (u_c 148 [.inr (.inr 30), .inr (.inr W), .inl p1] s) fun x2 s1 =>
    if (s.1 28 8) < x2 then
      some (some (.inl (Int32.ofInt 0)), s1)
    else
      some (some (.inl (Int32.ofInt 1)), s1)
  else
    u g_t33 15 ((u_l1 u_z1 1 p1), u_z2, [(0, 2)]) [.inr (.inr s.2.2.1), .inr (.inr 30), .inl (s.1 28 8)] s := by
  rcases hW with rfl | rfl
  · exact (u_cE (t := g_t33) rfl _ _).trans ((u_E (5, 17, 5, 5) [] 120 g_t33 0 _ _ _).trans rfl)
  · exact (u_cE (t := g_t33) rfl _ _).trans ((u_E (17, 5, 17, 17) [] 120 g_t33 0 _ _ _).trans rfl)
/-! 34 GoodbyeQuay.isPair(I)Z -/
set_option maxRecDepth 4000 in
theorem b_34 {W : Nat} (hW : W = 5 ∨ W = 17) (p1 : Int32) (s : u_H) : u_c 34 [.inr (.inr 2), .inl p1] s =
  if p1 < 0 then
    some (some (.inl (Int32.ofInt 0)), s)
  else
    if s.2.2.1 = W then
      if p1 < (s.1 (W - 2) 4) then
        some (some (.inl (Int32.ofInt 1)), s)
      else
        some (some (.inl (Int32.ofInt 0)), s)
    else
      u g_t34 9 ((u_l1 u_z1 1 p1), u_z2, [(0, 2)]) [.inr (.inr s.2.2.1), .inl p1] s := by
  rcases hW with rfl | rfl
  · exact (u_cE (t := g_t34) rfl _ _).trans ((u_E (5, 17, 5, 5) [] 120 g_t34 0 _ _ _).trans rfl)
  · exact (u_cE (t := g_t34) rfl _ _).trans ((u_E (17, 5, 17, 17) [] 120 g_t34 0 _ _ _).trans rfl)
/-! 35 GoodbyeQuay.isShip(I)Z -/
set_option maxRecDepth 4000 in
theorem b_35 {W : Nat} (hW : W = 5 ∨ W = 17) (p1 : Int32) (s : u_H) : u_c 35 [.inr (.inr 2), .inl p1] s =
  if p1 < 0 then
    some (some (.inl (Int32.ofInt 0)), s)
  else
    if s.2.2.1 = W then
      if p1 < (s.1 (W - 2) 0) then
        some (some (.inl (Int32.ofInt 1)), s)
      else
        some (some (.inl (Int32.ofInt 0)), s)
    else
      u g_t35 9 ((u_l1 u_z1 1 p1), u_z2, [(0, 2)]) [.inr (.inr s.2.2.1), .inl p1] s := by
  rcases hW with rfl | rfl
  · exact (u_cE (t := g_t35) rfl _ _).trans ((u_E (5, 17, 5, 5) [] 120 g_t35 0 _ _ _).trans rfl)
  · exact (u_cE (t := g_t35) rfl _ _).trans ((u_E (17, 5, 17, 17) [] 120 g_t35 0 _ _ _).trans rfl)
/-! 36 GoodbyeQuay.join(I)I -/
set_option maxRecDepth 4000 in
theorem b_36 {W : Nat} (hW : W = 5 ∨ W = 17) (p1 : Int32) (s : u_H) : u_c 36 [.inr (.inr 2), .inl p1] s =
  u_bi (u_c 34 [.inr (.inr 2), .inl p1] s) fun x2 s1 =>
  if x2 = 0 then
    some (some (.inl (u_k (-1))), s1)
  else
    if s1.2.2.1 = W then
      if u_in p1 7 = true then
        u_bi (u_c 33 [.inr (.inr 2), .inl (s1.1 (W + 3) (p1.toNatClampNeg))] s1) fun x4 s3 =>
        if x4 = 0 then
          if (s3.1 28 1) < (Int32.ofInt 7) then
            if u_in p1 7 = true then
              if (s3.1 30 (p1.toNatClampNeg)) = (Int32.ofInt 4) then
                u g_t36 66 ((u_l1 u_z1 1 p1), u_z2, [(0, 2)]) [] s3
              else
                if u_in p1 7 = true then
                  if (s3.1 30 (p1.toNatClampNeg)) = (Int32.ofInt 3) then
                    u g_t36 66 ((u_l1 u_z1 1 p1), u_z2, [(0, 2)]) [] s3
                  else
                    some (some (.inl (u_k (-1))), s3)
                else
                  none
            else
              none
          else
            some (some (.inl (u_k (-1))), s3)
        else
          some (some (.inl (u_k (-1))), s3)
      else
        none
    else
      u g_t36 13 ((u_l1 u_z1 1 p1), u_z2, [(0, 2)]) [.inr (.inr s1.2.2.1), .inr (.inr 2)] s1 := by
  rcases hW with rfl | rfl
  · exact (u_cE (t := g_t36) rfl _ _).trans ((u_E (5, 17, 5, 5) [66] 120 g_t36 0 _ _ _).trans rfl)
  · exact (u_cE (t := g_t36) rfl _ _).trans ((u_E (17, 5, 17, 17) [66] 120 g_t36 0 _ _ _).trans rfl)
set_option maxRecDepth 4000 in
theorem b_36_66 (li : Nat → Int32) (ll : Nat → Int64) (s : u_H) : u g_t36 66 (li, ll, [(0, 2)]) [] s =
  if u_in (li 1) 7 = true then
    if u_in (s.1 28 1) 7 = true then
      u_bv (u_c 94 [.inr (.inr 35), .inr (.inr 30)] ((y_u (y_u (y_u s.1 30 ((li 1).toNatClampNeg) (Int32.ofInt 0)) 29 ((s.1 28 1).toNatClampNeg) (li 1)) 28 1 ((s.1 28 1) + (Int32.ofInt 1))), s.2)) fun s1 =>
      some (some (.inl ((s1.1 28 1) - (Int32.ofInt 1))), s1)
    else
      none
  else
    none := (u_E (5, 17, 5, 5) [66] 120 g_t36 66 _ _ _).trans rfl
/-! 37 GoodbyeQuay.last(II)I -/
set_option maxRecDepth 4000 in
theorem b_37 (p1 : Int32) (p2 : Int32) (s : u_H) : u_c 37 [.inr (.inr 2), .inl p1, .inl p2] s =
  u_bi (u_c 35 [.inr (.inr 2), .inl p1] s) fun x2 s1 =>
  if x2 = 0 then
    some (some (.inl (u_k (-1))), s1)
  else
    if p2 < (Int32.ofInt 1) then
      some (some (.inl (u_k (-1))), s1)
    else
      if (Int32.ofInt 30) < p2 then
        some (some (.inl (u_k (-1))), s1)
      else
        u_bv (u_c 52 [.inr (.inr 2)] s1) fun s3 =>
        u g_t37 48 ((u_l1 (u_l1 (u_l1 u_z1 1 p1) 2 p2) 3 (u_k 240)), u_z2, [(0, 2)]) [] ((y_u (y_u s3.1 36 4 p1) 38 7 p2), s3.2) := (u_cE (t := g_t37) rfl _ _).trans ((u_E (5, 17, 5, 5) [48] 120 g_t37 0 _ _ _).trans rfl)
set_option maxRecDepth 4000 in
theorem b_37_48 (li : Nat → Int32) (ll : Nat → Int64) (s : u_H) : u g_t37 48 (li, ll, [(0, 2)]) [] s =
  if (li 3) < 0 then
    some (some (.inl (u_k (-1))), s)
  else
    u_bi (u_c 159 [.inr (.inr 38), .inl (li 3)] s) fun x2 s1 =>
    if x2 = 0 then
      u g_t37 48 ((u_l1 li 3 ((li 3) + (u_k (-1)))), ll, [(0, 2)]) [] s1
    else
      some (some (.inl (li 3)), s1) := (u_E (5, 17, 5, 5) [48] 120 g_t37 48 _ _ _).trans rfl
/-! 38 GoodbyeQuay.later(I)I -/
set_option maxRecDepth 4000 in
theorem b_38 (p1 : Int32) (s : u_H) : u_c 38 [.inr (.inr 2), .inl p1] s =
  if p1 < 0 then
    some (some (.inl (u_k (-1))), s)
  else
    if (u_k 1000) < p1 then
      some (some (.inl (u_k (-1))), s)
    else
      if (u_kv 100000) < ((s.1 55 0) + p1) then
        some (some (.inl (u_k (-1))), s)
      else
        some (some (.inl ((s.1 55 0) + p1)), ((y_u s.1 55 0 ((s.1 55 0) + p1)), s.2)) := (u_cE (t := g_t38) rfl _ _).trans ((u_E (5, 17, 5, 5) [] 120 g_t38 0 _ _ _).trans rfl)
/-! 39 GoodbyeQuay.law(I)I -/
set_option maxRecDepth 4000 in
theorem b_39 (p1 : Int32) (s : u_H) : u_c 39 [.inr (.inr 2), .inl p1] s =
  if p1 < (Int32.ofInt 1) then
    some (some (.inl (u_k (-1))), s)
  else
    if (Int32.ofInt 60) < p1 then
      some (some (.inl (u_k (-1))), s)
    else
      u_bv (u_c 52 [.inr (.inr 2)] s) fun s1 =>
      u_bi (u_c 76 [.inr (.inr 2)] ((y_u s1.1 36 7 p1), s1.2)) fun x3 s2 =>
      some (some (.inl x3), s2) := (u_cE (t := g_t39) rfl _ _).trans ((u_E (5, 17, 5, 5) [] 120 g_t39 0 _ _ _).trans rfl)
/-! 40 GoodbyeQuay.layBestOrder()I -/
set_option maxRecDepth 4000 in
theorem b_40 (s : u_H) : u_c 40 [.inr (.inr 2)] s =
  u_bi (u_c 8 [.inr (.inr 2), .inl (Int32.ofInt 0)] s) fun x2 s1 =>
  u_bi (u_c 88 [.inr (.inr 47), .inl x2] s1) fun x4 s3 =>
  if u_cpk (s3.1 28 1) (Int32.ofInt 0) (Int32.ofInt 0) 7 7 = true then
    some (some (.inl x4), ((y_u (u_cp s3.1 64 0 47 0 ((s3.1 28 1).toNatClampNeg)) 0 14 (s3.1 28 1)), s3.2))
  else
    none := (u_cE (t := g_t40) rfl _ _).trans ((u_E (5, 17, 5, 5) [] 120 g_t40 0 _ _ _).trans rfl)
/-! 41 GoodbyeQuay.length(I)I -/
set_option maxRecDepth 4000 in
theorem b_41 (p1 : Int32) (s : u_H) : u_c 41 [.inr (.inr 2), .inl p1] s =
  u_bi (u_c 30 [.inr (.inr 2), .inl p1] s) fun x2 s1 =>
  if x2 = 0 then
    some (some (.inl (u_k (-1))), s1)
  else
    u_bi (u_c 42 [.inr (.inr 2), .inl p1] s1) fun x4 s3 =>
    some (some (.inl x4), s3) := (u_cE (t := g_t41) rfl _ _).trans ((u_E (5, 17, 5, 5) [] 120 g_t41 0 _ _ _).trans rfl)
/-! 42 GoodbyeQuay.lengthNow(I)I -/
set_option maxRecDepth 4000 in
theorem b_42 (p1 : Int32) (s : u_H) : u_c 42 [.inr (.inr 2), .inl p1] s =
  u_bv (u_c 52 [.inr (.inr 2)] s) fun s1 =>
  u_bi (u_c 147 [.inr (.inr 30), .inl p1] s1) fun x3 s2 =>
  u_bi (u_c 162 [.inr (.inr 38), .inl p1, .inl (((s1.1 28 1) - (Int32.ofInt 1)) - x3), .inl (s2.1 28 8)] s2) fun x5 s4 =>
  some (some (.inl x5), s4) := (u_cE (t := g_t42) rfl _ _).trans ((u_E (5, 17, 5, 5) [] 120 g_t42 0 _ _ _).trans rfl)
/-! 43 GoodbyeQuay.lets(I)I -/
set_option maxRecDepth 4000 in
theorem b_43 (p1 : Int32) (s : u_H) : u_c 43 [.inr (.inr 2), .inl p1] s =
  if p1 < 0 then
    some (some (.inl (u_k (-1))), s)
  else
    if (Int32.ofInt 60) < p1 then
      some (some (.inl (u_k (-1))), s)
    else
      u_bv (u_c 52 [.inr (.inr 2)] s) fun s1 =>
      u_bv (u_c 166 [.inr (.inr 38), .inl p1] s1) fun s2 =>
      some (some (.inl (s2.1 36 16)), s2) := (u_cE (t := g_t43) rfl _ _).trans ((u_E (5, 17, 5, 5) [] 120 g_t43 0 _ _ _).trans rfl)
/-! 44 GoodbyeQuay.lies(I)I -/
set_option maxRecDepth 4000 in
theorem b_44 (p1 : Int32) (s : u_H) : u_c 44 [.inr (.inr 2), .inl p1] s =
  if p1 < 0 then
    some (some (.inl (u_k (-2))), s)
  else
    if p1 < (s.1 0 14) then
      if u_in p1 7 = true then
        some (some (.inl (s.1 64 (p1.toNatClampNeg))), s)
      else
        none
    else
      some (some (.inl (u_k (-2))), s) := (u_cE (t := g_t44) rfl _ _).trans ((u_E (5, 17, 5, 5) [] 120 g_t44 0 _ _ _).trans rfl)
/-! 45 GoodbyeQuay.litter()I -/
set_option maxRecDepth 4000 in
theorem b_45 (s : u_H) : u_c 45 [.inr (.inr 2)] s =
  u_bv (u_c 52 [.inr (.inr 2)] s) fun s1 =>
  u_bv (u_c 166 [.inr (.inr 38), .inl (Int32.ofInt 0)] s1) fun s2 =>
  u_bi (u_c 325 [.inl (s2.1 36 17)] s2) fun x4 s3 =>
  some (some (.inl ((s2.1 28 7) + x4)), s3) := (u_cE (t := g_t45) rfl _ _).trans ((u_E (5, 17, 5, 5) [] 120 g_t45 0 _ _ _).trans rfl)
/-! 46 GoodbyeQuay.love()I -/
set_option maxRecDepth 4000 in
theorem b_46 (s : u_H) : u_c 46 [.inr (.inr 2)] s =
  u_bv (u_c 52 [.inr (.inr 2)] s) fun s1 =>
  u_bv (u_c 166 [.inr (.inr 38), .inl (Int32.ofInt 0)] s1) fun s2 =>
  u_bi (u_c 47 [.inr (.inr 2), .inl (s2.1 36 16)] s2) fun x4 s3 =>
  some (some (.inl x4), s3) := (u_cE (t := g_t46) rfl _ _).trans ((u_E (5, 17, 5, 5) [] 120 g_t46 0 _ _ _).trans rfl)
/-! 47 GoodbyeQuay.loveOf(I)I -/
set_option maxRecDepth 4000 in
theorem b_47 (p1 : Int32) (s : u_H) : u_c 47 [.inr (.inr 2), .inl p1] s =
  u g_t47 4 ((u_l1 (u_l1 (u_l1 u_z1 1 p1) 2 (Int32.ofInt 0)) 3 (Int32.ofInt 0)), u_z2, [(0, 2)]) [] s := (u_cE (t := g_t47) rfl _ _).trans ((u_E (5, 17, 5, 5) [4] 120 g_t47 0 _ _ _).trans rfl)
set_option maxRecDepth 4000 in
theorem b_47_4 {W : Nat} (hW : W = 5 ∨ W = 17) (li : Nat → Int32) (ll : Nat → Int64) (s : u_H) : u g_t47 4 (li, ll, [(0, 2)]) [] s =
  if s.2.2.1 = W then
    if (li 3) < (s.1 (W - 2) 4) then
      u_bi (u_c 28 [.inl (li 1), .inl (li 3)] s) fun x2 s1 =>
      if x2 = 0 then
        u g_t47 4 ((u_l1 (u_l1 li 2 ((li 2) + (Int32.ofInt 0))) 3 ((li 3) + (Int32.ofInt 1))), ll, [(0, 2)]) [] s1
      else
        if s1.2.2.1 = W then
          if u_in (li 3) 7 = true then
            u g_t47 4 ((u_l1 (u_l1 li 2 ((li 2) + (s1.1 (W + 5) ((li 3).toNatClampNeg)))) 3 ((li 3) + (Int32.ofInt 1))), ll, [(0, 2)]) [] s1
          else
            none
        else
          u g_t47 28 (li, ll, [(0, 2)]) [.inr (.inr s1.2.2.1), .inl (li 2)] s1
    else
      some (some (.inl (li 2)), s)
  else
    u g_t47 9 (li, ll, [(0, 2)]) [.inr (.inr s.2.2.1), .inl (li 3)] s := by
  rcases hW with rfl | rfl
  · exact (u_E (5, 17, 5, 5) [4] 120 g_t47 4 _ _ _).trans rfl
  · exact (u_E (17, 5, 17, 17) [4] 120 g_t47 4 _ _ _).trans rfl
/-! 48 GoodbyeQuay.minute()I -/
set_option maxRecDepth 4000 in
theorem b_48 (s : u_H) : u_c 48 [.inr (.inr 2)] s =
  u_bi (u_c 144 [.inr (.inr 30)] s) fun x2 s1 =>
  if x2 = 0 then
    if (s1.1 28 8) < (u_k 999) then
      u g_t48 27 ((u_l1 u_z1 1 (Int32.ofInt 0)), u_z2, [(0, 2)]) [] s1
    else
      some (some (.inl (u_k (-1))), s1)
  else
    some (some (.inl (u_k (-1))), s1) := (u_cE (t := g_t48) rfl _ _).trans ((u_E (5, 17, 5, 5) [27] 120 g_t48 0 _ _ _).trans rfl)
set_option maxRecDepth 4000 in
theorem b_48_27 {W : Nat} (hW : W = 5 ∨ W = 17) (li : Nat → Int32) (ll : Nat → Int64) (s : u_H) : u g_t48 27 (li, ll, [(0, 2)]) [] s =
  if s.2.2.1 = W then
    if (li 1) < (s.1 (W - 2) 10) then
      if u_in (li 1) 2 = true then
        if (s.1 31 ((li 1).toNatClampNeg)) = (u_k (-1)) then
          u_bv (u_c 22 [.inr (.inr 2), .inl (li 1)] s) fun s1 =>
          u g_t48 27 ((u_l1 li 1 ((li 1) + (Int32.ofInt 1))), ll, [(0, 2)]) [] s1
        else
          u g_t48 27 ((u_l1 li 1 ((li 1) + (Int32.ofInt 1))), ll, [(0, 2)]) [] s
      else
        none
    else
      u_bi (u_c 82 [.inr (.inr 2)] s) fun x3 s2 =>
      u_bv (u_c 15 [.inr (.inr 2)] ((y_u s2.1 28 8 ((s2.1 28 8) + (Int32.ofInt 1))), s2.2)) fun s4 =>
      u_bv (u_c 94 [.inr (.inr 35), .inr (.inr 30)] s4) fun s5 =>
      some (some (.inl x3), s5)
  else
    u g_t48 32 (li, ll, [(0, 2)]) [.inr (.inr s.2.2.1), .inl (li 1)] s := by
  rcases hW with rfl | rfl
  · exact (u_E (5, 17, 5, 5) [27] 120 g_t48 27 _ _ _).trans rfl
  · exact (u_E (17, 5, 17, 17) [27] 120 g_t48 27 _ _ _).trans rfl
/-! 49 GoodbyeQuay.missing()I -/
set_option maxRecDepth 4000 in
theorem b_49 (s : u_H) : u_c 49 [.inr (.inr 2)] s =
  u_bv (u_c 52 [.inr (.inr 2)] s) fun s1 =>
  u_bv (u_c 166 [.inr (.inr 38), .inl (Int32.ofInt 0)] s1) fun s2 =>
  u_bi (u_c 8 [.inr (.inr 2), .inl (Int32.ofInt 3)] s2) fun x4 s3 =>
  some (some (.inl (x4 ||| (s3.1 36 17))), s3) := (u_cE (t := g_t49) rfl _ _).trans ((u_E (5, 17, 5, 5) [] 120 g_t49 0 _ _ _).trans rfl)
/-! 50 GoodbyeQuay.nextSeed(I)I -/
set_option maxRecDepth 4000 in
theorem b_50 (p1 : Int32) (s : u_H) : u_c 50 [.inl p1] s =
  if (u_k 1000) = 0 then
    none
  else
    some (some (.inl (((p1 * (u_k 137)) + (Int32.ofInt 71)) - ((p1 * (u_k 137)) + (Int32.ofInt 71)) / (u_k 1000) * (u_k 1000))), s) := (u_cE (t := g_t50) rfl _ _).trans ((u_E (5, 17, 5, 5) [] 120 g_t50 0 _ _ _).trans rfl)
/-! 51 GoodbyeQuay.odds(II)I -/
set_option maxRecDepth 4000 in
theorem b_51 (p1 : Int32) (p2 : Int32) (s : u_H) : u_c 51 [.inr (.inr 2), .inl p1, .inl p2] s =
  if p1 < 0 then
    some (some (.inl (u_k (-1))), s)
  else
    if (Int32.ofInt 4) < p1 then
      some (some (.inl (u_k (-1))), s)
    else
      if p2 < 0 then
        some (some (.inl (u_k (-1))), s)
      else
        if (Int32.ofInt 1) < p2 then
          some (some (.inl (u_k (-1))), s)
        else
          u g_t51 28 ((u_l1 (u_l1 (u_l1 (u_l1 (u_l1 u_z1 1 p1) 2 p2) 3 (Int32.ofInt 1)) 4 (Int32.ofInt 1)) 5 (Int32.ofInt 0)), u_z2, [(0, 2)]) [] s := (u_cE (t := g_t51) rfl _ _).trans ((u_E (5, 17, 5, 5) [28] 120 g_t51 0 _ _ _).trans rfl)
set_option maxRecDepth 4000 in
theorem b_51_28 {W : Nat} (hW : W = 5 ∨ W = 17) (li : Nat → Int32) (ll : Nat → Int64) (s : u_H) : u g_t51 28 (li, ll, [(0, 2)]) [] s =
  if (li 5) < (li 1) then
    if s.2.2.1 = W then
      u g_t51 28 ((u_l1 (u_l1 (u_l1 li 3 ((li 3) * ((Int32.ofInt 100) - (s.1 (W - 2) 11)))) 4 ((li 4) * (Int32.ofInt 100))) 5 ((li 5) + (Int32.ofInt 1))), ll, [(0, 2)]) [] s
    else
      u g_t51 41 (li, ll, [(0, 2)]) [.inr (.inr s.2.2.1), .inl (Int32.ofInt 100), .inl (li 3)] s
  else
    u_bi (u_c 55 [.inl (li 3), .inl (li 4), .inl (li 2)] s) fun x2 s1 =>
    some (some (.inl x2), s1) := by
  rcases hW with rfl | rfl
  · exact (u_E (5, 17, 5, 5) [28] 120 g_t51 28 _ _ _).trans rfl
  · exact (u_E (17, 5, 17, 17) [28] 120 g_t51 28 _ _ _).trans rfl
/-! 52 GoodbyeQuay.openTrial()V -/
set_option maxRecDepth 4000 in
theorem b_52 {W : Nat} (hW : W = 5 ∨ W = 17) (s : u_H) : u_c 52 [.inr (.inr 2)] s =
  if s.2.2.1 = W then
    u_bv (u_c 164 [.inr (.inr 38), .inr (.inr W), .inr (.inr 30)] s) fun s1 =>
    some (none, s1)
  else
    u g_t52 8 (u_z1, u_z2, [(0, 2)]) [.inr (.inr s.2.2.1), .inr (.inr 38)] s := by
  rcases hW with rfl | rfl
  · exact (u_cE (t := g_t52) rfl _ _).trans ((u_E (5, 17, 5, 5) [] 120 g_t52 0 _ _ _).trans rfl)
  · exact (u_cE (t := g_t52) rfl _ _).trans ((u_E (17, 5, 17, 17) [] 120 g_t52 0 _ _ _).trans rfl)
/-! 53 GoodbyeQuay.order()I -/
set_option maxRecDepth 4000 in
theorem b_53 (s : u_H) : u_c 53 [.inr (.inr 2)] s =
  u_bv (u_c 52 [.inr (.inr 2)] s) fun s1 =>
  u_bv (u_c 166 [.inr (.inr 38), .inl (Int32.ofInt 0)] s1) fun s2 =>
  u g_t53 14 ((u_l1 u_z1 1 (Int32.ofInt 0)), u_z2, [(0, 2)]) [] s2 := (u_cE (t := g_t53) rfl _ _).trans ((u_E (5, 17, 5, 5) [14] 120 g_t53 0 _ _ _).trans rfl)
set_option maxRecDepth 4000 in
theorem b_53_14 (li : Nat → Int32) (ll : Nat → Int64) (s : u_H) : u g_t53 14 (li, ll, [(0, 2)]) [] s =
  if (li 1) < (Int32.ofInt 7) then
    if u_in (li 1) 7 = true then
      u g_t53 14 ((u_l1 li 1 ((li 1) + (Int32.ofInt 1))), ll, [(0, 2)]) [] ((y_u s.1 46 ((li 1).toNatClampNeg) (Int32.ofInt 1)), s.2)
    else
      none
  else
    u_bi (u_c 8 [.inr (.inr 2), .inl (Int32.ofInt 0)] s) fun x2 s1 =>
    u_bi (u_c 325 [.inl ((s.1 36 16) &&& (x2 ^^^ (u_k (-1))))] s1) fun x4 s3 =>
    u_bi (u_c 40 [.inr (.inr 2)] s3) fun x6 s5 =>
    some (some (.inl (x6 + x4)), s5) := (u_E (5, 17, 5, 5) [14] 120 g_t53 14 _ _ _).trans rfl
/-! 54 GoodbyeQuay.pair(II)I -/
set_option maxRecDepth 4000 in
theorem b_54 {W : Nat} (hW : W = 5 ∨ W = 17) (p1 : Int32) (p2 : Int32) (s : u_H) : u_c 54 [.inr (.inr 2), .inl p1, .inl p2] s =
  u_bi (u_c 34 [.inr (.inr 2), .inl p1] s) fun x2 s1 =>
  if x2 = 0 then
    some (some (.inl (u_k (-1))), s1)
  else
    if p2 = (Int32.ofInt 0) then
      if s1.2.2.1 = W then
        if u_in p1 7 = true then
          some (some (.inl (s1.1 (W + 3) (p1.toNatClampNeg))), s1)
        else
          none
      else
        u g_t54 52 ((u_l1 (u_l1 u_z1 1 p1) 2 p2), u_z2, [(0, 2)]) [.inr (.inr s1.2.2.1)] s1
    else
      if p2 = (Int32.ofInt 1) then
        if s1.2.2.1 = W then
          if u_in p1 7 = true then
            some (some (.inl (s1.1 (W + 4) (p1.toNatClampNeg))), s1)
          else
            none
        else
          u g_t54 62 ((u_l1 (u_l1 u_z1 1 p1) 2 p2), u_z2, [(0, 2)]) [.inr (.inr s1.2.2.1)] s1
      else
        if p2 = (Int32.ofInt 2) then
          if s1.2.2.1 = W then
            if u_in p1 7 = true then
              some (some (.inl (s1.1 (W + 5) (p1.toNatClampNeg))), s1)
            else
              none
          else
            u g_t54 72 ((u_l1 (u_l1 u_z1 1 p1) 2 p2), u_z2, [(0, 2)]) [.inr (.inr s1.2.2.1)] s1
        else
          if p2 = (Int32.ofInt 3) then
            if u_in p1 7 = true then
              some (some (.inl (s1.1 30 (p1.toNatClampNeg))), s1)
            else
              none
          else
            if p2 = (Int32.ofInt 4) then
              u_bi (u_c 147 [.inr (.inr 30), .inl p1] s1) fun x4 s3 =>
              some (some (.inl x4), s3)
            else
              if p2 = (Int32.ofInt 5) then
                u_bi (u_c 143 [.inr (.inr 30), .inl p1] s1) fun x6 s5 =>
                if x6 = 0 then
                  some (some (.inl (Int32.ofInt 0)), s5)
                else
                  some (some (.inl (Int32.ofInt 1)), s5)
              else
                some (some (.inl (u_k (-1))), s1) := by
  rcases hW with rfl | rfl
  · exact (u_cE (t := g_t54) rfl _ _).trans ((u_E (5, 17, 5, 5) [] 120 g_t54 0 _ _ _).trans rfl)
  · exact (u_cE (t := g_t54) rfl _ _).trans ((u_E (17, 5, 17, 17) [] 120 g_t54 0 _ _ _).trans rfl)
/-! 55 GoodbyeQuay.partOf(III)I -/
set_option maxRecDepth 4000 in
theorem b_55 (p1 : Int32) (p2 : Int32) (p3 : Int32) (s : u_H) : u_c 55 [.inl p1, .inl p2, .inl p3] s =
  u_bi (u_c 11 [.inl (if 0 ≤ p1 then p1 else 0 - p1), .inl p2] s) fun x2 s1 =>
  if x2 = 0 then
    some (some (.inl (Int32.ofInt 0)), s1)
  else
    if p3 = 0 then
      if x2 = 0 then
        none
      else
        some (some (.inl (p1 / x2)), s1)
    else
      if x2 = 0 then
        none
      else
        some (some (.inl (p2 / x2)), s1) := (u_cE (t := g_t55) rfl _ _).trans ((u_E (5, 17, 5, 5) [] 120 g_t55 0 _ _ _).trans rfl)
/-! 56 GoodbyeQuay.quarrelOf(II)I -/
set_option maxRecDepth 4000 in
theorem b_56 (p1 : Int32) (p2 : Int32) (s : u_H) : u_c 56 [.inl p1, .inl p2] s =
  if (p1 - p1 / (Int32.ofInt 100) * (Int32.ofInt 100)) < p2 then
    some (some (.inl (Int32.ofInt 3)), s)
  else
    some (some (.inl (Int32.ofInt 0)), s) := (u_cE (t := g_t56) rfl _ _).trans ((u_E (5, 17, 5, 5) [] 120 g_t56 0 _ _ _).trans rfl)
/-! 57 GoodbyeQuay.quay()I -/
set_option maxRecDepth 4000 in
theorem b_57 {W : Nat} (hW : W = 5 ∨ W = 17) (s : u_H) : u_c 57 [.inr (.inr 2)] s =
  if s.2.2.2.1 = (22 - W) then
    u_bi (u_c 115 [.inr (.inr 29), .inr (.inr (22 - W))] s) fun x2 s1 =>
    if x2 = 0 then
      some (some (.inl (u_k (-1))), ((y_u s1.1 1 1 (Int32.ofInt 0)), s1.2))
    else
      if s1.2.2.2.1 = (22 - W) then
        if s1.2.2.1 = W then
          if (22 - W) = W then
            u_bv (u_c 139 [.inr (.inr 30), .inr (.inr W)] ((y_u s1.1 1 1 (Int32.ofInt 0)), s1.2.1, ((22 - W), W, s1.2.2.2.2.1, s1.2.2.2.2.2))) fun s3 =>
            u_bv (u_c 95 [.inr (.inr 35), .inr (.inr 30)] s3) fun s4 =>
            if s4.2.2.1 = W then
              u_bv (u_c 136 [.inr (.inr 57), .inr (.inr 38), .inr (.inr W), .inr (.inr 30)] ((y_u (y_u s4.1 0 7 (Int32.ofInt 0)) 0 14 (Int32.ofInt 0)), s4.2)) fun s5 =>
              if s5.2.2.1 = W then
                some (some (.inl (s5.1 (W - 2) 4)), s5)
              else
                u g_t57 99 ((u_l1 u_z1 1 x2), u_z2, [(2, (22 - W)), (0, 2)]) [.inr (.inr s5.2.2.1)] s5
            else
              u g_t57 88 ((u_l1 u_z1 1 x2), u_z2, [(2, (22 - W)), (0, 2)]) [.inr (.inr s4.2.2.1), .inr (.inr 38), .inr (.inr 57)] ((y_u (y_u s4.1 0 7 (Int32.ofInt 0)) 0 14 (Int32.ofInt 0)), s4.2)
          else
            u g_t57 52 ((u_l1 u_z1 1 x2), u_z2, [(2, (22 - W)), (0, 2)]) [.inr (.inr (22 - W)), .inr (.inr 30)] ((y_u s1.1 1 1 (Int32.ofInt 0)), s1.2.1, ((22 - W), W, s1.2.2.2.2.1, s1.2.2.2.2.2))
        else
          u g_t57 36 ((u_l1 u_z1 1 x2), u_z2, [(2, (22 - W)), (0, 2)]) [.inr (.inr s1.2.2.1), .inr (.inr 2)] ((y_u s1.1 1 1 (Int32.ofInt 0)), s1.2)
      else
        u g_t57 30 ((u_l1 u_z1 1 x2), u_z2, [(0, 2)]) [.inr (.inr s1.2.2.2.1)] ((y_u s1.1 1 1 (Int32.ofInt 0)), s1.2)
  else
    u g_t57 8 (u_z1, u_z2, [(0, 2)]) [.inr (.inr s.2.2.2.1), .inr (.inr 29)] s := by
  rcases hW with rfl | rfl
  · exact (u_cE (t := g_t57) rfl _ _).trans ((u_E (5, 17, 5, 5) [] 120 g_t57 0 _ _ _).trans rfl)
  · exact (u_cE (t := g_t57) rfl _ _).trans ((u_E (17, 5, 17, 17) [] 120 g_t57 0 _ _ _).trans rfl)
/-! 58 GoodbyeQuay.queue(I)I -/
set_option maxRecDepth 4000 in
theorem b_58 (p1 : Int32) (s : u_H) : u_c 58 [.inr (.inr 2), .inl p1] s =
  if p1 < 0 then
    some (some (.inl (u_k (-1))), s)
  else
    if p1 < (s.1 28 1) then
      if u_in p1 7 = true then
        some (some (.inl (s.1 29 (p1.toNatClampNeg))), s)
      else
        none
    else
      some (some (.inl (u_k (-1))), s) := (u_cE (t := g_t58) rfl _ _).trans ((u_E (5, 17, 5, 5) [] 120 g_t58 0 _ _ _).trans rfl)
/-! 59 GoodbyeQuay.rail(II)I -/
set_option maxRecDepth 4000 in
theorem b_59 {W : Nat} (hW : W = 5 ∨ W = 17) (p1 : Int32) (p2 : Int32) (s : u_H) : u_c 59 [.inr (.inr 2), .inl p1, .inl p2] s =
  if p1 < 0 then
    some (some (.inl (u_k (-1))), s)
  else
    if s.2.2.1 = W then
      if p1 < (s.1 (W - 2) 10) then
        if p2 = 0 then
          if u_in p1 2 = true then
            some (some (.inl (s.1 31 (p1.toNatClampNeg))), s)
          else
            none
        else
          if p2 = (Int32.ofInt 1) then
            if u_in p1 2 = true then
              some (some (.inl (s.1 32 (p1.toNatClampNeg))), s)
            else
              none
          else
            some (some (.inl (u_k (-1))), s)
      else
        some (some (.inl (u_k (-1))), s)
    else
      u g_t59 9 ((u_l1 (u_l1 u_z1 1 p1) 2 p2), u_z2, [(0, 2)]) [.inr (.inr s.2.2.1), .inl p1] s := by
  rcases hW with rfl | rfl
  · exact (u_cE (t := g_t59) rfl _ _).trans ((u_E (5, 17, 5, 5) [] 120 g_t59 0 _ _ _).trans rfl)
  · exact (u_cE (t := g_t59) rfl _ _).trans ((u_E (17, 5, 17, 17) [] 120 g_t59 0 _ _ _).trans rfl)
/-! 60 GoodbyeQuay.redo()Z -/
set_option maxRecDepth 4000 in
theorem b_60 (s : u_H) : u_c 60 [.inr (.inr 2)] s =
  u_bi (u_c 97 [.inr (.inr 35), .inr (.inr 30)] s) fun x2 s1 =>
  if q_ib x2 = true then some (some (.inl x2), s1) else none := (u_cE (t := g_t60) rfl _ _).trans ((u_E (5, 17, 5, 5) [] 120 g_t60 0 _ _ _).trans rfl)
/-! 61 GoodbyeQuay.room()I -/
set_option maxRecDepth 4000 in
theorem b_61 (s : u_H) : u_c 61 [.inr (.inr 2)] s =
  u_bv (u_c 52 [.inr (.inr 2)] s) fun s1 =>
  u_bv (u_c 166 [.inr (.inr 38), .inl (Int32.ofInt 0)] s1) fun s2 =>
  u g_t61 23 ((u_l1 (u_l1 u_z1 1 (s2.1 36 16)) 2 (Int32.ofInt 60)), u_z2, [(0, 2)]) [] s2 := (u_cE (t := g_t61) rfl _ _).trans ((u_E (5, 17, 5, 5) [23] 120 g_t61 0 _ _ _).trans rfl)
set_option maxRecDepth 4000 in
theorem b_61_23 (li : Nat → Int32) (ll : Nat → Int64) (s : u_H) : u g_t61 23 (li, ll, [(0, 2)]) [] s =
  if 0 < (li 2) then
    u_bv (u_c 166 [.inr (.inr 38), .inl (li 2)] s) fun s1 =>
    if ((s1.1 36 16) &&& (li 1)) = (li 1) then
      some (some (.inl (li 2)), s1)
    else
      u g_t61 23 ((u_l1 li 2 ((li 2) + (u_k (-1)))), ll, [(0, 2)]) [] s1
  else
    some (some (.inl (Int32.ofInt 0)), s) := (u_E (5, 17, 5, 5) [23] 120 g_t61 23 _ _ _).trans rfl
/-! 62 GoodbyeQuay.runWithout(I)V -/
set_option maxRecDepth 4000 in
theorem b_62 (p1 : Int32) (s : u_H) : u_c 62 [.inr (.inr 2), .inl p1] s =
  u_bv (u_c 52 [.inr (.inr 2)] s) fun s1 =>
  u_bv (u_c 161 [.inr (.inr 38), .inl p1] s1) fun s2 =>
  u_bv (u_c 166 [.inr (.inr 38), .inl (Int32.ofInt 0)] s2) fun s3 =>
  some (none, s3) := (u_cE (t := g_t62) rfl _ _).trans ((u_E (5, 17, 5, 5) [] 120 g_t62 0 _ _ _).trans rfl)
/-! 63 GoodbyeQuay.says(I)I -/
set_option maxRecDepth 4000 in
theorem b_63 (p1 : Int32) (s : u_H) : u_c 63 [.inr (.inr 2), .inl p1] s =
  u_bi (u_c 34 [.inr (.inr 2), .inl p1] s) fun x2 s1 =>
  if x2 = 0 then
    some (some (.inl (u_k (-1))), s1)
  else
    u_bv (u_c 52 [.inr (.inr 2)] s1) fun s3 =>
    u_bv (u_c 166 [.inr (.inr 38), .inl (Int32.ofInt 0)] s3) fun s4 =>
    u_bi (u_c 168 [.inr (.inr 38), .inl p1] s4) fun x6 s5 =>
    some (some (.inl x6), s5) := (u_cE (t := g_t63) rfl _ _).trans ((u_E (5, 17, 5, 5) [] 120 g_t63 0 _ _ _).trans rfl)
/-! 64 GoodbyeQuay.second()I -/
set_option maxRecDepth 4000 in
theorem b_64 {W : Nat} (hW : W = 5 ∨ W = 17) (s : u_H) : u_c 64 [.inr (.inr 2)] s =
  u_bv (u_c 52 [.inr (.inr 2)] s) fun s1 =>
  if s1.2.2.1 = W then
    u_bi (u_c 76 [.inr (.inr 2)] ((y_u s1.1 36 10 ((s1.1 (W - 2) 10) + (Int32.ofInt 1))), s1.2)) fun x3 s2 =>
    some (some (.inl x3), s2)
  else
    u g_t64 12 (u_z1, u_z2, [(0, 2)]) [.inr (.inr s1.2.2.1), .inr (.inr 38)] s1 := by
  rcases hW with rfl | rfl
  · exact (u_cE (t := g_t64) rfl _ _).trans ((u_E (5, 17, 5, 5) [] 120 g_t64 0 _ _ _).trans rfl)
  · exact (u_cE (t := g_t64) rfl _ _).trans ((u_E (17, 5, 17, 17) [] 120 g_t64 0 _ _ _).trans rfl)
/-! 65 GoodbyeQuay.seen(IIZ)I -/
set_option maxRecDepth 4000 in
theorem b_65 {W : Nat} (hW : W = 5 ∨ W = 17) (p1 : Int32) (p2 : Int32) (p3 : Int32) (s : u_H) : u_c 65 [.inr (.inr 2), .inl p1, .inl p2, .inl p3] s =
  if s.2.2.1 = W then
    if (s.1 (W - 2) 4) = 0 then
      some (some (.inl (u_k (-1))), s)
    else
      u_bi (u_c 134 [.inr (.inr 57), .inl p1, .inl p2, .inl p3] s) fun x2 s1 =>
      some (some (.inl x2), s1)
  else
    u g_t65 4 ((u_l1 (u_l1 (u_l1 u_z1 1 p1) 2 p2) 3 p3), u_z2, [(0, 2)]) [.inr (.inr s.2.2.1)] s := by
  rcases hW with rfl | rfl
  · exact (u_cE (t := g_t65) rfl _ _).trans ((u_E (5, 17, 5, 5) [] 120 g_t65 0 _ _ _).trans rfl)
  · exact (u_cE (t := g_t65) rfl _ _).trans ((u_E (17, 5, 17, 17) [] 120 g_t65 0 _ _ _).trans rfl)
/-! 66 GoodbyeQuay.setOrSize(II)I -/
set_option maxRecDepth 4000 in
theorem b_66 (p1 : Int32) (p2 : Int32) (s : u_H) : u_c 66 [.inl p1, .inl p2] s =
  if p1 = (u_k (-1)) then
    some (some (.inl p1), s)
  else
    if p2 = (Int32.ofInt 1) then
      some (some (.inl p1), s)
    else
      u_bi (u_c 325 [.inl p1] s) fun x2 s1 =>
      some (some (.inl x2), s1) := (u_cE (t := g_t66) rfl _ _).trans ((u_E (5, 17, 5, 5) [] 120 g_t66 0 _ _ _).trans rfl)
/-! 67 GoodbyeQuay.ship(II)I -/
set_option maxRecDepth 4000 in
theorem b_67 {W : Nat} (hW : W = 5 ∨ W = 17) (p1 : Int32) (p2 : Int32) (s : u_H) : u_c 67 [.inr (.inr 2), .inl p1, .inl p2] s =
  u_bi (u_c 35 [.inr (.inr 2), .inl p1] s) fun x2 s1 =>
  if x2 = 0 then
    some (some (.inl (u_k (-1))), s1)
  else
    if p2 = (Int32.ofInt 0) then
      if s1.2.2.1 = W then
        u_bi (u_c 148 [.inr (.inr 30), .inr (.inr W), .inl p1] s1) fun x4 s3 =>
        some (some (.inl x4), s3)
      else
        u g_t67 52 ((u_l1 (u_l1 u_z1 1 p1) 2 p2), u_z2, [(0, 2)]) [.inr (.inr s1.2.2.1), .inr (.inr 30)] s1
    else
      if p2 = (Int32.ofInt 1) then
        if s1.2.2.1 = W then
          if u_in p1 5 = true then
            some (some (.inl (s1.1 (W + 1) (p1.toNatClampNeg))), s1)
          else
            none
        else
          u g_t67 61 ((u_l1 (u_l1 u_z1 1 p1) 2 p2), u_z2, [(0, 2)]) [.inr (.inr s1.2.2.1)] s1
      else
        if p2 = (Int32.ofInt 2) then
          u_bi (u_c 142 [.inr (.inr 30), .inl p1] s1) fun x6 s5 =>
          if x6 = 0 then
            some (some (.inl (Int32.ofInt 0)), s5)
          else
            some (some (.inl (Int32.ofInt 1)), s5)
        else
          if p2 = (Int32.ofInt 3) then
            u_bi (u_c 33 [.inr (.inr 2), .inl p1] s1) fun x8 s7 =>
            if x8 = 0 then
              some (some (.inl (Int32.ofInt 0)), s7)
            else
              some (some (.inl (Int32.ofInt 1)), s7)
          else
            if p2 = (Int32.ofInt 4) then
              if s1.2.2.1 = W then
                u_bi (u_c 155 [.inr (.inr W), .inl p1] s1) fun x10 s9 =>
                some (some (.inl x10), s9)
              else
                u g_t67 102 ((u_l1 (u_l1 u_z1 1 p1) 2 p2), u_z2, [(0, 2)]) [.inr (.inr s1.2.2.1)] s1
            else
              some (some (.inl (u_k (-1))), s1) := by
  rcases hW with rfl | rfl
  · exact (u_cE (t := g_t67) rfl _ _).trans ((u_E (5, 17, 5, 5) [] 120 g_t67 0 _ _ _).trans rfl)
  · exact (u_cE (t := g_t67) rfl _ _).trans ((u_E (17, 5, 17, 17) [] 120 g_t67 0 _ _ _).trans rfl)
/-! 68 GoodbyeQuay.shorten(I)I -/
set_option maxRecDepth 4000 in
theorem b_68 (p1 : Int32) (s : u_H) : u_c 68 [.inr (.inr 2), .inl p1] s =
  u_bi (u_c 3 [.inr (.inr 2), .inl p1, .inl (Int32.ofInt 1)] s) fun x2 s1 =>
  some (some (.inl x2), s1) := (u_cE (t := g_t68) rfl _ _).trans ((u_E (5, 17, 5, 5) [] 120 g_t68 0 _ _ _).trans rfl)
/-! 69 GoodbyeQuay.shortest(I)I -/
set_option maxRecDepth 4000 in
theorem b_69 (p1 : Int32) (s : u_H) : u_c 69 [.inr (.inr 2), .inl p1] s =
  if p1 < 0 then
    some (some (.inl (u_k (-1))), s)
  else
    if (Int32.ofInt 1) < p1 then
      some (some (.inl (u_k (-1))), s)
    else
      u_bi (u_c 8 [.inr (.inr 2), .inl (Int32.ofInt 0)] s) fun x2 s1 =>
      u_bi (u_c 8 [.inr (.inr 2), .inl (Int32.ofInt 0)] s1) fun x4 s3 =>
      u_bi (u_c 8 [.inr (.inr 2), .inl (Int32.ofInt 1)] s3) fun x6 s5 =>
      u_bv (u_c 52 [.inr (.inr 2)] s5) fun s7 =>
      u g_t69 49 ((u_l1 (u_l1 (u_l1 (u_l1 (u_l1 u_z1 1 p1) 2 (x2 &&& ((s1.1 28 3) ^^^ (u_k (-1))))) 3 (x4 ||| x6)) 4 (u_k (-1))) 5 (Int32.ofInt 0)), u_z2, [(0, 2)]) [] s7 := (u_cE (t := g_t69) rfl _ _).trans ((u_E (5, 17, 5, 5) [49] 120 g_t69 0 _ _ _).trans rfl)
set_option maxRecDepth 4000 in
theorem b_69_49 (li : Nat → Int32) (ll : Nat → Int64) (s : u_H) : u g_t69 49 (li, ll, [(0, 2)]) [] s =
  if (li 2) < (li 5) then
    u_bi (u_c 66 [.inl (li 4), .inl (li 1)] s) fun x2 s1 =>
    some (some (.inl x2), s1)
  else
    if ((li 5) &&& ((li 2) ^^^ (u_k (-1)))) = 0 then
      u_bi (u_c 32 [.inl (li 5), .inl (li 4)] s) fun x4 s3 =>
      if x4 = 0 then
        u g_t69 49 ((u_l1 li 5 ((li 5) + (Int32.ofInt 1))), ll, [(0, 2)]) [] s3
      else
        u_bv (u_c 166 [.inr (.inr 38), .inl (Int32.ofInt 0)] ((y_u s3.1 36 6 ((s3.1 28 3) ||| (li 5))), s3.2)) fun s5 =>
        if ((s5.1 36 16) &&& (li 3)) = (li 3) then
          u g_t69 49 ((u_l1 (u_l1 li 4 (li 5)) 5 ((li 5) + (Int32.ofInt 1))), ll, [(0, 2)]) [] s5
        else
          u g_t69 49 ((u_l1 (u_l1 li 4 (li 4)) 5 ((li 5) + (Int32.ofInt 1))), ll, [(0, 2)]) [] s5
    else
      u g_t69 49 ((u_l1 li 5 ((li 5) + (Int32.ofInt 1))), ll, [(0, 2)]) [] s := (u_E (5, 17, 5, 5) [49] 120 g_t69 49 _ _ _).trans rfl
/-! 70 GoodbyeQuay.soonest()I -/
set_option maxRecDepth 4000 in
theorem b_70 (s : u_H) : u_c 70 [.inr (.inr 2)] s =
  u g_t70 4 ((u_l1 (u_l1 u_z1 1 (u_k (-1))) 2 (Int32.ofInt 0)), u_z2, [(0, 2)]) [] s := (u_cE (t := g_t70) rfl _ _).trans ((u_E (5, 17, 5, 5) [4, 52] 120 g_t70 0 _ _ _).trans rfl)
set_option maxRecDepth 4000 in
theorem b_70_4 {W : Nat} (hW : W = 5 ∨ W = 17) (li : Nat → Int32) (ll : Nat → Int64) (s : u_H) : u g_t70 4 (li, ll, [(0, 2)]) [] s =
  if s.2.2.1 = W then
    if (li 2) < (s.1 (W - 2) 0) then
      if (li 1) = (u_k (-1)) then
        u g_t70 52 (li, ll, [(0, 2)]) [.inl (Int32.ofInt 1)] s
      else
        if s.2.2.1 = W then
          u_bi (u_c 148 [.inr (.inr 30), .inr (.inr W), .inl (li 2)] s) fun x2 s1 =>
          if s1.2.2.1 = W then
            u_bi (u_c 148 [.inr (.inr 30), .inr (.inr W), .inl (li 1)] s1) fun x4 s3 =>
            if x2 < x4 then
              u g_t70 52 (li, ll, [(0, 2)]) [.inl (Int32.ofInt 1)] s3
            else
              u g_t70 52 (li, ll, [(0, 2)]) [.inl (Int32.ofInt 0)] s3
          else
            u g_t70 40 (li, ll, [(0, 2)]) [.inr (.inr s1.2.2.1), .inr (.inr 30), .inl x2] s1
        else
          u g_t70 28 (li, ll, [(0, 2)]) [.inr (.inr s.2.2.1), .inr (.inr 30)] s
    else
      some (some (.inl (li 1)), s)
  else
    u g_t70 9 (li, ll, [(0, 2)]) [.inr (.inr s.2.2.1), .inl (li 2)] s := by
  rcases hW with rfl | rfl
  · exact (u_E (5, 17, 5, 5) [4, 52] 120 g_t70 4 _ _ _).trans rfl
  · exact (u_E (17, 5, 17, 17) [4, 52] 120 g_t70 4 _ _ _).trans rfl
set_option maxRecDepth 4000 in
theorem b_70_52 (v0 : Int32) (li : Nat → Int32) (ll : Nat → Int64) (s : u_H) : u g_t70 52 (li, ll, [(0, 2)]) [.inl v0] s =
  if v0 = 0 then
    u g_t70 4 ((u_l1 (u_l1 li 3 v0) 2 ((li 2) + (Int32.ofInt 1))), ll, [(0, 2)]) [] s
  else
    u_bi (u_c 33 [.inr (.inr 2), .inl (li 2)] s) fun x2 s1 =>
    if x2 = 0 then
      u g_t70 4 ((u_l1 (u_l1 (u_l1 li 3 v0) 1 (li 2)) 2 ((li 2) + (Int32.ofInt 1))), ll, [(0, 2)]) [] s1
    else
      u g_t70 4 ((u_l1 (u_l1 li 3 v0) 2 ((li 2) + (Int32.ofInt 1))), ll, [(0, 2)]) [] s1 := (u_E (5, 17, 5, 5) [4, 52] 120 g_t70 52 _ _ _).trans rfl
/-! 71 GoodbyeQuay.spare(I)I -/
set_option maxRecDepth 4000 in
theorem b_71 (p1 : Int32) (s : u_H) : u_c 71 [.inr (.inr 2), .inl p1] s =
  if p1 < 0 then
    some (some (.inl (u_k (-1))), s)
  else
    if (Int32.ofInt 1) < p1 then
      some (some (.inl (u_k (-1))), s)
    else
      u_bi (u_c 8 [.inr (.inr 2), .inl (Int32.ofInt 0)] s) fun x2 s1 =>
      u_bi (u_c 8 [.inr (.inr 2), .inl (Int32.ofInt 1)] s1) fun x4 s3 =>
      u g_t71 29 ((u_l1 (u_l1 (u_l1 (u_l1 (u_l1 u_z1 1 p1) 2 x2) 3 x4) 4 (u_k (-1))) 5 (Int32.ofInt 0)), u_z2, [(0, 2)]) [] s3 := (u_cE (t := g_t71) rfl _ _).trans ((u_E (5, 17, 5, 5) [29] 120 g_t71 0 _ _ _).trans rfl)
set_option maxRecDepth 4000 in
theorem b_71_29 (li : Nat → Int32) (ll : Nat → Int64) (s : u_H) : u g_t71 29 (li, ll, [(0, 2)]) [] s =
  if (li 2) < (li 5) then
    u_bi (u_c 66 [.inl (li 4), .inl (li 1)] s) fun x2 s1 =>
    some (some (.inl x2), s1)
  else
    if ((li 5) &&& ((li 2) ^^^ (u_k (-1)))) = 0 then
      u_bi (u_c 32 [.inl (li 5), .inl (li 4)] s) fun x4 s3 =>
      if x4 = 0 then
        u g_t71 29 ((u_l1 li 5 ((li 5) + (Int32.ofInt 1))), ll, [(0, 2)]) [] s3
      else
        u_bv (u_c 62 [.inr (.inr 2), .inl (li 5)] s3) fun s5 =>
        if ((s5.1 36 16) &&& (((li 2) &&& ((li 5) ^^^ (u_k (-1)))) ||| (li 3))) = (((li 2) &&& ((li 5) ^^^ (u_k (-1)))) ||| (li 3)) then
          u g_t71 29 ((u_l1 (u_l1 (u_l1 li 6 (((li 2) &&& ((li 5) ^^^ (u_k (-1)))) ||| (li 3))) 4 (li 5)) 5 ((li 5) + (Int32.ofInt 1))), ll, [(0, 2)]) [] s5
        else
          u g_t71 29 ((u_l1 (u_l1 (u_l1 li 6 (((li 2) &&& ((li 5) ^^^ (u_k (-1)))) ||| (li 3))) 4 (li 4)) 5 ((li 5) + (Int32.ofInt 1))), ll, [(0, 2)]) [] s5
    else
      u g_t71 29 ((u_l1 li 5 ((li 5) + (Int32.ofInt 1))), ll, [(0, 2)]) [] s := (u_E (5, 17, 5, 5) [29] 120 g_t71 29 _ _ _).trans rfl
/-! 72 GoodbyeQuay.steps(I)I -/
set_option maxRecDepth 4000 in
theorem b_72 (p1 : Int32) (s : u_H) : u_c 72 [.inr (.inr 2), .inl p1] s =
  u_bi (u_c 30 [.inr (.inr 2), .inl p1] s) fun x2 s1 =>
  if x2 = 0 then
    some (some (.inl (u_k (-1))), s1)
  else
    u_bv (u_c 52 [.inr (.inr 2)] s1) fun s3 =>
    u_bv (u_c 166 [.inr (.inr 38), .inl (Int32.ofInt 0)] s3) fun s4 =>
    u_bi (u_c 171 [.inr (.inr 38), .inl p1] s4) fun x6 s5 =>
    some (some (.inl x6), s5) := (u_cE (t := g_t72) rfl _ _).trans ((u_E (5, 17, 5, 5) [] 120 g_t72 0 _ _ _).trans rfl)
/-! 73 GoodbyeQuay.sure(II)I -/
set_option maxRecDepth 4000 in
theorem b_73 (p1 : Int32) (p2 : Int32) (s : u_H) : u_c 73 [.inr (.inr 2), .inl p1, .inl p2] s =
  u_bi (u_c 131 [.inr (.inr 57), .inl p2] s) fun x2 s1 =>
  if x2 = 0 then
    some (some (.inl (u_k (-1))), s1)
  else
    if p1 < 0 then
      some (some (.inl (u_k (-1))), s1)
    else
      if (Int32.ofInt 1) < p1 then
        some (some (.inl (u_k (-1))), s1)
      else
        u g_t73 30 ((u_l1 (u_l1 (u_l1 (u_l1 (u_l1 u_z1 1 p1) 2 p2) 3 x2) 4 (u_k (-1))) 5 (Int32.ofInt 1)), u_z2, [(0, 2)]) [] s1 := (u_cE (t := g_t73) rfl _ _).trans ((u_E (5, 17, 5, 5) [30, 53] 120 g_t73 0 _ _ _).trans rfl)
set_option maxRecDepth 4000 in
theorem b_73_30 (li : Nat → Int32) (ll : Nat → Int64) (s : u_H) : u g_t73 30 (li, ll, [(0, 2)]) [] s =
  if (Int32.ofInt 30) < (li 5) then
    some (some (.inl (li 4)), s)
  else
    if (li 1) = (Int32.ofInt 1) then
      u g_t73 53 (li, ll, [(0, 2)]) [.inl (Int32.ofInt 1)] s
    else
      if (li 4) = (u_k (-1)) then
        u g_t73 53 (li, ll, [(0, 2)]) [.inl (Int32.ofInt 1)] s
      else
        u g_t73 53 (li, ll, [(0, 2)]) [.inl (Int32.ofInt 0)] s := (u_E (5, 17, 5, 5) [30, 53] 120 g_t73 30 _ _ _).trans rfl
set_option maxRecDepth 4000 in
theorem b_73_53 (v0 : Int32) (li : Nat → Int32) (ll : Nat → Int64) (s : u_H) : u g_t73 53 (li, ll, [(0, 2)]) [.inl v0] s =
  if v0 = 0 then
    u g_t73 30 ((u_l1 (u_l1 li 6 v0) 5 ((li 5) + (Int32.ofInt 1))), ll, [(0, 2)]) [] s
  else
    u_bi (u_c 28 [.inl (li 3), .inl ((li 5) - (Int32.ofInt 1))] s) fun x2 s1 =>
    if x2 = 0 then
      u g_t73 30 ((u_l1 (u_l1 li 6 v0) 5 ((li 5) + (Int32.ofInt 1))), ll, [(0, 2)]) [] s1
    else
      u g_t73 30 ((u_l1 (u_l1 (u_l1 li 6 v0) 4 (li 5)) 5 ((li 5) + (Int32.ofInt 1))), ll, [(0, 2)]) [] s1 := (u_E (5, 17, 5, 5) [30, 53] 120 g_t73 53 _ _ _).trans rfl
/-! 74 GoodbyeQuay.swap(I)I -/
set_option maxRecDepth 4000 in
theorem b_74 (p1 : Int32) (s : u_H) : u_c 74 [.inr (.inr 2), .inl p1] s =
  if p1 < 0 then
    some (some (.inl (u_k (-1))), s)
  else
    if (Int32.ofInt 2) < p1 then
      some (some (.inl (u_k (-1))), s)
    else
      u_bi (u_c 14 [.inr (.inr 2)] s) fun x2 s1 =>
      u g_t74 24 ((u_l1 (u_l1 (u_l1 (u_l1 (u_l1 u_z1 1 p1) 2 x2) 3 (u_k (-1))) 4 (u_k (-1))) 5 (Int32.ofInt 0)), u_z2, [(0, 2)]) [] s1 := (u_cE (t := g_t74) rfl _ _).trans ((u_E (5, 17, 5, 5) [24, 42, 84] 120 g_t74 0 _ _ _).trans rfl)
set_option maxRecDepth 4000 in
theorem b_74_24 {W : Nat} (hW : W = 5 ∨ W = 17) (li : Nat → Int32) (ll : Nat → Int64) (s : u_H) : u g_t74 24 (li, ll, [(0, 2)]) [] s =
  if s.2.2.1 = W then
    if (li 5) < (s.1 (W - 2) 4) then
      u g_t74 42 ((u_l1 li 6 ((li 5) + (Int32.ofInt 1))), ll, [(0, 2)]) [] s
    else
      if (li 3) = (u_k (-1)) then
        some (some (.inl (li 3)), s)
      else
        if (li 1) = 0 then
          some (some (.inl (li 3)), s)
        else
          if (li 1) = (Int32.ofInt 1) then
            some (some (.inl (li 4)), s)
          else
            some (some (.inl (li 2)), s)
  else
    u g_t74 30 (li, ll, [(0, 2)]) [.inr (.inr s.2.2.1), .inl (li 5)] s := by
  rcases hW with rfl | rfl
  · exact (u_E (5, 17, 5, 5) [24, 42, 84] 120 g_t74 24 _ _ _).trans rfl
  · exact (u_E (17, 5, 17, 17) [24, 42, 84] 120 g_t74 24 _ _ _).trans rfl
set_option maxRecDepth 4000 in
theorem b_74_42 {W : Nat} (hW : W = 5 ∨ W = 17) (li : Nat → Int32) (ll : Nat → Int64) (s : u_H) : u g_t74 42 (li, ll, [(0, 2)]) [] s =
  if s.2.2.1 = W then
    if (li 6) < (s.1 (W - 2) 4) then
      u_bi (u_c 30 [.inr (.inr 2), .inl (li 5)] s) fun x2 s1 =>
      if x2 = 0 then
        u g_t74 84 (li, ll, [(0, 2)]) [.inl (u_k (-1))] s1
      else
        u_bi (u_c 30 [.inr (.inr 2), .inl (li 6)] s1) fun x4 s3 =>
        if x4 = 0 then
          u g_t74 84 (li, ll, [(0, 2)]) [.inl (u_k (-1))] s3
        else
          u_bi (u_c 13 [.inr (.inr 2), .inl (li 5), .inl (li 6)] s3) fun x6 s5 =>
          u g_t74 84 (li, ll, [(0, 2)]) [.inl x6] s5
    else
      u g_t74 24 ((u_l1 li 5 ((li 5) + (Int32.ofInt 1))), ll, [(0, 2)]) [] s
  else
    u g_t74 48 (li, ll, [(0, 2)]) [.inr (.inr s.2.2.1), .inl (li 6)] s := by
  rcases hW with rfl | rfl
  · exact (u_E (5, 17, 5, 5) [24, 42, 84] 120 g_t74 42 _ _ _).trans rfl
  · exact (u_E (17, 5, 17, 17) [24, 42, 84] 120 g_t74 42 _ _ _).trans rfl
set_option maxRecDepth 4000 in
theorem b_74_84 (v0 : Int32) (li : Nat → Int32) (ll : Nat → Int64) (s : u_H) : u g_t74 84 (li, ll, [(0, 2)]) [.inl v0] s =
  if (li 2) < v0 then
    u g_t74 42 ((u_l1 (u_l1 (u_l1 (u_l1 (u_l1 li 7 v0) 2 v0) 3 (li 5)) 4 (li 6)) 6 ((li 6) + (Int32.ofInt 1))), ll, [(0, 2)]) [] s
  else
    u g_t74 42 ((u_l1 (u_l1 li 7 v0) 6 ((li 6) + (Int32.ofInt 1))), ll, [(0, 2)]) [] s := (u_E (5, 17, 5, 5) [24, 42, 84] 120 g_t74 84 _ _ _).trans rfl
/-! 75 GoodbyeQuay.trade()I -/
set_option maxRecDepth 4000 in
theorem b_75 (s : u_H) : u_c 75 [.inr (.inr 2)] s =
  u g_t75 2 ((u_l1 u_z1 1 (Int32.ofInt 0)), u_z2, [(0, 2)]) [] s := (u_cE (t := g_t75) rfl _ _).trans ((u_E (5, 17, 5, 5) [2, 56] 120 g_t75 0 _ _ _).trans rfl)
set_option maxRecDepth 4000 in
theorem b_75_2 {W : Nat} (hW : W = 5 ∨ W = 17) (li : Nat → Int32) (ll : Nat → Int64) (s : u_H) : u g_t75 2 (li, ll, [(0, 2)]) [] s =
  if (li 1) < (s.1 28 1) then
    if s.2.2.1 = W then
      u_bv (u_c 100 [.inr (.inr 53), .inr (.inr 38), .inr (.inr W), .inr (.inr 30), .inl (li 1)] s) fun s1 =>
      u g_t75 2 ((u_l1 li 1 ((li 1) + (Int32.ofInt 1))), ll, [(0, 2)]) [] s1
    else
      u g_t75 25 (li, ll, [(0, 2)]) [.inr (.inr s.2.2.1), .inr (.inr 38), .inr (.inr 53)] s
  else
    u_bi (u_c 102 [.inr (.inr 53), .inl (s.1 28 1)] s) fun x3 s2 =>
    u g_t75 56 ((u_l1 (u_l1 li 1 x3) 2 (Int32.ofInt 0)), ll, [(0, 2)]) [] s2 := by
  rcases hW with rfl | rfl
  · exact (u_E (5, 17, 5, 5) [2, 56] 120 g_t75 2 _ _ _).trans rfl
  · exact (u_E (17, 5, 17, 17) [2, 56] 120 g_t75 2 _ _ _).trans rfl
set_option maxRecDepth 4000 in
theorem b_75_56 (li : Nat → Int32) (ll : Nat → Int64) (s : u_H) : u g_t75 56 (li, ll, [(0, 2)]) [] s =
  if (li 2) < (s.1 28 1) then
    if u_in (li 2) 7 = true then
      if u_in (s.1 54 ((li 2).toNatClampNeg)) 7 = true then
        if u_in (li 2) 7 = true then
          u g_t75 56 ((u_l1 li 2 ((li 2) + (Int32.ofInt 1))), ll, [(0, 2)]) [] ((y_u s.1 64 ((li 2).toNatClampNeg) (s.1 29 ((s.1 54 ((li 2).toNatClampNeg)).toNatClampNeg))), s.2)
        else
          none
      else
        none
    else
      none
  else
    some (some (.inl (li 1)), ((y_u s.1 0 14 (s.1 28 1)), s.2)) := (u_E (5, 17, 5, 5) [2, 56] 120 g_t75 56 _ _ _).trans rfl
/-! 76 GoodbyeQuay.triedCount()I -/
set_option maxRecDepth 4000 in
theorem b_76 (s : u_H) : u_c 76 [.inr (.inr 2)] s =
  u_bv (u_c 166 [.inr (.inr 38), .inl (Int32.ofInt 0)] s) fun s1 =>
  u_bi (u_c 325 [.inl (s1.1 36 16)] s1) fun x3 s2 =>
  some (some (.inl x3), s2) := (u_cE (t := g_t76) rfl _ _).trans ((u_E (5, 17, 5, 5) [] 120 g_t76 0 _ _ _).trans rfl)
/-! 77 GoodbyeQuay.undo()Z -/
set_option maxRecDepth 4000 in
theorem b_77 (s : u_H) : u_c 77 [.inr (.inr 2)] s =
  u_bi (u_c 98 [.inr (.inr 35), .inr (.inr 30)] s) fun x2 s1 =>
  if q_ib x2 = true then some (some (.inl x2), s1) else none := (u_cE (t := g_t77) rfl _ _).trans ((u_E (5, 17, 5, 5) [] 120 g_t77 0 _ _ _).trans rfl)
/-! 78 GoodbyeQuay.untell(I)Z -/
set_option maxRecDepth 4000 in
theorem b_78 (p1 : Int32) (s : u_H) : u_c 78 [.inr (.inr 2), .inl p1] s =
  u_bi (u_c 137 [.inr (.inr 57), .inl p1] s) fun x2 s1 =>
  if q_ib x2 = true then some (some (.inl x2), s1) else none := (u_cE (t := g_t78) rfl _ _).trans ((u_E (5, 17, 5, 5) [] 120 g_t78 0 _ _ _).trans rfl)
/-! 79 GoodbyeQuay.waves()I -/
set_option maxRecDepth 4000 in
theorem b_79 (s : u_H) : u_c 79 [.inr (.inr 2)] s =
  some (some (.inl (s.1 28 7)), s) := (u_cE (t := g_t79) rfl _ _).trans ((u_E (5, 17, 5, 5) [] 120 g_t79 0 _ _ _).trans rfl)
/-! 80 GoodbyeQuay.will(III)I -/
set_option maxRecDepth 4000 in
theorem b_80 {W : Nat} (hW : W = 5 ∨ W = 17) (p1 : Int32) (p2 : Int32) (p3 : Int32) (s : u_H) : u_c 80 [.inr (.inr 2), .inl p1, .inl p2, .inl p3] s =
  u_bi (u_c 34 [.inr (.inr 2), .inl p1] s) fun x2 s1 =>
  if x2 = 0 then
    some (some (.inl (u_k (-1))), s1)
  else
    if p2 < 0 then
      some (some (.inl (u_k (-1))), s1)
    else
      if (u_k 400) < p2 then
        some (some (.inl (u_k (-1))), s1)
      else
        if p3 < 0 then
          some (some (.inl (u_k (-1))), s1)
        else
          if (Int32.ofInt 1) < p3 then
            some (some (.inl (u_k (-1))), s1)
          else
            u_bv (u_c 52 [.inr (.inr 2)] s1) fun s3 =>
            if p3 = (Int32.ofInt 1) then
              if s3.2.2.1 = W then
                u g_t80 67 ((u_l1 (u_l1 (u_l1 u_z1 1 p1) 2 p2) 3 p3), u_z2, [(0, 2)]) [] ((y_u (y_u s3.1 36 8 (s3.1 (W - 2) 11)) 36 9 (s3.1 28 9)), s3.2)
              else
                u g_t80 47 ((u_l1 (u_l1 (u_l1 u_z1 1 p1) 2 p2) 3 p3), u_z2, [(0, 2)]) [.inr (.inr s3.2.2.1), .inr (.inr 38)] s3
            else
              u g_t80 67 ((u_l1 (u_l1 (u_l1 u_z1 1 p1) 2 p2) 3 p3), u_z2, [(0, 2)]) [] s3 := by
  rcases hW with rfl | rfl
  · exact (u_cE (t := g_t80) rfl _ _).trans ((u_E (5, 17, 5, 5) [67] 120 g_t80 0 _ _ _).trans rfl)
  · exact (u_cE (t := g_t80) rfl _ _).trans ((u_E (17, 5, 17, 17) [67] 120 g_t80 0 _ _ _).trans rfl)
set_option maxRecDepth 4000 in
theorem b_80_67 (li : Nat → Int32) (ll : Nat → Int64) (s : u_H) : u g_t80 67 (li, ll, [(0, 2)]) [] s =
  u_bv (u_c 166 [.inr (.inr 38), .inl (Int32.ofInt 0)] s) fun s1 =>
  if u_in (li 1) 7 = true then
    if (s1.1 30 ((li 1).toNatClampNeg)) = 0 then
      u_bi (u_c 160 [.inr (.inr 38), .inl (li 1), .inl (li 2)] s1) fun x3 s2 =>
      some (some (.inl x3), s2)
    else
      if u_in (li 1) 7 = true then
        if (s1.1 30 ((li 1).toNatClampNeg)) = (Int32.ofInt 1) then
          u_bi (u_c 160 [.inr (.inr 38), .inl (li 1), .inl (li 2)] s1) fun x5 s4 =>
          some (some (.inl x5), s4)
        else
          if u_in (li 1) 7 = true then
            some (some (.inl (s1.1 30 ((li 1).toNatClampNeg))), s1)
          else
            none
      else
        none
  else
    none := (u_E (5, 17, 5, 5) [67] 120 g_t80 67 _ _ _).trans rfl
/-! 81 GoodbyeQuay.wish(I)I -/
set_option maxRecDepth 4000 in
theorem b_81 {W : Nat} (hW : W = 5 ∨ W = 17) (p1 : Int32) (s : u_H) : u_c 81 [.inr (.inr 2), .inl p1] s =
  u_bi (u_c 30 [.inr (.inr 2), .inl p1] s) fun x2 s1 =>
  if x2 = 0 then
    some (some (.inl (u_k (-1))), s1)
  else
    u_bi (u_c 147 [.inr (.inr 30), .inl p1] s1) fun x4 s3 =>
    if s3.2.2.1 = W then
      u_bv (u_c 100 [.inr (.inr 53), .inr (.inr 38), .inr (.inr W), .inr (.inr 30), .inl x4] s3) fun s5 =>
      u_bi (u_c 103 [.inr (.inr 53), .inl x4, .inl (((Int32.ofInt 1) <<< ((s5.1 28 1) &&& 31)) - (Int32.ofInt 1))] s5) fun x7 s6 =>
      some (some (.inl x7), s6)
    else
      u g_t81 31 ((u_l1 (u_l1 u_z1 1 p1) 2 x4), u_z2, [(0, 2)]) [.inr (.inr s3.2.2.1), .inr (.inr 38), .inr (.inr 53)] s3 := by
  rcases hW with rfl | rfl
  · exact (u_cE (t := g_t81) rfl _ _).trans ((u_E (5, 17, 5, 5) [] 120 g_t81 0 _ _ _).trans rfl)
  · exact (u_cE (t := g_t81) rfl _ _).trans ((u_E (17, 5, 17, 17) [] 120 g_t81 0 _ _ _).trans rfl)
/-! 82 GoodbyeQuay.workRails()I -/
set_option maxRecDepth 4000 in
theorem b_82 (s : u_H) : u_c 82 [.inr (.inr 2)] s =
  u g_t82 4 ((u_l1 (u_l1 u_z1 1 (Int32.ofInt 0)) 2 (Int32.ofInt 0)), u_z2, [(0, 2)]) [] s := (u_cE (t := g_t82) rfl _ _).trans ((u_E (5, 17, 5, 5) [4] 120 g_t82 0 _ _ _).trans rfl)
set_option maxRecDepth 4000 in
theorem b_82_4 {W : Nat} (hW : W = 5 ∨ W = 17) (li : Nat → Int32) (ll : Nat → Int64) (s : u_H) : u g_t82 4 (li, ll, [(0, 2)]) [] s =
  if s.2.2.1 = W then
    if (li 2) < (s.1 (W - 2) 10) then
      if u_in (li 2) 2 = true then
        if (s.1 31 ((li 2).toNatClampNeg)) = (u_k (-1)) then
          u g_t82 4 ((u_l1 li 2 ((li 2) + (Int32.ofInt 1))), ll, [(0, 2)]) [] s
        else
          if u_in (li 2) 2 = true then
            if u_in (li 2) 2 = true then
              if u_in (li 2) 2 = true then
                if ((y_u s.1 32 ((li 2).toNatClampNeg) ((s.1 32 ((li 2).toNatClampNeg)) - (Int32.ofInt 1))) 32 ((li 2).toNatClampNeg)) = 0 then
                  if u_in (li 2) 2 = true then
                    u_bv (u_c 141 [.inr (.inr 30), .inl (li 2), .inl (Int32.ofInt 2)] ((y_u s.1 32 ((li 2).toNatClampNeg) ((s.1 32 ((li 2).toNatClampNeg)) - (Int32.ofInt 1))), s.2)) fun s1 =>
                    u g_t82 4 ((u_l1 (u_l1 li 1 ((li 1) ||| ((Int32.ofInt 1) <<< ((s.1 31 ((li 2).toNatClampNeg)) &&& 31)))) 2 ((li 2) + (Int32.ofInt 1))), ll, [(0, 2)]) [] s1
                  else
                    none
                else
                  u g_t82 4 ((u_l1 li 2 ((li 2) + (Int32.ofInt 1))), ll, [(0, 2)]) [] ((y_u s.1 32 ((li 2).toNatClampNeg) ((s.1 32 ((li 2).toNatClampNeg)) - (Int32.ofInt 1))), s.2)
              else
                none
            else
              none
          else
            none
      else
        none
    else
      some (some (.inl (li 1)), s)
  else
    u g_t82 9 (li, ll, [(0, 2)]) [.inr (.inr s.2.2.1), .inl (li 2)] s := by
  rcases hW with rfl | rfl
  · exact (u_E (5, 17, 5, 5) [4] 120 g_t82 4 _ _ _).trans rfl
  · exact (u_E (17, 5, 17, 17) [4] 120 g_t82 4 _ _ _).trans rfl
/-! 84 GoodbyeQuay$Formula.add(I)V -/
set_option maxRecDepth 4000 in
theorem b_84 {W : Nat} (hW : W = 5 ∨ W = 17) (p1 : Int32) (s : u_H) : u_c 84 [.inr (.inr (W + 8)), .inl p1] s =
  if (s.1 (W + 6) 3) < (u_k 270) then
    if p1 < (u_k (-6)) then
      some (none, s)
    else
      if u_in (s.1 (W + 6) 3) 270 = true then
        some (none, ((y_u (y_u s.1 (W + 7) ((s.1 (W + 6) 3).toNatClampNeg) p1) (W + 6) 3 ((s.1 (W + 6) 3) + (Int32.ofInt 1))), s.2))
      else
        none
  else
    some (none, s) := by
  rcases hW with rfl | rfl
  · exact (u_cE (t := g_t84) rfl _ _).trans ((u_E (5, 17, 5, 5) [] 120 g_t84 0 _ _ _).trans rfl)
  · exact (u_cE (t := g_t84) rfl _ _).trans ((u_E (17, 5, 17, 17) [] 120 g_t84 0 _ _ _).trans rfl)
/-! 85 GoodbyeQuay$Formula.combine(III)I -/
set_option maxRecDepth 4000 in
theorem b_85 (p1 : Int32) (p2 : Int32) (p3 : Int32) (s : u_H) : u_c 85 [.inl p1, .inl p2, .inl p3] s =
  if p1 = (Int32.ofInt 37) then
    if p3 = 0 then
      some (some (.inl (Int32.ofInt 0)), s)
    else
      if p3 = 0 then
        none
      else
        some (some (.inl (p2 - p2 / p3 * p3)), s)
  else
    if p1 = (Int32.ofInt 42) then
      some (some (.inl (p2 * p3)), s)
    else
      if p1 = (Int32.ofInt 43) then
        some (some (.inl (p2 + p3)), s)
      else
        if p1 = (Int32.ofInt 45) then
          some (some (.inl (p2 - p3)), s)
        else
          if p1 = (Int32.ofInt 47) then
            if p3 = 0 then
              some (some (.inl (Int32.ofInt 0)), s)
            else
              if p3 = 0 then
                none
              else
                some (some (.inl (p2 / p3)), s)
          else
            if p1 = (Int32.ofInt 60) then
              if p2 < p3 then
                some (some (.inl (Int32.ofInt 1)), s)
              else
                some (some (.inl (Int32.ofInt 0)), s)
            else
              if p1 = (Int32.ofInt 61) then
                if p2 = p3 then
                  some (some (.inl (Int32.ofInt 1)), s)
                else
                  some (some (.inl (Int32.ofInt 0)), s)
              else
                if p1 = (Int32.ofInt 62) then
                  if p3 < p2 then
                    some (some (.inl (Int32.ofInt 1)), s)
                  else
                    some (some (.inl (Int32.ofInt 0)), s)
                else
                  if p1 = (Int32.ofInt 270) then
                    if p2 = 0 then
                      if p3 = 0 then
                        some (some (.inl (Int32.ofInt 0)), s)
                      else
                        some (some (.inl (Int32.ofInt 1)), s)
                    else
                      some (some (.inl (Int32.ofInt 1)), s)
                  else
                    if p1 = (Int32.ofInt 271) then
                      if p2 = 0 then
                        some (some (.inl (Int32.ofInt 0)), s)
                      else
                        if p3 = 0 then
                          some (some (.inl (Int32.ofInt 0)), s)
                        else
                          some (some (.inl (Int32.ofInt 1)), s)
                    else
                      some (some (.inl (Int32.ofInt 0)), s) := (u_cE (t := g_t85) rfl _ _).trans ((u_E (5, 17, 5, 5) [] 120 g_t85 0 _ _ _).trans rfl)
